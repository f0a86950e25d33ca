def rm_c_M_thrown : Room := ({ frames := 0, cells := 0, slots := 0, locals := 0 } : Room)
set_option maxHeartbeats 4000000 in
set_option maxRecDepth 100000 in
theorem c_M_thrown (l : Launch) (dC : Nat → ClassId) (dI : Nat → Nat → Nat) (m0 : Nat) (n0 : Nat) (n1 : Nat) (n2 : Nat) (cd : Nat) (dt : Nat) (e0 : Nat) (e1 : Nat) (rt : Nat) (e2 : Nat) (e3 : Nat) (e4 : Nat) (sz9 : Nat) (at9 : Nat) (fl : Nat) (pl : Int32) (wr : Nat) (e5 : Nat) (cI : ClassId) (cB : ClassId) (Hc : Heap) : Met l yM_thrown wsM_thrown rm_c_M_thrown (zR (dC, dI) [(cI, .int), (cB, .byte)] [.ref m0] [(m0, .inr (4, [.ref n0, .ref n1, .ref n2, .int (nI cd), .int (nI dt), .ref e0, .ref e1, .int (nI rt), .ref e2, .ref e3, .ref e4, .int (nI sz9), .int (nI at9), .int (nI fl), .int pl, .int (nI wr), .ref e5]))] Hc) (zRi Hc (fun r => r = nI cd)) 0 0 zNo := by
  refine Met.ofW (cc := cM_thrown) (maxL := 1) (ret := (some .int)) (by decide) rfl ?_
  intro p e s m args below meth c s₁ Bd hml hv
  obtain ⟨rfl, hH, hG, hP, hK⟩ := hv
  subst hH
  have hx := Bd.exec
  have hb := Bd.bytes
  have hr := Bd.returns
  have hts := atoms_spec (ws := wsM_thrown) Bd.pre
  have hw : ∀ w ∈ BIG, w.before _ s = true := fun w h => hts w (List.mem_cons_of_mem _ h)
  have hown : s.vm.findClass RM = some m.cls := findClass_of_methodNamed Bd.named
  have hlocks := Bd.notSynchronized
  have hS : va_S zNo s.heap s.heap [] := va_S.rf
  have hl := lv_entry ([.ref m0]) (n := 1) (Nat.le_of_ble_eq_true rfl)
  rw [lg_entry_eq]
  generalize (lg_sl ([.ref m0]) ++ List.replicate (1 - (lg_sl ([.ref m0])).length) Slot.unset).toArray = ls at hl ⊢
  have hl : lv_has ls 1 [(0, .ref m0)] := hl
  refine zq_name (fun Q hQ => ?_)
  change W p l e rm_c_M_thrown s m _ below meth c _ _ _ _ Q _
  refine lv_aload_n hx hb dM_thrown_0 rfl (lv_at hl 0 rfl) ?_
  refine va_get (D := (dC, dI)) (ci := 4) (v := .int (nI cd)) (C := RM) (T := TM) (N := 17) hx hb hw inM hown hK hP 0 rfl rfl 3 (by decide) (hw _ w_fl_M_45) (fun _ h9 => h9) rfl dM_thrown_1 ?_
  subst hQ
  exact W.iret (v := nI cd) hx hb hr (fun t ht hW => ⟨⟨nI cd, (), rfl, rfl, ht⟩, hS.F ht⟩) hS.2.2 dM_thrown_4
def rm_c_goes_1 : Room := ({ frames := 0, cells := 0, slots := 0, locals := 0 } : Room)
set_option maxHeartbeats 4000000 in
set_option maxRecDepth 100000 in
theorem c_goes_1 (l : Launch) (dC : Nat → ClassId) (dI : Nat → Nat → Nat) (m0 : Nat) (n0 : Nat) (n1 : Nat) (n2 : Nat) (cd : Nat) (dt : Nat) (e0 : Nat) (e1 : Nat) (rt : Nat) (e2 : Nat) (e3 : Nat) (e4 : Nat) (sz9 : Nat) (at9 : Nat) (fl : Nat) (pl : Int32) (wr : Nat) (e5 : Nat) (cI : ClassId) (cB : ClassId) (sz : Nat) : Met l yM_goes wsM_goes rm_c_goes_1 (zM (dC, dI) [(cI, .int), (cB, .byte)] [.ref m0, .int (nI 1)] [(m0, .inr (4, [.ref n0, .ref n1, .ref n2, .int (nI cd), .int (nI dt), .ref e0, .ref e1, .int (nI rt), .ref e2, .ref e3, .ref e4, .int (nI sz9), .int (nI at9), .int (nI fl), .int pl, .int (nI wr), .ref e5]))] sz) (zMi (dC, dI) [(m0, .inr (4, [.ref n0, .ref n1, .ref n2, .int (nI cd), .int (nI dt), .ref e0, .ref e1, .int (nI rt), .ref e2, .ref e3, .ref e4, .int (nI sz9), .int (nI at9), .int (nI fl), .int pl, .int (nI wr), .ref e5]))] [(m0, .inr (4, [.ref n0, .ref n1, .ref n2, .int (nI 0), .int (nI dt), .ref e0, .ref e1, .int (nI rt), .ref e2, .ref e3, .ref e4, .int (nI sz9), .int (nI at9), .int (nI fl), .int pl, .int (nI wr), .ref e5]))] sz (fun r => r = nI 1)) 0 0 (va_A [(m0, .inr (4, [.ref n0, .ref n1, .ref n2, .int (nI cd), .int (nI dt), .ref e0, .ref e1, .int (nI rt), .ref e2, .ref e3, .ref e4, .int (nI sz9), .int (nI at9), .int (nI fl), .int pl, .int (nI wr), .ref e5]))] sz) := by
  refine Met.ofW (cc := cM_goes) (maxL := 2) (ret := (some .boolean)) (by decide) rfl ?_
  intro p e s m args below meth c s₁ Bd hml hv
  obtain ⟨rfl, hsz, hG, hP, hK, hD0⟩ := hv
  subst hsz
  have hx := Bd.exec
  have hb := Bd.bytes
  have hr := Bd.returns
  have hts := atoms_spec (ws := wsM_goes) Bd.pre
  have hw : ∀ w ∈ BIG, w.before _ s = true := fun w h => hts w (List.mem_cons_of_mem _ h)
  have hown : s.vm.findClass RM = some m.cls := findClass_of_methodNamed Bd.named
  have hlocks := Bd.notSynchronized
  have hD := hD0.self (sz := s.heap.size)
  obtain ⟨A, hAe⟩ : ∃ A, A = va_A [(m0, .inr (4, [.ref n0, .ref n1, .ref n2, .int (nI cd), .int (nI dt), .ref e0, .ref e1, .int (nI rt), .ref e2, .ref e3, .ref e4, .int (nI sz9), .int (nI at9), .int (nI fl), .int pl, .int (nI wr), .ref e5]))] s.heap.size := ⟨_, rfl⟩
  have hA : ∀ q : Nat, s.heap.size ≤ q → A q := fun q h => by rw [hAe]; exact Or.inr h
  rw [← hAe] at hG hD
  have hS : va_S A s.heap s.heap [] := va_S.rf
  have hl := lv_entry ([.ref m0, .int (nI 1)]) (n := 2) (Nat.le_of_ble_eq_true rfl)
  rw [lg_entry_eq]
  generalize (lg_sl ([.ref m0, .int (nI 1)]) ++ List.replicate (2 - (lg_sl ([.ref m0, .int (nI 1)])).length) Slot.unset).toArray = ls at hl ⊢
  have hl : lv_has ls 2 [(0, .ref m0), (1, .int (nI 1))] := hl
  refine zq_name (fun Q hQ => ?_)
  change W p l e rm_c_goes_1 s m _ below meth c _ _ _ _ Q _
  refine lv_aload_n hx hb dM_goes_0 rfl (lv_at hl 0 rfl) ?_
  refine lv_iload_n hx hb dM_goes_1 rfl (lv_at hl 1 rfl) ?_
  refine lv_if_eq (tgt := 9) hx hb dM_goes_2 (by decide) (fun q => False.elim (absurd q (by decide))) (fun c_2 => ?_)
  refine lv_iconst (v := nI 0) hx hb dM_goes_5 (by decide) ?_
  refine lv_goto (tgt := 10) hx hb dM_goes_6 (by decide) ?_
  refine va_put (D := (dC, dI)) (ci := 4) (v := .int (nI 0)) (ty := .int) (C := RM) (T := TM) (N := 17) hx hb hw inM tyM tyM_ok nmM hown hK hP hD hS 0 rfl rfl 3 (by decide) (hw _ w_fl_M_45) (fun _ h9 => h9) rfl (by decide +kernel) rfl rfl (Nat.le_of_ble_eq_true rfl) dM_goes_10 (fun H locs hP hD hS => ?_)
  have hP : va_P (dC, dI) vwCl [(m0, .inr (4, [.ref n0, .ref n1, .ref n2, .int (nI 0), .int (nI dt), .ref e0, .ref e1, .int (nI rt), .ref e2, .ref e3, .ref e4, .int (nI sz9), .int (nI at9), .int (nI fl), .int pl, .int (nI wr), .ref e5]))] H := hP
  have hD : va_D A [(m0, .inr (4, [.ref n0, .ref n1, .ref n2, .int (nI 0), .int (nI dt), .ref e0, .ref e1, .int (nI rt), .ref e2, .ref e3, .ref e4, .int (nI sz9), .int (nI at9), .int (nI fl), .int pl, .int (nI wr), .ref e5]))] := hD
  refine lv_iload_n hx hb dM_goes_13 rfl (lv_at hl 1 rfl) ?_
  subst hAe
  subst hQ
  exact W.zret (v := nI 1) hx hb hr (by decide) (fun t ht hW => ⟨⟨nI 1, (), rfl, rfl, by rw [ht]; exact hP.sub [0] rfl, hD.sub [0] (by decide) rfl⟩, hS.F ht⟩) hS.2.2 dM_goes_14
def rm_c_goes_0 : Room := ({ frames := 0, cells := 0, slots := 0, locals := 0 } : Room)
set_option maxHeartbeats 4000000 in
set_option maxRecDepth 100000 in
theorem c_goes_0 (l : Launch) (dC : Nat → ClassId) (dI : Nat → Nat → Nat) (m0 : Nat) (n0 : Nat) (n1 : Nat) (n2 : Nat) (cd : Nat) (dt : Nat) (e0 : Nat) (e1 : Nat) (rt : Nat) (e2 : Nat) (e3 : Nat) (e4 : Nat) (sz9 : Nat) (at9 : Nat) (fl : Nat) (pl : Int32) (wr : Nat) (e5 : Nat) (cI : ClassId) (cB : ClassId) (sz : Nat) : Met l yM_goes wsM_goes rm_c_goes_0 (zM (dC, dI) [(cI, .int), (cB, .byte)] [.ref m0, .int (nI 0)] [(m0, .inr (4, [.ref n0, .ref n1, .ref n2, .int (nI cd), .int (nI dt), .ref e0, .ref e1, .int (nI rt), .ref e2, .ref e3, .ref e4, .int (nI sz9), .int (nI at9), .int (nI fl), .int pl, .int (nI wr), .ref e5]))] sz) (zMi (dC, dI) [(m0, .inr (4, [.ref n0, .ref n1, .ref n2, .int (nI cd), .int (nI dt), .ref e0, .ref e1, .int (nI rt), .ref e2, .ref e3, .ref e4, .int (nI sz9), .int (nI at9), .int (nI fl), .int pl, .int (nI wr), .ref e5]))] [(m0, .inr (4, [.ref n0, .ref n1, .ref n2, .int (nI 1), .int (nI dt), .ref e0, .ref e1, .int (nI rt), .ref e2, .ref e3, .ref e4, .int (nI sz9), .int (nI at9), .int (nI fl), .int pl, .int (nI wr), .ref e5]))] sz (fun r => r = nI 0)) 0 0 (va_A [(m0, .inr (4, [.ref n0, .ref n1, .ref n2, .int (nI cd), .int (nI dt), .ref e0, .ref e1, .int (nI rt), .ref e2, .ref e3, .ref e4, .int (nI sz9), .int (nI at9), .int (nI fl), .int pl, .int (nI wr), .ref e5]))] sz) := by
  refine Met.ofW (cc := cM_goes) (maxL := 2) (ret := (some .boolean)) (by decide) rfl ?_
  intro p e s m args below meth c s₁ Bd hml hv
  obtain ⟨rfl, hsz, hG, hP, hK, hD0⟩ := hv
  subst hsz
  have hx := Bd.exec
  have hb := Bd.bytes
  have hr := Bd.returns
  have hts := atoms_spec (ws := wsM_goes) Bd.pre
  have hw : ∀ w ∈ BIG, w.before _ s = true := fun w h => hts w (List.mem_cons_of_mem _ h)
  have hown : s.vm.findClass RM = some m.cls := findClass_of_methodNamed Bd.named
  have hlocks := Bd.notSynchronized
  have hD := hD0.self (sz := s.heap.size)
  obtain ⟨A, hAe⟩ : ∃ A, A = va_A [(m0, .inr (4, [.ref n0, .ref n1, .ref n2, .int (nI cd), .int (nI dt), .ref e0, .ref e1, .int (nI rt), .ref e2, .ref e3, .ref e4, .int (nI sz9), .int (nI at9), .int (nI fl), .int pl, .int (nI wr), .ref e5]))] s.heap.size := ⟨_, rfl⟩
  have hA : ∀ q : Nat, s.heap.size ≤ q → A q := fun q h => by rw [hAe]; exact Or.inr h
  rw [← hAe] at hG hD
  have hS : va_S A s.heap s.heap [] := va_S.rf
  have hl := lv_entry ([.ref m0, .int (nI 0)]) (n := 2) (Nat.le_of_ble_eq_true rfl)
  rw [lg_entry_eq]
  generalize (lg_sl ([.ref m0, .int (nI 0)]) ++ List.replicate (2 - (lg_sl ([.ref m0, .int (nI 0)])).length) Slot.unset).toArray = ls at hl ⊢
  have hl : lv_has ls 2 [(0, .ref m0), (1, .int (nI 0))] := hl
  refine zq_name (fun Q hQ => ?_)
  change W p l e rm_c_goes_0 s m _ below meth c _ _ _ _ Q _
  refine lv_aload_n hx hb dM_goes_0 rfl (lv_at hl 0 rfl) ?_
  refine lv_iload_n hx hb dM_goes_1 rfl (lv_at hl 1 rfl) ?_
  refine lv_if_eq (tgt := 9) hx hb dM_goes_2 (by decide) (fun c_2 => ?_) (fun q => False.elim (absurd q (by decide)))
  refine lv_iconst (v := nI 1) hx hb dM_goes_9 (by decide) ?_
  refine va_put (D := (dC, dI)) (ci := 4) (v := .int (nI 1)) (ty := .int) (C := RM) (T := TM) (N := 17) hx hb hw inM tyM tyM_ok nmM hown hK hP hD hS 0 rfl rfl 3 (by decide) (hw _ w_fl_M_45) (fun _ h9 => h9) rfl (by decide +kernel) rfl rfl (Nat.le_of_ble_eq_true rfl) dM_goes_10 (fun H locs hP hD hS => ?_)
  have hP : va_P (dC, dI) vwCl [(m0, .inr (4, [.ref n0, .ref n1, .ref n2, .int (nI 1), .int (nI dt), .ref e0, .ref e1, .int (nI rt), .ref e2, .ref e3, .ref e4, .int (nI sz9), .int (nI at9), .int (nI fl), .int pl, .int (nI wr), .ref e5]))] H := hP
  have hD : va_D A [(m0, .inr (4, [.ref n0, .ref n1, .ref n2, .int (nI 1), .int (nI dt), .ref e0, .ref e1, .int (nI rt), .ref e2, .ref e3, .ref e4, .int (nI sz9), .int (nI at9), .int (nI fl), .int pl, .int (nI wr), .ref e5]))] := hD
  refine lv_iload_n hx hb dM_goes_13 rfl (lv_at hl 1 rfl) ?_
  subst hAe
  subst hQ
  exact W.zret (v := nI 0) hx hb hr (by decide) (fun t ht hW => ⟨⟨nI 0, (), rfl, rfl, by rw [ht]; exact hP.sub [0] rfl, hD.sub [0] (by decide) rfl⟩, hS.F ht⟩) hS.2.2 dM_goes_14
def rm_c_M_clear : Room := ({ frames := 0, cells := 0, slots := 0, locals := 0 } : Room)
set_option maxHeartbeats 4000000 in
set_option maxRecDepth 100000 in
theorem c_M_clear (l : Launch) (dC : Nat → ClassId) (dI : Nat → Nat → Nat) (ra : Nat) (cI : ClassId) (cB : ClassId) (g : Nat → Nat) (sz : Nat) : Met l yM_clear wsM_clear rm_c_M_clear (zM (dC, dI) [(cI, .int), (cB, .byte)] [.ref ra] [(ra, .inl (cI, 16, .inl (aP g)))] sz) (zMv (dC, dI) [(ra, .inl (cI, 16, .inl (aP g)))] [(ra, .inl (cI, 16, .inl (aP (zc g 16))))] sz (True)) 0 0 (va_A [(ra, .inl (cI, 16, .inl (aP g)))] sz) := by
  refine Met.ofW (cc := cM_clear) (maxL := 2) (ret := none) (by decide) rfl ?_
  intro p e s m args below meth c s₁ Bd hml hv
  obtain ⟨rfl, hsz, hG, hP, hK, hD0⟩ := hv
  subst hsz
  have hx := Bd.exec
  have hb := Bd.bytes
  have hr := Bd.returns
  have hts := atoms_spec (ws := wsM_clear) Bd.pre
  have hw : ∀ w ∈ BIG, w.before _ s = true := fun w h => hts w (List.mem_cons_of_mem _ h)
  have hown : s.vm.findClass RM = some m.cls := findClass_of_methodNamed Bd.named
  have hlocks := Bd.notSynchronized
  have hD := hD0.self (sz := s.heap.size)
  obtain ⟨A, hAe⟩ : ∃ A, A = va_A [(ra, .inl (cI, 16, .inl (aP g)))] s.heap.size := ⟨_, rfl⟩
  have hA : ∀ q : Nat, s.heap.size ≤ q → A q := fun q h => by rw [hAe]; exact Or.inr h
  rw [← hAe] at hG hD
  have hS : va_S A s.heap s.heap [] := va_S.rf
  have hl := lv_entry ([.ref ra]) (n := 2) (Nat.le_of_ble_eq_true rfl)
  rw [lg_entry_eq]
  generalize (lg_sl ([.ref ra]) ++ List.replicate (2 - (lg_sl ([.ref ra])).length) Slot.unset).toArray = ls at hl ⊢
  have hl : lv_has ls 2 [(0, .ref ra)] := hl
  refine zq_name (fun Q hQ => ?_)
  change W p l e rm_c_M_clear s m _ below meth c _ _ _ _ Q _
  refine lv_iconst (v := nI 0) hx hb dM_clear_0 (by decide) ?_
  refine lv_istore_n (lv' := [(1, .int (nI 0)), (0, .ref ra)]) hx hb dM_clear_1 rfl hl (by decide) rfl (fun ls hl => ?_)
  have lp_2 : ∀ (fu : Nat) (k : Nat) (f : Nat → Nat) (hk : k ≤ 16) (hf : f = zc g k) (hms : 16 - k < fu) (H : Heap) (locs : List Loc) (ls : Array Slot), lv_has ls 2 [(0, .ref ra), (1, .int (nI k))] → va_P (dC, dI) vwCl [(ra, .inl (cI, 16, .inl (aP f)))] H → va_D A [(ra, .inl (cI, 16, .inl (aP f)))] → va_S A s.heap H locs → W p l e rm_c_M_clear s m ([.ref ra] : List Value).toArray below meth c H locs 0 0 Q (F0 m 2 ls []) := by
    intro fu
    induction fu with
    | zero => intro k f hk hf hms; exact absurd hms (Nat.not_lt_zero _)
    | succ fu ih2 =>
      intro k f hk hf hms H locs ls hl hP hD hS
      refine lv_iload_n hx hb dM_clear_2 rfl (lv_at hl 1 rfl) ?_
      refine lv_bipush (v := nI 16) hx hb dM_clear_3 (by decide) ?_
      refine zi_ge (tgt := 18) hx hb (by omega) (by omega) dM_clear_5 (by decide) (fun c_5 => ?_) (fun c_5 => ?_)
      · obtain rfl : k = 16 := by omega
        subst hf
        subst hAe
        subst hQ
        exact W.vret hx hb hr (fun t ht hW => ⟨⟨(), rfl, trivial, by rw [ht]; exact hP.sub [0] rfl, hD.sub [0] (by decide) rfl⟩, hS.F ht⟩) hS.2.2 dM_clear_18
      · refine lv_aload_n hx hb dM_clear_8 rfl (lv_at hl 0 rfl) ?_
        refine lv_iload_n hx hb dM_clear_9 rfl (lv_at hl 1 rfl) ?_
        refine lv_iconst (v := (-1)) hx hb dM_clear_10 (by decide) ?_
        refine zi_v (b := pm 0) (by decide) ?_
        refine za_pst hx hb hK hP hD hS 0 0 rfl rfl (by omega) (by decide) dM_clear_11 (fun H locs hP hD hS => ?_)
        have hP : va_P (dC, dI) vwCl [(ra, .inl (cI, 16, .inl (aP (nup f k 0))))] H := hP
        have hD : va_D A [(ra, .inl (cI, 16, .inl (aP (nup f k 0))))] := hD
        refine lv_iinc (v := nI (k + 1)) (lv' := [(1, .int (nI (k + 1))), (0, .ref ra)]) hx hb dM_clear_12 hl (k := 1) rfl (zi_incr k 1) (by decide) rfl (fun ls hl => ?_)
        refine lv_goto (tgt := 2) hx hb dM_clear_15 (by decide) ?_
        exact ih2 (k + 1) (nup f k 0) (by omega) (by rw [hf]; exact zc_s g k) (by omega) _ _ _ (lv_sub hl [1, 0] rfl) (hP.sub [0] rfl) (hD.sub [0] (by decide) rfl) hS
  exact lp_2 ((16 - 0) + 1) 0 g (by omega) (zc_0 g) (Nat.lt_succ_self _) _ _ _ (lv_sub hl [1, 0] rfl) (hP.sub [0] rfl) (hD.sub [0] (by decide) rfl) hS
def rm_c_M_width : Room := ({ frames := 0, cells := 0, slots := 0, locals := 0 } : Room)
set_option maxHeartbeats 4000000 in
set_option maxRecDepth 100000 in
theorem c_M_width (l : Launch) (dC : Nat → ClassId) (dI : Nat → Nat → Nat) (cI : ClassId) (cB : ClassId) (n : Nat) (hn : n < 2 ^ 63) (Hc : Heap) : Met l yM_width wsM_width rm_c_M_width (zR (dC, dI) [(cI, .int), (cB, .byte)] [.long (lN n)] [] Hc) (zRi Hc (fun r => r = nI (dcn n))) 0 0 zNo := by
  refine Met.ofW (cc := cM_width) (maxL := 5) (ret := (some .int)) (by decide) rfl ?_
  intro p e s m args below meth c s₁ Bd hml hv
  obtain ⟨rfl, hH, hG, hP, hK⟩ := hv
  subst hH
  have hx := Bd.exec
  have hb := Bd.bytes
  have hr := Bd.returns
  have hts := atoms_spec (ws := wsM_width) Bd.pre
  have hw : ∀ w ∈ BIG, w.before _ s = true := fun w h => hts w (List.mem_cons_of_mem _ h)
  have hown : s.vm.findClass RM = some m.cls := findClass_of_methodNamed Bd.named
  have hlocks := Bd.notSynchronized
  have hS : va_S zNo s.heap s.heap [] := va_S.rf
  have hl := lv_entry ([.long (lN n)]) (n := 5) (Nat.le_of_ble_eq_true rfl)
  rw [lg_entry_eq]
  generalize (lg_sl ([.long (lN n)]) ++ List.replicate (5 - (lg_sl ([.long (lN n)])).length) Slot.unset).toArray = ls at hl ⊢
  have hl : lv_has ls 5 [(0, .long (lN n))] := hl
  refine zq_name (fun Q hQ => ?_)
  change W p l e rm_c_M_width s m _ below meth c _ _ _ _ Q _
  refine lv_iconst (v := nI 1) hx hb dM_width_0 (by decide) ?_
  refine lv_istore_n (lv' := [(2, .int (nI 1)), (0, .long (lN n))]) hx hb dM_width_1 rfl hl (by decide) rfl (fun ls hl => ?_)
  refine lv_lload_n hx hb dM_width_2 rfl (lv_at hl 1 rfl) ?_
  refine lv_ldc2 (v := 10) hx hb hown (hw _ w_k_M_48) dM_width_3 ?_
  refine zl_c (a := 10) rfl ?_
  refine zl_div hx hb (by omega) (by omega) (by omega) dM_width_6 ?_
  refine lv_lstore_n (lv' := [(3, .long (lN (n / 10))), (2, .int (nI 1)), (0, .long (lN n))]) hx hb dM_width_7 rfl hl (by decide) rfl (fun ls hl => ?_)
  have lp_8 : ∀ (fu : Nat) (f : Nat) (c9 : Nat) (r : Nat) (hr9 : r < 10 ^ f) (hrb : r < 2 ^ 63) (hi : wd9 f r c9 = dcn n) (hms : f < fu) (locs : List Loc) (ls : Array Slot), lv_has ls 5 [(2, .int (nI c9)), (3, .long (lN r))] → va_S zNo s.heap s.heap locs → W p l e rm_c_M_width s m ([.long (lN n)] : List Value).toArray below meth c s.heap locs 0 0 Q (F0 m 8 ls []) := by
    intro fu
    induction fu with
    | zero => intro f c9 r hr9 hrb hi hms; exact absurd hms (Nat.not_lt_zero _)
    | succ fu ih8 =>
      intro f c9 r hr9 hrb hi hms locs ls hl hS
      refine lv_lload_n hx hb dM_width_8 rfl (lv_at hl 1 rfl) ?_
      refine lv_lconst (v := lN 0) hx hb dM_width_9 (by decide) ?_
      refine W.lcmp hx hb dM_width_10 ?_
      refine zl_le0 (tgt := 26) hx hb (by omega) (by omega) dM_width_11 (by decide) (fun c_11 => ?_) (fun c_11 => ?_)
      · refine lv_iload_n hx hb dM_width_26 rfl (lv_at hl 0 rfl) ?_
        subst hQ
        exact W.iret (v := nI c9) hx hb hr (fun t ht hW => ⟨⟨nI c9, (), rfl, (by rw [← hi, show r = 0 by omega, wd9_0]), ht⟩, hS.F ht⟩) hS.2.2 dM_width_27
      · obtain ⟨f1, rfl, hr1⟩ := wd9_pos hr9 c_11
        refine lv_lload_n hx hb dM_width_14 rfl (lv_at hl 1 rfl) ?_
        refine lv_ldc2 (v := 10) hx hb hown (hw _ w_k_M_48) dM_width_15 ?_
        refine zl_c (a := 10) rfl ?_
        refine zl_div hx hb (by omega) (by omega) (by omega) dM_width_18 ?_
        refine lv_lstore_n (lv' := [(3, .long (lN (r / 10))), (2, .int (nI c9))]) hx hb dM_width_19 rfl hl (by decide) rfl (fun ls hl => ?_)
        refine lv_iinc (v := nI (c9 + 1)) (lv' := [(2, .int (nI (c9 + 1))), (3, .long (lN (r / 10)))]) hx hb dM_width_20 hl (k := 1) rfl (zi_incr c9 1) (by decide) rfl (fun ls hl => ?_)
        refine lv_goto (tgt := 8) hx hb dM_width_23 (by decide) ?_
        exact ih8 f1 (c9 + 1) (r / 10) hr1 (by omega) (by have h9 := hi; unfold wd9 at h9; rw [if_neg (by omega)] at h9; exact h9) (by omega) _ _ (lv_sub hl [0, 1] rfl) hS
  exact lp_8 (18 + 1) 18 1 (n / 10) (by have h9 : (10 : Nat) ^ 18 = 1000000000000000000 := (by decide +kernel); omega) (by omega) (dcF_wd 18 n 1).symm (Nat.lt_succ_self _) _ _ (lv_sub hl [1, 0] rfl) hS
def rm_c_M_setDigits : Room := ({ frames := 0, cells := 0, slots := 0, locals := 0 } : Room)
set_option maxHeartbeats 4000000 in
set_option maxRecDepth 100000 in
theorem c_M_setDigits (l : Launch) (dC : Nat → ClassId) (dI : Nat → Nat → Nat) (ra : Nat) (cI : ClassId) (cB : ClassId) (N9 : Nat) (r9 : Nat → Nat) (fr : Nat) (v : Nat) (ct : Nat) (hN : N9 < 1000) (hk : fr + ct ≤ N9) (hv : v < 2 ^ 63) (sz : Nat) : Met l yM_setDigits wsM_setDigits rm_c_M_setDigits (zM (dC, dI) [(cI, .int), (cB, .byte)] [.ref ra, .int (nI fr), .long (lN v), .int (nI ct)] [(ra, .inl (cI, N9, .inl (aN r9)))] sz) (zMv (dC, dI) [(ra, .inl (cI, N9, .inl (aN r9)))] [(ra, .inl (cI, N9, .inl (aN (ds r9 fr ct v))))] sz (True)) 0 0 (va_A [(ra, .inl (cI, N9, .inl (aN r9)))] sz) := by
  refine Met.ofW (cc := cM_setDigits) (maxL := 8) (ret := none) (by decide) rfl ?_
  intro p e s m args below meth c s₁ Bd hml hv
  obtain ⟨rfl, hsz, hG, hP, hK, hD0⟩ := hv
  subst hsz
  have hx := Bd.exec
  have hb := Bd.bytes
  have hr := Bd.returns
  have hts := atoms_spec (ws := wsM_setDigits) Bd.pre
  have hw : ∀ w ∈ BIG, w.before _ s = true := fun w h => hts w (List.mem_cons_of_mem _ h)
  have hown : s.vm.findClass RM = some m.cls := findClass_of_methodNamed Bd.named
  have hlocks := Bd.notSynchronized
  have hD := hD0.self (sz := s.heap.size)
  obtain ⟨A, hAe⟩ : ∃ A, A = va_A [(ra, .inl (cI, N9, .inl (aN r9)))] s.heap.size := ⟨_, rfl⟩
  have hA : ∀ q : Nat, s.heap.size ≤ q → A q := fun q h => by rw [hAe]; exact Or.inr h
  rw [← hAe] at hG hD
  have hS : va_S A s.heap s.heap [] := va_S.rf
  have hl := lv_entry ([.ref ra, .int (nI fr), .long (lN v), .int (nI ct)]) (n := 8) (Nat.le_of_ble_eq_true rfl)
  rw [lg_entry_eq]
  generalize (lg_sl ([.ref ra, .int (nI fr), .long (lN v), .int (nI ct)]) ++ List.replicate (8 - (lg_sl ([.ref ra, .int (nI fr), .long (lN v), .int (nI ct)])).length) Slot.unset).toArray = ls at hl ⊢
  have hl : lv_has ls 8 [(0, .ref ra), (1, .int (nI fr)), (2, .long (lN v)), (4, .int (nI ct))] := hl
  refine zq_name (fun Q hQ => ?_)
  change W p l e rm_c_M_setDigits s m _ below meth c _ _ _ _ Q _
  refine lv_lload_n hx hb dM_setDigits_0 rfl (lv_at hl 2 rfl) ?_
  refine lv_lstore (lv' := [(5, .long (lN v)), (0, .ref ra), (1, .int (nI fr)), (2, .long (lN v)), (4, .int (nI ct))]) hx hb dM_setDigits_1 hl (by decide) rfl (fun ls hl => ?_)
  refine lv_iload hx hb dM_setDigits_3 (lv_at hl 4 rfl) ?_
  refine lv_iconst (v := nI 1) hx hb dM_setDigits_5 (by decide) ?_
  refine lv_isub hx hb dM_setDigits_6 ?_
  refine lv_istore (lv' := [(7, .int ((nI ct) - (nI 1))), (5, .long (lN v)), (0, .ref ra), (1, .int (nI fr)), (2, .long (lN v)), (4, .int (nI ct))]) hx hb dM_setDigits_7 hl (by decide) rfl (fun ls hl => ?_)
  have lp_9 : ∀ (fu : Nat) (n : Nat) (r : Nat) (f : Nat → Nat) (hn : n ≤ ct) (hr9 : r < 2 ^ 63) (hi : ds f fr n r = ds r9 fr ct v) (hms : n < fu) (H : Heap) (locs : List Loc) (ls : Array Slot), lv_has ls 8 [(0, .ref ra), (1, .int (nI fr)), (5, .long (lN r)), (7, .int (pm n))] → va_P (dC, dI) vwCl [(ra, .inl (cI, N9, .inl (aN f)))] H → va_D A [(ra, .inl (cI, N9, .inl (aN f)))] → va_S A s.heap H locs → W p l e rm_c_M_setDigits s m ([.ref ra, .int (nI fr), .long (lN v), .int (nI ct)] : List Value).toArray below meth c H locs 0 0 Q (F0 m 9 ls []) := by
    intro fu
    induction fu with
    | zero => intro n r f hn hr9 hi hms; exact absurd hms (Nat.not_lt_zero _)
    | succ fu ih9 =>
      intro n r f hn hr9 hi hms H locs ls hl hP hD hS
      refine lv_iload hx hb dM_setDigits_9 (lv_at hl 3 rfl) ?_
      refine zp_lt0 (tgt := 41) hx hb (by omega) dM_setDigits_11 (by decide) (fun c_11 => ?_) (fun c_11 => ?_)
      · obtain rfl : n = 0 := by omega
        have hi : f = ds r9 fr ct v := hi
        subst hi
        subst hAe
        subst hQ
        exact W.vret hx hb hr (fun t ht hW => ⟨⟨(), rfl, trivial, by rw [ht]; exact hP.sub [0] rfl, hD.sub [0] (by decide) rfl⟩, hS.F ht⟩) hS.2.2 dM_setDigits_41
      · obtain ⟨n1, rfl⟩ : ∃ n1, n = n1 + 1 := ⟨n - 1, by omega⟩
        rw [pm_s] at hl
        refine lv_aload_n hx hb dM_setDigits_14 rfl (lv_at hl 0 rfl) ?_
        refine lv_iload_n hx hb dM_setDigits_15 rfl (lv_at hl 1 rfl) ?_
        refine lv_iload hx hb dM_setDigits_16 (lv_at hl 3 rfl) ?_
        refine zi_add hx hb dM_setDigits_18 ?_
        refine lv_lload hx hb dM_setDigits_19 (lv_at hl 2 rfl) ?_
        refine lv_ldc2 (v := 10) hx hb hown (hw _ w_k_M_48) dM_setDigits_21 ?_
        refine zl_c (a := 10) rfl ?_
        refine zl_rem hx hb (by omega) (by omega) (by omega) dM_setDigits_24 ?_
        refine zl_i hx hb dM_setDigits_25 ?_
        refine za_ist hx hb hK hP hD hS 0 0 rfl rfl (by omega) (by omega) dM_setDigits_26 (fun H locs hP hD hS => ?_)
        have hP : va_P (dC, dI) vwCl [(ra, .inl (cI, N9, .inl (aN (nup f (fr + n1) (r % 10)))))] H := hP
        have hD : va_D A [(ra, .inl (cI, N9, .inl (aN (nup f (fr + n1) (r % 10)))))] := hD
        refine lv_lload hx hb dM_setDigits_27 (lv_at hl 2 rfl) ?_
        refine lv_ldc2 (v := 10) hx hb hown (hw _ w_k_M_48) dM_setDigits_29 ?_
        refine zl_c (a := 10) rfl ?_
        refine zl_div hx hb (by omega) (by omega) (by omega) dM_setDigits_32 ?_
        refine lv_lstore (lv' := [(5, .long (lN (r / 10))), (0, .ref ra), (1, .int (nI fr)), (7, .int (nI n1))]) hx hb dM_setDigits_33 hl (by decide) rfl (fun ls hl => ?_)
        refine lv_iinc (v := pm n1) (lv' := [(7, .int (pm n1)), (5, .long (lN (r / 10))), (0, .ref ra), (1, .int (nI fr))]) hx hb dM_setDigits_35 hl (k := 3) rfl (pm_m _) (by decide) rfl (fun ls hl => ?_)
        refine lv_goto (tgt := 9) hx hb dM_setDigits_38 (by decide) ?_
        exact ih9 n1 (r / 10) (nup f (fr + n1) (r % 10)) (by omega) (by omega) hi (by omega) _ _ _ (lv_sub hl [2, 3, 1, 0] rfl) (hP.sub [0] rfl) (hD.sub [0] (by decide) rfl) hS
  exact lp_9 (ct + 1) ct v r9 (by omega) (by omega) rfl (Nat.lt_succ_self _) _ _ _ (lv_sub hl [2, 3, 1, 0] rfl) (hP.sub [0] rfl) (hD.sub [0] (by decide) rfl) hS
def rm_c_fieldOf_ok : Room := ({ frames := 0, cells := 0, slots := 0, locals := 0 } : Room)
set_option maxHeartbeats 4000000 in
set_option maxRecDepth 100000 in
theorem c_fieldOf_ok (l : Launch) (dC : Nat → ClassId) (dI : Nat → Nat → Nat) (m0 : Nat) (n0 : Nat) (n1 : Nat) (n2 : Nat) (cd : Nat) (dt : Nat) (e0 : Nat) (e1 : Nat) (rt : Nat) (e2 : Nat) (e3 : Nat) (e4 : Nat) (sz9 : Nat) (at9 : Nat) (fl : Nat) (pl : Int32) (wr : Nat) (e5 : Nat) (cI : ClassId) (cB : ClassId) (k : Nat) (hk : k < 16) (Hc : Heap) : Met l yM_fieldOf wsM_fieldOf rm_c_fieldOf_ok (zR (dC, dI) [(cI, .int), (cB, .byte)] [.ref m0, .int (nI (fFI k))] [(m0, .inr (4, [.ref n0, .ref n1, .ref n2, .int (nI cd), .int (nI dt), .ref e0, .ref e1, .int (nI rt), .ref e2, .ref e3, .ref e4, .int (nI sz9), .int (nI at9), .int (nI fl), .int pl, .int (nI wr), .ref e5])), (n0, .inl (cI, 16, .inl (aN fFI)))] Hc) (zRi Hc (fun r => r = nI k)) 0 0 zNo := by
  refine Met.ofW (cc := cM_fieldOf) (maxL := 4) (ret := (some .int)) (by decide) rfl ?_
  intro p e s m args below meth c s₁ Bd hml hv
  obtain ⟨rfl, hH, hG, hP, hK⟩ := hv
  subst hH
  have hx := Bd.exec
  have hb := Bd.bytes
  have hr := Bd.returns
  have hts := atoms_spec (ws := wsM_fieldOf) Bd.pre
  have hw : ∀ w ∈ BIG, w.before _ s = true := fun w h => hts w (List.mem_cons_of_mem _ h)
  have hown : s.vm.findClass RM = some m.cls := findClass_of_methodNamed Bd.named
  have hlocks := Bd.notSynchronized
  have hS : va_S zNo s.heap s.heap [] := va_S.rf
  have hl := lv_entry ([.ref m0, .int (nI (fFI k))]) (n := 4) (Nat.le_of_ble_eq_true rfl)
  rw [lg_entry_eq]
  generalize (lg_sl ([.ref m0, .int (nI (fFI k))]) ++ List.replicate (4 - (lg_sl ([.ref m0, .int (nI (fFI k))])).length) Slot.unset).toArray = ls at hl ⊢
  have hl : lv_has ls 4 [(0, .ref m0), (1, .int (nI (fFI k)))] := hl
  refine zq_name (fun Q hQ => ?_)
  change W p l e rm_c_fieldOf_ok s m _ below meth c _ _ _ _ Q _
  have hf2 := fFI_b k hk
  refine lv_iconst (v := (-1)) hx hb dM_fieldOf_0 (by decide) ?_
  refine lv_istore_n (lv' := [(2, .int (-1)), (0, .ref m0), (1, .int (nI (fFI k)))]) hx hb dM_fieldOf_1 rfl hl (by decide) rfl (fun ls hl => ?_)
  refine lv_iconst (v := nI 0) hx hb dM_fieldOf_2 (by decide) ?_
  refine lv_istore_n (lv' := [(3, .int (nI 0)), (2, .int (-1)), (0, .ref m0), (1, .int (nI (fFI k)))]) hx hb dM_fieldOf_3 rfl hl (by decide) rfl (fun ls hl => ?_)
  have lp_4 : ∀ (fu : Nat) (j : Nat) (hj : j ≤ 16) (hms : 16 - j < fu) (locs : List Loc) (ls : Array Slot), lv_has ls 4 [(0, .ref m0), (1, .int (nI (fFI k))), (2, .int (pm (fo k j))), (3, .int (nI j))] → va_S zNo s.heap s.heap locs → W p l e rm_c_fieldOf_ok s m ([.ref m0, .int (nI (fFI k))] : List Value).toArray below meth c s.heap locs 0 0 Q (F0 m 4 ls []) := by
    intro fu
    induction fu with
    | zero => intro j hj hms; exact absurd hms (Nat.not_lt_zero _)
    | succ fu ih4 =>
      intro j hj hms locs ls hl hS
      refine lv_iload_n hx hb dM_fieldOf_4 rfl (lv_at hl 3 rfl) ?_
      refine lv_bipush (v := nI 16) hx hb dM_fieldOf_5 (by decide) ?_
      refine zi_ge (tgt := 32) hx hb (by omega) (by omega) dM_fieldOf_7 (by decide) (fun c_7 => ?_) (fun c_7 => ?_)
      · refine lv_iload_n hx hb dM_fieldOf_32 rfl (lv_at hl 2 rfl) ?_
        subst hQ
        exact W.iret (v := pm (fo k j)) hx hb hr (fun t ht hW => ⟨⟨pm (fo k j), (), rfl, (by rw [show j = 16 by omega]; unfold fo; rw [if_pos hk]; exact pm_s k), ht⟩, hS.F ht⟩) hS.2.2 dM_fieldOf_33
      · have hf1 := fFI_b j (by omega)
        refine lv_aload_n hx hb dM_fieldOf_10 rfl (lv_at hl 0 rfl) ?_
        refine va_get (D := (dC, dI)) (ci := 4) (v := .ref n0) (C := RM) (T := TM) (N := 17) hx hb hw inM hown hK hP 0 rfl rfl 0 (by decide) (hw _ w_fl_M_7) (fun _ h9 => h9) rfl dM_fieldOf_11 ?_
        refine lv_iload_n hx hb dM_fieldOf_14 rfl (lv_at hl 3 rfl) ?_
        refine za_ild hx hb hK hP 1 0 rfl rfl (by omega) (by decide) dM_fieldOf_15 ?_
        refine lv_iload_n hx hb dM_fieldOf_16 rfl (lv_at hl 1 rfl) ?_
        refine zi_ne (tgt := 24) hx hb (by omega) (by omega) dM_fieldOf_17 (by decide) (fun c_17 => ?_) (fun c_17 => ?_)
        · refine lv_iload_n hx hb dM_fieldOf_24 rfl (lv_at hl 2 rfl) ?_
          refine zi_v (b := pm (fo k (j + 1))) (by rw [show fo k (j + 1) = fo k j by unfold fo; have h9 : j ≠ k := fun z => c_17 (by rw [z]); by_cases q9 : k < j; rw [if_pos q9, if_pos (by omega)]; rw [if_neg q9, if_neg (by omega)]]) ?_
          refine lv_istore_n (lv' := [(2, .int (pm (fo k (j + 1)))), (0, .ref m0), (1, .int (nI (fFI k))), (3, .int (nI j))]) hx hb dM_fieldOf_25 rfl hl (by decide) rfl (fun ls hl => ?_)
          refine lv_iinc (v := nI (j + 1)) (lv' := [(3, .int (nI (j + 1))), (2, .int (pm (fo k (j + 1)))), (0, .ref m0), (1, .int (nI (fFI k)))]) hx hb dM_fieldOf_26 hl (k := 3) rfl (zi_incr j 1) (by decide) rfl (fun ls hl => ?_)
          refine lv_goto (tgt := 4) hx hb dM_fieldOf_29 (by decide) ?_
          exact ih4 (j + 1) (by omega) (by omega) _ _ (lv_sub hl [2, 3, 1, 0] rfl) hS
        · refine lv_iload_n hx hb dM_fieldOf_20 rfl (lv_at hl 3 rfl) ?_
          refine lv_goto (tgt := 25) hx hb dM_fieldOf_21 (by decide) ?_
          refine zi_v (b := pm (fo k (j + 1))) (by rw [show fo k (j + 1) = j + 1 by unfold fo; rw [fFI_inj j (by omega) k hk c_17]; rw [if_pos (by omega)]]; exact (pm_s j).symm) ?_
          refine lv_istore_n (lv' := [(2, .int (pm (fo k (j + 1)))), (0, .ref m0), (1, .int (nI (fFI k))), (3, .int (nI j))]) hx hb dM_fieldOf_25 rfl hl (by decide) rfl (fun ls hl => ?_)
          refine lv_iinc (v := nI (j + 1)) (lv' := [(3, .int (nI (j + 1))), (2, .int (pm (fo k (j + 1)))), (0, .ref m0), (1, .int (nI (fFI k)))]) hx hb dM_fieldOf_26 hl (k := 3) rfl (zi_incr j 1) (by decide) rfl (fun ls hl => ?_)
          refine lv_goto (tgt := 4) hx hb dM_fieldOf_29 (by decide) ?_
          exact ih4 (j + 1) (by omega) (by omega) _ _ (lv_sub hl [2, 3, 1, 0] rfl) hS
  exact lp_4 ((16 - 0) + 1) 0 (by omega) (Nat.lt_succ_self _) _ _ (lv_sub hl [2, 3, 1, 0] rfl) hS
def rm_c_fieldOf_no : Room := ({ frames := 0, cells := 0, slots := 0, locals := 0 } : Room)
set_option maxHeartbeats 4000000 in
set_option maxRecDepth 100000 in
theorem c_fieldOf_no (l : Launch) (dC : Nat → ClassId) (dI : Nat → Nat → Nat) (m0 : Nat) (n0 : Nat) (n1 : Nat) (n2 : Nat) (cd : Nat) (dt : Nat) (e0 : Nat) (e1 : Nat) (rt : Nat) (e2 : Nat) (e3 : Nat) (e4 : Nat) (sz9 : Nat) (at9 : Nat) (fl : Nat) (pl : Int32) (wr : Nat) (e5 : Nat) (cI : ClassId) (cB : ClassId) (x9 : Int32) (hx9 : ∀ j, j < 16 → nI (fFI j) ≠ x9) (Hc : Heap) : Met l yM_fieldOf wsM_fieldOf rm_c_fieldOf_no (zR (dC, dI) [(cI, .int), (cB, .byte)] [.ref m0, .int x9] [(m0, .inr (4, [.ref n0, .ref n1, .ref n2, .int (nI cd), .int (nI dt), .ref e0, .ref e1, .int (nI rt), .ref e2, .ref e3, .ref e4, .int (nI sz9), .int (nI at9), .int (nI fl), .int pl, .int (nI wr), .ref e5])), (n0, .inl (cI, 16, .inl (aN fFI)))] Hc) (zRi Hc (fun r => r = (-1))) 0 0 zNo := by
  refine Met.ofW (cc := cM_fieldOf) (maxL := 4) (ret := (some .int)) (by decide) rfl ?_
  intro p e s m args below meth c s₁ Bd hml hv
  obtain ⟨rfl, hH, hG, hP, hK⟩ := hv
  subst hH
  have hx := Bd.exec
  have hb := Bd.bytes
  have hr := Bd.returns
  have hts := atoms_spec (ws := wsM_fieldOf) Bd.pre
  have hw : ∀ w ∈ BIG, w.before _ s = true := fun w h => hts w (List.mem_cons_of_mem _ h)
  have hown : s.vm.findClass RM = some m.cls := findClass_of_methodNamed Bd.named
  have hlocks := Bd.notSynchronized
  have hS : va_S zNo s.heap s.heap [] := va_S.rf
  have hl := lv_entry ([.ref m0, .int x9]) (n := 4) (Nat.le_of_ble_eq_true rfl)
  rw [lg_entry_eq]
  generalize (lg_sl ([.ref m0, .int x9]) ++ List.replicate (4 - (lg_sl ([.ref m0, .int x9])).length) Slot.unset).toArray = ls at hl ⊢
  have hl : lv_has ls 4 [(0, .ref m0), (1, .int x9)] := hl
  refine zq_name (fun Q hQ => ?_)
  change W p l e rm_c_fieldOf_no s m _ below meth c _ _ _ _ Q _
  refine lv_iconst (v := (-1)) hx hb dM_fieldOf_0 (by decide) ?_
  refine lv_istore_n (lv' := [(2, .int (-1)), (0, .ref m0), (1, .int x9)]) hx hb dM_fieldOf_1 rfl hl (by decide) rfl (fun ls hl => ?_)
  refine lv_iconst (v := nI 0) hx hb dM_fieldOf_2 (by decide) ?_
  refine lv_istore_n (lv' := [(3, .int (nI 0)), (2, .int (-1)), (0, .ref m0), (1, .int x9)]) hx hb dM_fieldOf_3 rfl hl (by decide) rfl (fun ls hl => ?_)
  have lp_4 : ∀ (fu : Nat) (j : Nat) (hj : j ≤ 16) (hms : 16 - j < fu) (locs : List Loc) (ls : Array Slot), lv_has ls 4 [(0, .ref m0), (1, .int x9), (2, .int (-1)), (3, .int (nI j))] → va_S zNo s.heap s.heap locs → W p l e rm_c_fieldOf_no s m ([.ref m0, .int x9] : List Value).toArray below meth c s.heap locs 0 0 Q (F0 m 4 ls []) := by
    intro fu
    induction fu with
    | zero => intro j hj hms; exact absurd hms (Nat.not_lt_zero _)
    | succ fu ih4 =>
      intro j hj hms locs ls hl hS
      refine lv_iload_n hx hb dM_fieldOf_4 rfl (lv_at hl 3 rfl) ?_
      refine lv_bipush (v := nI 16) hx hb dM_fieldOf_5 (by decide) ?_
      refine zi_ge (tgt := 32) hx hb (by omega) (by omega) dM_fieldOf_7 (by decide) (fun c_7 => ?_) (fun c_7 => ?_)
      · refine lv_iload_n hx hb dM_fieldOf_32 rfl (lv_at hl 2 rfl) ?_
        subst hQ
        exact W.iret (v := (-1)) hx hb hr (fun t ht hW => ⟨⟨(-1), (), rfl, rfl, ht⟩, hS.F ht⟩) hS.2.2 dM_fieldOf_33
      · refine lv_aload_n hx hb dM_fieldOf_10 rfl (lv_at hl 0 rfl) ?_
        refine va_get (D := (dC, dI)) (ci := 4) (v := .ref n0) (C := RM) (T := TM) (N := 17) hx hb hw inM hown hK hP 0 rfl rfl 0 (by decide) (hw _ w_fl_M_7) (fun _ h9 => h9) rfl dM_fieldOf_11 ?_
        refine lv_iload_n hx hb dM_fieldOf_14 rfl (lv_at hl 3 rfl) ?_
        refine za_ild hx hb hK hP 1 0 rfl rfl (by omega) (by decide) dM_fieldOf_15 ?_
        refine lv_iload_n hx hb dM_fieldOf_16 rfl (lv_at hl 1 rfl) ?_
        refine lv_icmp_ne (tgt := 24) hx hb dM_fieldOf_17 (by decide) (fun c_17 => ?_) (fun q => False.elim ((hx9 j (by omega) q)))
        refine lv_iload_n hx hb dM_fieldOf_24 rfl (lv_at hl 2 rfl) ?_
        refine lv_istore_n (lv' := [(2, .int (-1)), (0, .ref m0), (1, .int x9), (3, .int (nI j))]) hx hb dM_fieldOf_25 rfl hl (by decide) rfl (fun ls hl => ?_)
        refine lv_iinc (v := nI (j + 1)) (lv' := [(3, .int (nI (j + 1))), (2, .int (-1)), (0, .ref m0), (1, .int x9)]) hx hb dM_fieldOf_26 hl (k := 3) rfl (zi_incr j 1) (by decide) rfl (fun ls hl => ?_)
        refine lv_goto (tgt := 4) hx hb dM_fieldOf_29 (by decide) ?_
        exact ih4 (j + 1) (by omega) (by omega) _ _ (lv_sub hl [2, 3, 1, 0] rfl) hS
  exact lp_4 ((16 - 0) + 1) 0 (by omega) (Nat.lt_succ_self _) _ _ (lv_sub hl [2, 3, 1, 0] rfl) hS
def rm_c_M_begin : Room := ({ frames := 1, cells := 0, slots := 0, locals := 21 } : Room)
set_option maxHeartbeats 4000000 in
set_option maxRecDepth 100000 in
theorem c_M_begin (l : Launch) (dC : Nat → ClassId) (dI : Nat → Nat → Nat) (m0 : Nat) (n0 : Nat) (n1 : Nat) (n2 : Nat) (cd : Nat) (dt : Nat) (e0 : Nat) (e1 : Nat) (rt : Nat) (e2 : Nat) (e3 : Nat) (e4 : Nat) (sz9 : Nat) (at9 : Nat) (fl : Nat) (pl : Int32) (wr : Nat) (e5 : Nat) (cI : ClassId) (cB : ClassId) (g : Nat → Nat) (n : Nat) (sz : Nat) : Met l yM_begin wsM_begin rm_c_M_begin (zM (dC, dI) [(cI, .int), (cB, .byte)] [.ref m0, .int (nI n)] [(m0, .inr (4, [.ref n0, .ref n1, .ref n2, .int (nI cd), .int (nI dt), .ref e0, .ref e1, .int (nI rt), .ref e2, .ref e3, .ref e4, .int (nI sz9), .int (nI at9), .int (nI fl), .int pl, .int (nI wr), .ref e5])), (e1, .inl (cI, 16, .inl (aP g)))] sz) (zMv (dC, dI) [(m0, .inr (4, [.ref n0, .ref n1, .ref n2, .int (nI cd), .int (nI dt), .ref e0, .ref e1, .int (nI rt), .ref e2, .ref e3, .ref e4, .int (nI sz9), .int (nI at9), .int (nI fl), .int pl, .int (nI wr), .ref e5])), (e1, .inl (cI, 16, .inl (aP g)))] [(m0, .inr (4, [.ref n0, .ref n1, .ref n2, .int (nI cd), .int (nI n), .ref e0, .ref e1, .int (nI rt), .ref e2, .ref e3, .ref e4, .int (nI sz9), .int (nI at9), .int (nI fl), .int pl, .int (nI wr), .ref e5])), (e1, .inl (cI, 16, .inl (aP (zc g 16))))] sz (True)) 0 0 (va_A [(m0, .inr (4, [.ref n0, .ref n1, .ref n2, .int (nI cd), .int (nI dt), .ref e0, .ref e1, .int (nI rt), .ref e2, .ref e3, .ref e4, .int (nI sz9), .int (nI at9), .int (nI fl), .int pl, .int (nI wr), .ref e5])), (e1, .inl (cI, 16, .inl (aP g)))] sz) := by
  refine Met.ofW (cc := cM_begin) (maxL := 2) (ret := none) (by decide) rfl ?_
  intro p e s m args below meth c s₁ Bd hml hv
  obtain ⟨rfl, hsz, hG, hP, hK, hD0⟩ := hv
  subst hsz
  have hx := Bd.exec
  have hb := Bd.bytes
  have hr := Bd.returns
  have hts := atoms_spec (ws := wsM_begin) Bd.pre
  have hw : ∀ w ∈ BIG, w.before _ s = true := fun w h => hts w (List.mem_cons_of_mem _ h)
  have hown : s.vm.findClass RM = some m.cls := findClass_of_methodNamed Bd.named
  have hlocks := Bd.notSynchronized
  have hD := hD0.self (sz := s.heap.size)
  obtain ⟨A, hAe⟩ : ∃ A, A = va_A [(m0, .inr (4, [.ref n0, .ref n1, .ref n2, .int (nI cd), .int (nI dt), .ref e0, .ref e1, .int (nI rt), .ref e2, .ref e3, .ref e4, .int (nI sz9), .int (nI at9), .int (nI fl), .int pl, .int (nI wr), .ref e5])), (e1, .inl (cI, 16, .inl (aP g)))] s.heap.size := ⟨_, rfl⟩
  have hA : ∀ q : Nat, s.heap.size ≤ q → A q := fun q h => by rw [hAe]; exact Or.inr h
  rw [← hAe] at hG hD
  have hS : va_S A s.heap s.heap [] := va_S.rf
  have hl := lv_entry ([.ref m0, .int (nI n)]) (n := 2) (Nat.le_of_ble_eq_true rfl)
  rw [lg_entry_eq]
  generalize (lg_sl ([.ref m0, .int (nI n)]) ++ List.replicate (2 - (lg_sl ([.ref m0, .int (nI n)])).length) Slot.unset).toArray = ls at hl ⊢
  have hl : lv_has ls 2 [(0, .ref m0), (1, .int (nI n))] := hl
  refine zq_name (fun Q hQ => ?_)
  change W p l e rm_c_M_begin s m _ below meth c _ _ _ _ Q _
  refine lv_aload_n hx hb dM_begin_0 rfl (lv_at hl 0 rfl) ?_
  refine lv_iload_n hx hb dM_begin_1 rfl (lv_at hl 1 rfl) ?_
  refine va_put (D := (dC, dI)) (ci := 4) (v := .int (nI n)) (ty := .int) (C := RM) (T := TM) (N := 17) hx hb hw inM tyM tyM_ok nmM hown hK hP hD hS 0 rfl rfl 4 (by decide) (hw _ w_fl_M_19) (fun _ h9 => h9) rfl (by decide +kernel) rfl rfl (Nat.le_of_ble_eq_true rfl) dM_begin_2 (fun H locs hP hD hS => ?_)
  have hP : va_P (dC, dI) vwCl [(m0, .inr (4, [.ref n0, .ref n1, .ref n2, .int (nI cd), .int (nI n), .ref e0, .ref e1, .int (nI rt), .ref e2, .ref e3, .ref e4, .int (nI sz9), .int (nI at9), .int (nI fl), .int pl, .int (nI wr), .ref e5])), (e1, .inl (cI, 16, .inl (aP g)))] H := hP
  have hD : va_D A [(m0, .inr (4, [.ref n0, .ref n1, .ref n2, .int (nI cd), .int (nI n), .ref e0, .ref e1, .int (nI rt), .ref e2, .ref e3, .ref e4, .int (nI sz9), .int (nI at9), .int (nI fl), .int pl, .int (nI wr), .ref e5])), (e1, .inl (cI, 16, .inl (aP g)))] := hD
  refine lv_aload_n hx hb dM_begin_5 rfl (lv_at hl 0 rfl) ?_
  refine va_get (D := (dC, dI)) (ci := 4) (v := .ref e1) (C := RM) (T := TM) (N := 17) hx hb hw inM hown hK hP 0 rfl rfl 6 (by decide) (hw _ w_fl_M_26) (fun _ h9 => h9) rfl dM_begin_6 ?_
  have hPc := hP.sub (ws' := [(e1, .inl (cI, 16, .inl (aP g)))]) [1] rfl
  have hDc := hD.sub (ws' := [(e1, .inl (cI, 16, .inl (aP g)))]) [1] (by decide) rfl
  have hFc := va_free (wc := [(e1, .inl (cI, 16, .inl (aP g)))]) hD hS hA [1] rfl
  refine zc_Mv (va_runS (As := [.ref e1]) (rest := []) ⟨hx, hb, hml, hown, hw⟩ (c_M_clear l dC dI e1 cI cB g H.size) (va_cwS 1 hw (gSt w_ml_M_41 w_st_M_clear w_in_M w_co_M_clear) rfl rfl rfl (by decide +kernel) ⟨Nat.le_of_ble_eq_true rfl, Nat.le_of_ble_eq_true rfl⟩) (zM_S hG hS hFc hPc hDc hK) rfl rfl hl.1 rfl (lv_room (Nat.le_of_ble_eq_true rfl)) dM_begin_9 ⟨Nat.le_of_ble_eq_true rfl, Nat.le_of_ble_eq_true rfl⟩) hS hFc (fun H locs h_9 hP1 hD1 hk1 hS => ?_)
  obtain ⟨hP, hD⟩ := va_join (wr := [(m0, .inr (4, [.ref n0, .ref n1, .ref n2, .int (nI cd), .int (nI n), .ref e0, .ref e1, .int (nI rt), .ref e2, .ref e3, .ref e4, .int (nI sz9), .int (nI at9), .int (nI fl), .int pl, .int (nI wr), .ref e5]))]) (w1 := [(e1, .inl (cI, 16, .inl (aP (zc g 16))))]) hP hD [1] [0] rfl rfl (by decide) (by decide) hk1 hFc hP1 hD1
  have hP : va_P (dC, dI) vwCl [(m0, .inr (4, [.ref n0, .ref n1, .ref n2, .int (nI cd), .int (nI n), .ref e0, .ref e1, .int (nI rt), .ref e2, .ref e3, .ref e4, .int (nI sz9), .int (nI at9), .int (nI fl), .int pl, .int (nI wr), .ref e5])), (e1, .inl (cI, 16, .inl (aP (zc g 16))))] H := hP
  have hD : va_D A [(m0, .inr (4, [.ref n0, .ref n1, .ref n2, .int (nI cd), .int (nI n), .ref e0, .ref e1, .int (nI rt), .ref e2, .ref e3, .ref e4, .int (nI sz9), .int (nI at9), .int (nI fl), .int pl, .int (nI wr), .ref e5])), (e1, .inl (cI, 16, .inl (aP (zc g 16))))] := hD
  subst hAe
  subst hQ
  exact W.vret hx hb hr (fun t ht hW => ⟨⟨(), rfl, trivial, by rw [ht]; exact hP.sub [0, 1] rfl, hD.sub [0, 1] (by decide) rfl⟩, hS.F ht⟩) hS.2.2 dM_begin_12
def rm_c_Mmessage_ok : Room := ({ frames := 2, cells := 0, slots := 0, locals := 42 } : Room)
set_option maxHeartbeats 4000000 in
set_option maxRecDepth 100000 in
theorem c_Mmessage_ok (l : Launch) (dC : Nat → ClassId) (dI : Nat → Nat → Nat) (m0 : Nat) (n0 : Nat) (n1 : Nat) (n2 : Nat) (cd : Nat) (dt : Nat) (e0 : Nat) (e1 : Nat) (rt : Nat) (e2 : Nat) (e3 : Nat) (e4 : Nat) (sz9 : Nat) (at9 : Nat) (fl : Nat) (pl : Int32) (wr : Nat) (e5 : Nat) (cI : ClassId) (cB : ClassId) (g : Nat → Nat) (n : Nat) (hn : n ≤ 9999) (sz : Nat) : Met l yM_message wsM_message rm_c_Mmessage_ok (zM (dC, dI) [(cI, .int), (cB, .byte)] [.ref m0, .int (nI n)] [(m0, .inr (4, [.ref n0, .ref n1, .ref n2, .int (nI cd), .int (nI dt), .ref e0, .ref e1, .int (nI rt), .ref e2, .ref e3, .ref e4, .int (nI sz9), .int (nI at9), .int (nI fl), .int pl, .int (nI wr), .ref e5])), (e1, .inl (cI, 16, .inl (aP g)))] sz) (zMv (dC, dI) [(m0, .inr (4, [.ref n0, .ref n1, .ref n2, .int (nI cd), .int (nI dt), .ref e0, .ref e1, .int (nI rt), .ref e2, .ref e3, .ref e4, .int (nI sz9), .int (nI at9), .int (nI fl), .int pl, .int (nI wr), .ref e5])), (e1, .inl (cI, 16, .inl (aP g)))] [(m0, .inr (4, [.ref n0, .ref n1, .ref n2, .int (nI 0), .int (nI n), .ref e0, .ref e1, .int (nI rt), .ref e2, .ref e3, .ref e4, .int (nI sz9), .int (nI at9), .int (nI fl), .int pl, .int (nI wr), .ref e5])), (e1, .inl (cI, 16, .inl (aP (zc g 16))))] sz (True)) 0 0 (va_A [(m0, .inr (4, [.ref n0, .ref n1, .ref n2, .int (nI cd), .int (nI dt), .ref e0, .ref e1, .int (nI rt), .ref e2, .ref e3, .ref e4, .int (nI sz9), .int (nI at9), .int (nI fl), .int pl, .int (nI wr), .ref e5])), (e1, .inl (cI, 16, .inl (aP g)))] sz) := by
  refine Met.ofW (cc := cM_message) (maxL := 2) (ret := none) (by decide) rfl ?_
  intro p e s m args below meth c s₁ Bd hml hv
  obtain ⟨rfl, hsz, hG, hP, hK, hD0⟩ := hv
  subst hsz
  have hx := Bd.exec
  have hb := Bd.bytes
  have hr := Bd.returns
  have hts := atoms_spec (ws := wsM_message) Bd.pre
  have hw : ∀ w ∈ BIG, w.before _ s = true := fun w h => hts w (List.mem_cons_of_mem _ h)
  have hown : s.vm.findClass RM = some m.cls := findClass_of_methodNamed Bd.named
  have hlocks := Bd.notSynchronized
  have hD := hD0.self (sz := s.heap.size)
  obtain ⟨A, hAe⟩ : ∃ A, A = va_A [(m0, .inr (4, [.ref n0, .ref n1, .ref n2, .int (nI cd), .int (nI dt), .ref e0, .ref e1, .int (nI rt), .ref e2, .ref e3, .ref e4, .int (nI sz9), .int (nI at9), .int (nI fl), .int pl, .int (nI wr), .ref e5])), (e1, .inl (cI, 16, .inl (aP g)))] s.heap.size := ⟨_, rfl⟩
  have hA : ∀ q : Nat, s.heap.size ≤ q → A q := fun q h => by rw [hAe]; exact Or.inr h
  rw [← hAe] at hG hD
  have hS : va_S A s.heap s.heap [] := va_S.rf
  have hl := lv_entry ([.ref m0, .int (nI n)]) (n := 2) (Nat.le_of_ble_eq_true rfl)
  rw [lg_entry_eq]
  generalize (lg_sl ([.ref m0, .int (nI n)]) ++ List.replicate (2 - (lg_sl ([.ref m0, .int (nI n)])).length) Slot.unset).toArray = ls at hl ⊢
  have hl : lv_has ls 2 [(0, .ref m0), (1, .int (nI n))] := hl
  refine zq_name (fun Q hQ => ?_)
  change W p l e rm_c_Mmessage_ok s m _ below meth c _ _ _ _ Q _
  refine lv_aload_n hx hb dM_message_0 rfl (lv_at hl 0 rfl) ?_
  refine lv_iload_n hx hb dM_message_1 rfl (lv_at hl 1 rfl) ?_
  refine zi_lt0 (tgt := 16) hx hb (by omega) dM_message_2 (by decide) ?_
  refine lv_iload_n hx hb dM_message_5 rfl (lv_at hl 1 rfl) ?_
  refine lv_sipush (v := nI 9999) hx hb dM_message_6 (by decide) ?_
  refine zi_gt (tgt := 16) hx hb (by omega) (by omega) dM_message_9 (by decide) (fun q => False.elim ((by omega))) (fun c_9 => ?_)
  refine lv_iconst (v := nI 1) hx hb dM_message_12 (by decide) ?_
  refine lv_goto (tgt := 17) hx hb dM_message_13 (by decide) ?_
  have hPc := hP.sub (ws' := [(m0, .inr (4, [.ref n0, .ref n1, .ref n2, .int (nI cd), .int (nI dt), .ref e0, .ref e1, .int (nI rt), .ref e2, .ref e3, .ref e4, .int (nI sz9), .int (nI at9), .int (nI fl), .int pl, .int (nI wr), .ref e5]))]) [0] rfl
  have hDc := hD.sub (ws' := [(m0, .inr (4, [.ref n0, .ref n1, .ref n2, .int (nI cd), .int (nI dt), .ref e0, .ref e1, .int (nI rt), .ref e2, .ref e3, .ref e4, .int (nI sz9), .int (nI at9), .int (nI fl), .int pl, .int (nI wr), .ref e5]))]) [0] (by decide) rfl
  have hFc := va_free (wc := [(m0, .inr (4, [.ref n0, .ref n1, .ref n2, .int (nI cd), .int (nI dt), .ref e0, .ref e1, .int (nI rt), .ref e2, .ref e3, .ref e4, .int (nI sz9), .int (nI at9), .int (nI fl), .int pl, .int (nI wr), .ref e5]))]) hD hS hA [0] rfl
  refine zc_Mi (va_runV (As := [.int (nI 1)]) (rest := []) ⟨hx, hb, hml, hown, hw⟩ (c_goes_1 l dC dI m0 n0 n1 n2 cd dt e0 e1 rt e2 e3 e4 sz9 at9 fl pl wr e5 cI cB s.heap.size) (cwV 1 hw (gV w_ml_M_50 w_im_M_goes w_se_M_goes w_in_M w_co_M_goes) rfl rfl rfl (by decide +kernel) ⟨Nat.le_of_ble_eq_true rfl, Nat.le_of_ble_eq_true rfl⟩) (zM_V hG hS hFc hPc hDc hK 0 rfl rfl) rfl rfl hl.1 rfl (lv_room (Nat.le_of_ble_eq_true rfl)) dM_message_17 ⟨Nat.le_of_ble_eq_true rfl, Nat.le_of_ble_eq_true rfl⟩) hS hFc (fun r_1 H locs h_17 hP1 hD1 hk1 hS => ?_)
  obtain ⟨hP, hD⟩ := va_join (wr := [(e1, .inl (cI, 16, .inl (aP g)))]) (w1 := [(m0, .inr (4, [.ref n0, .ref n1, .ref n2, .int (nI 0), .int (nI dt), .ref e0, .ref e1, .int (nI rt), .ref e2, .ref e3, .ref e4, .int (nI sz9), .int (nI at9), .int (nI fl), .int pl, .int (nI wr), .ref e5]))]) hP hD [0] [1] rfl rfl (by decide) (by decide) hk1 hFc hP1 hD1
  have hP : va_P (dC, dI) vwCl [(e1, .inl (cI, 16, .inl (aP g))), (m0, .inr (4, [.ref n0, .ref n1, .ref n2, .int (nI 0), .int (nI dt), .ref e0, .ref e1, .int (nI rt), .ref e2, .ref e3, .ref e4, .int (nI sz9), .int (nI at9), .int (nI fl), .int pl, .int (nI wr), .ref e5]))] H := hP
  have hD : va_D A [(e1, .inl (cI, 16, .inl (aP g))), (m0, .inr (4, [.ref n0, .ref n1, .ref n2, .int (nI 0), .int (nI dt), .ref e0, .ref e1, .int (nI rt), .ref e2, .ref e3, .ref e4, .int (nI sz9), .int (nI at9), .int (nI fl), .int pl, .int (nI wr), .ref e5]))] := hD
  subst h_17
  refine lv_if_eq (tgt := 28) hx hb dM_message_20 (by decide) (fun q => False.elim (absurd q (by decide))) (fun c_20 => ?_)
  refine lv_aload_n hx hb dM_message_23 rfl (lv_at hl 0 rfl) ?_
  refine lv_iload_n hx hb dM_message_24 rfl (lv_at hl 1 rfl) ?_
  have hPc := hP.sub (ws' := [(m0, .inr (4, [.ref n0, .ref n1, .ref n2, .int (nI 0), .int (nI dt), .ref e0, .ref e1, .int (nI rt), .ref e2, .ref e3, .ref e4, .int (nI sz9), .int (nI at9), .int (nI fl), .int pl, .int (nI wr), .ref e5])), (e1, .inl (cI, 16, .inl (aP g)))]) [1, 0] rfl
  have hDc := hD.sub (ws' := [(m0, .inr (4, [.ref n0, .ref n1, .ref n2, .int (nI 0), .int (nI dt), .ref e0, .ref e1, .int (nI rt), .ref e2, .ref e3, .ref e4, .int (nI sz9), .int (nI at9), .int (nI fl), .int pl, .int (nI wr), .ref e5])), (e1, .inl (cI, 16, .inl (aP g)))]) [1, 0] (by decide) rfl
  have hFc := va_free (wc := [(m0, .inr (4, [.ref n0, .ref n1, .ref n2, .int (nI 0), .int (nI dt), .ref e0, .ref e1, .int (nI rt), .ref e2, .ref e3, .ref e4, .int (nI sz9), .int (nI at9), .int (nI fl), .int pl, .int (nI wr), .ref e5])), (e1, .inl (cI, 16, .inl (aP g)))]) hD hS hA [1, 0] rfl
  refine zc_Mv (va_runV (As := [.int (nI n)]) (rest := []) ⟨hx, hb, hml, hown, hw⟩ (c_M_begin l dC dI m0 n0 n1 n2 0 dt e0 e1 rt e2 e3 e4 sz9 at9 fl pl wr e5 cI cB g n H.size) (cwV 1 hw (gV w_ml_M_54 w_im_M_begin w_se_M_begin w_in_M w_co_M_begin) rfl rfl rfl (by decide +kernel) ⟨Nat.le_of_ble_eq_true rfl, Nat.le_of_ble_eq_true rfl⟩) (zM_V hG hS hFc hPc hDc hK 0 rfl rfl) rfl rfl hl.1 rfl (lv_room (Nat.le_of_ble_eq_true rfl)) dM_message_25 ⟨Nat.le_of_ble_eq_true rfl, Nat.le_of_ble_eq_true rfl⟩) hS hFc (fun H locs h_25 hP1 hD1 hk1 hS => ?_)
  obtain ⟨hP, hD⟩ := va_join (wr := []) (w1 := [(m0, .inr (4, [.ref n0, .ref n1, .ref n2, .int (nI 0), .int (nI n), .ref e0, .ref e1, .int (nI rt), .ref e2, .ref e3, .ref e4, .int (nI sz9), .int (nI at9), .int (nI fl), .int pl, .int (nI wr), .ref e5])), (e1, .inl (cI, 16, .inl (aP (zc g 16))))]) hP hD [1, 0] [] rfl rfl (by decide) (by decide) hk1 hFc hP1 hD1
  have hP : va_P (dC, dI) vwCl [(m0, .inr (4, [.ref n0, .ref n1, .ref n2, .int (nI 0), .int (nI n), .ref e0, .ref e1, .int (nI rt), .ref e2, .ref e3, .ref e4, .int (nI sz9), .int (nI at9), .int (nI fl), .int pl, .int (nI wr), .ref e5])), (e1, .inl (cI, 16, .inl (aP (zc g 16))))] H := hP
  have hD : va_D A [(m0, .inr (4, [.ref n0, .ref n1, .ref n2, .int (nI 0), .int (nI n), .ref e0, .ref e1, .int (nI rt), .ref e2, .ref e3, .ref e4, .int (nI sz9), .int (nI at9), .int (nI fl), .int pl, .int (nI wr), .ref e5])), (e1, .inl (cI, 16, .inl (aP (zc g 16))))] := hD
  subst hAe
  subst hQ
  exact W.vret hx hb hr (fun t ht hW => ⟨⟨(), rfl, trivial, by rw [ht]; exact hP.sub [0, 1] rfl, hD.sub [0, 1] (by decide) rfl⟩, hS.F ht⟩) hS.2.2 dM_message_28
def rm_c_Mmessage_no : Room := ({ frames := 2, cells := 0, slots := 0, locals := 42 } : Room)
set_option maxHeartbeats 4000000 in
set_option maxRecDepth 100000 in
theorem c_Mmessage_no (l : Launch) (dC : Nat → ClassId) (dI : Nat → Nat → Nat) (m0 : Nat) (n0 : Nat) (n1 : Nat) (n2 : Nat) (cd : Nat) (dt : Nat) (e0 : Nat) (e1 : Nat) (rt : Nat) (e2 : Nat) (e3 : Nat) (e4 : Nat) (sz9 : Nat) (at9 : Nat) (fl : Nat) (pl : Int32) (wr : Nat) (e5 : Nat) (cI : ClassId) (cB : ClassId) (x9 : Int32) (hx9 : x9 < 0 ∨ nI 9999 < x9) (sz : Nat) : Met l yM_message wsM_message rm_c_Mmessage_no (zM (dC, dI) [(cI, .int), (cB, .byte)] [.ref m0, .int x9] [(m0, .inr (4, [.ref n0, .ref n1, .ref n2, .int (nI cd), .int (nI dt), .ref e0, .ref e1, .int (nI rt), .ref e2, .ref e3, .ref e4, .int (nI sz9), .int (nI at9), .int (nI fl), .int pl, .int (nI wr), .ref e5]))] sz) (zMv (dC, dI) [(m0, .inr (4, [.ref n0, .ref n1, .ref n2, .int (nI cd), .int (nI dt), .ref e0, .ref e1, .int (nI rt), .ref e2, .ref e3, .ref e4, .int (nI sz9), .int (nI at9), .int (nI fl), .int pl, .int (nI wr), .ref e5]))] [(m0, .inr (4, [.ref n0, .ref n1, .ref n2, .int (nI 1), .int (nI dt), .ref e0, .ref e1, .int (nI rt), .ref e2, .ref e3, .ref e4, .int (nI sz9), .int (nI at9), .int (nI fl), .int pl, .int (nI wr), .ref e5]))] sz (True)) 0 0 (va_A [(m0, .inr (4, [.ref n0, .ref n1, .ref n2, .int (nI cd), .int (nI dt), .ref e0, .ref e1, .int (nI rt), .ref e2, .ref e3, .ref e4, .int (nI sz9), .int (nI at9), .int (nI fl), .int pl, .int (nI wr), .ref e5]))] sz) := by
  refine Met.ofW (cc := cM_message) (maxL := 2) (ret := none) (by decide) rfl ?_
  intro p e s m args below meth c s₁ Bd hml hv
  obtain ⟨rfl, hsz, hG, hP, hK, hD0⟩ := hv
  subst hsz
  have hx := Bd.exec
  have hb := Bd.bytes
  have hr := Bd.returns
  have hts := atoms_spec (ws := wsM_message) Bd.pre
  have hw : ∀ w ∈ BIG, w.before _ s = true := fun w h => hts w (List.mem_cons_of_mem _ h)
  have hown : s.vm.findClass RM = some m.cls := findClass_of_methodNamed Bd.named
  have hlocks := Bd.notSynchronized
  have hD := hD0.self (sz := s.heap.size)
  obtain ⟨A, hAe⟩ : ∃ A, A = va_A [(m0, .inr (4, [.ref n0, .ref n1, .ref n2, .int (nI cd), .int (nI dt), .ref e0, .ref e1, .int (nI rt), .ref e2, .ref e3, .ref e4, .int (nI sz9), .int (nI at9), .int (nI fl), .int pl, .int (nI wr), .ref e5]))] s.heap.size := ⟨_, rfl⟩
  have hA : ∀ q : Nat, s.heap.size ≤ q → A q := fun q h => by rw [hAe]; exact Or.inr h
  rw [← hAe] at hG hD
  have hS : va_S A s.heap s.heap [] := va_S.rf
  have hl := lv_entry ([.ref m0, .int x9]) (n := 2) (Nat.le_of_ble_eq_true rfl)
  rw [lg_entry_eq]
  generalize (lg_sl ([.ref m0, .int x9]) ++ List.replicate (2 - (lg_sl ([.ref m0, .int x9])).length) Slot.unset).toArray = ls at hl ⊢
  have hl : lv_has ls 2 [(0, .ref m0), (1, .int x9)] := hl
  refine zq_name (fun Q hQ => ?_)
  change W p l e rm_c_Mmessage_no s m _ below meth c _ _ _ _ Q _
  refine lv_aload_n hx hb dM_message_0 rfl (lv_at hl 0 rfl) ?_
  refine lv_iload_n hx hb dM_message_1 rfl (lv_at hl 1 rfl) ?_
  refine lv_if_lt (tgt := 16) hx hb dM_message_2 (by decide) (fun c_2 => ?_) (fun c_2 => ?_)
  · refine lv_iconst (v := nI 0) hx hb dM_message_16 (by decide) ?_
    have hPc := hP.sub (ws' := [(m0, .inr (4, [.ref n0, .ref n1, .ref n2, .int (nI cd), .int (nI dt), .ref e0, .ref e1, .int (nI rt), .ref e2, .ref e3, .ref e4, .int (nI sz9), .int (nI at9), .int (nI fl), .int pl, .int (nI wr), .ref e5]))]) [0] rfl
    have hDc := hD.sub (ws' := [(m0, .inr (4, [.ref n0, .ref n1, .ref n2, .int (nI cd), .int (nI dt), .ref e0, .ref e1, .int (nI rt), .ref e2, .ref e3, .ref e4, .int (nI sz9), .int (nI at9), .int (nI fl), .int pl, .int (nI wr), .ref e5]))]) [0] (by decide) rfl
    have hFc := va_free (wc := [(m0, .inr (4, [.ref n0, .ref n1, .ref n2, .int (nI cd), .int (nI dt), .ref e0, .ref e1, .int (nI rt), .ref e2, .ref e3, .ref e4, .int (nI sz9), .int (nI at9), .int (nI fl), .int pl, .int (nI wr), .ref e5]))]) hD hS hA [0] rfl
    refine zc_Mi (va_runV (As := [.int (nI 0)]) (rest := []) ⟨hx, hb, hml, hown, hw⟩ (c_goes_0 l dC dI m0 n0 n1 n2 cd dt e0 e1 rt e2 e3 e4 sz9 at9 fl pl wr e5 cI cB s.heap.size) (cwV 1 hw (gV w_ml_M_50 w_im_M_goes w_se_M_goes w_in_M w_co_M_goes) rfl rfl rfl (by decide +kernel) ⟨Nat.le_of_ble_eq_true rfl, Nat.le_of_ble_eq_true rfl⟩) (zM_V hG hS hFc hPc hDc hK 0 rfl rfl) rfl rfl hl.1 rfl (lv_room (Nat.le_of_ble_eq_true rfl)) dM_message_17 ⟨Nat.le_of_ble_eq_true rfl, Nat.le_of_ble_eq_true rfl⟩) hS hFc (fun r_1 H locs h_17 hP1 hD1 hk1 hS => ?_)
    obtain ⟨hP, hD⟩ := va_join (wr := []) (w1 := [(m0, .inr (4, [.ref n0, .ref n1, .ref n2, .int (nI 1), .int (nI dt), .ref e0, .ref e1, .int (nI rt), .ref e2, .ref e3, .ref e4, .int (nI sz9), .int (nI at9), .int (nI fl), .int pl, .int (nI wr), .ref e5]))]) hP hD [0] [] rfl rfl (by decide) (by decide) hk1 hFc hP1 hD1
    have hP : va_P (dC, dI) vwCl [(m0, .inr (4, [.ref n0, .ref n1, .ref n2, .int (nI 1), .int (nI dt), .ref e0, .ref e1, .int (nI rt), .ref e2, .ref e3, .ref e4, .int (nI sz9), .int (nI at9), .int (nI fl), .int pl, .int (nI wr), .ref e5]))] H := hP
    have hD : va_D A [(m0, .inr (4, [.ref n0, .ref n1, .ref n2, .int (nI 1), .int (nI dt), .ref e0, .ref e1, .int (nI rt), .ref e2, .ref e3, .ref e4, .int (nI sz9), .int (nI at9), .int (nI fl), .int pl, .int (nI wr), .ref e5]))] := hD
    subst h_17
    refine lv_if_eq (tgt := 28) hx hb dM_message_20 (by decide) (fun c_20 => ?_) (fun q => False.elim (absurd q (by decide)))
    subst hAe
    subst hQ
    exact W.vret hx hb hr (fun t ht hW => ⟨⟨(), rfl, trivial, by rw [ht]; exact hP.sub [0] rfl, hD.sub [0] (by decide) rfl⟩, hS.F ht⟩) hS.2.2 dM_message_28
  · refine lv_iload_n hx hb dM_message_5 rfl (lv_at hl 1 rfl) ?_
    refine lv_sipush (v := nI 9999) hx hb dM_message_6 (by decide) ?_
    refine lv_icmp_gt (tgt := 16) hx hb dM_message_9 (by decide) (fun c_9 => ?_) (fun q => False.elim ((hx9.elim c_2 q)))
    refine lv_iconst (v := nI 0) hx hb dM_message_16 (by decide) ?_
    have hPc := hP.sub (ws' := [(m0, .inr (4, [.ref n0, .ref n1, .ref n2, .int (nI cd), .int (nI dt), .ref e0, .ref e1, .int (nI rt), .ref e2, .ref e3, .ref e4, .int (nI sz9), .int (nI at9), .int (nI fl), .int pl, .int (nI wr), .ref e5]))]) [0] rfl
    have hDc := hD.sub (ws' := [(m0, .inr (4, [.ref n0, .ref n1, .ref n2, .int (nI cd), .int (nI dt), .ref e0, .ref e1, .int (nI rt), .ref e2, .ref e3, .ref e4, .int (nI sz9), .int (nI at9), .int (nI fl), .int pl, .int (nI wr), .ref e5]))]) [0] (by decide) rfl
    have hFc := va_free (wc := [(m0, .inr (4, [.ref n0, .ref n1, .ref n2, .int (nI cd), .int (nI dt), .ref e0, .ref e1, .int (nI rt), .ref e2, .ref e3, .ref e4, .int (nI sz9), .int (nI at9), .int (nI fl), .int pl, .int (nI wr), .ref e5]))]) hD hS hA [0] rfl
    refine zc_Mi (va_runV (As := [.int (nI 0)]) (rest := []) ⟨hx, hb, hml, hown, hw⟩ (c_goes_0 l dC dI m0 n0 n1 n2 cd dt e0 e1 rt e2 e3 e4 sz9 at9 fl pl wr e5 cI cB s.heap.size) (cwV 1 hw (gV w_ml_M_50 w_im_M_goes w_se_M_goes w_in_M w_co_M_goes) rfl rfl rfl (by decide +kernel) ⟨Nat.le_of_ble_eq_true rfl, Nat.le_of_ble_eq_true rfl⟩) (zM_V hG hS hFc hPc hDc hK 0 rfl rfl) rfl rfl hl.1 rfl (lv_room (Nat.le_of_ble_eq_true rfl)) dM_message_17 ⟨Nat.le_of_ble_eq_true rfl, Nat.le_of_ble_eq_true rfl⟩) hS hFc (fun r_2 H locs h_17 hP1 hD1 hk1 hS => ?_)
    obtain ⟨hP, hD⟩ := va_join (wr := []) (w1 := [(m0, .inr (4, [.ref n0, .ref n1, .ref n2, .int (nI 1), .int (nI dt), .ref e0, .ref e1, .int (nI rt), .ref e2, .ref e3, .ref e4, .int (nI sz9), .int (nI at9), .int (nI fl), .int pl, .int (nI wr), .ref e5]))]) hP hD [0] [] rfl rfl (by decide) (by decide) hk1 hFc hP1 hD1
    have hP : va_P (dC, dI) vwCl [(m0, .inr (4, [.ref n0, .ref n1, .ref n2, .int (nI 1), .int (nI dt), .ref e0, .ref e1, .int (nI rt), .ref e2, .ref e3, .ref e4, .int (nI sz9), .int (nI at9), .int (nI fl), .int pl, .int (nI wr), .ref e5]))] H := hP
    have hD : va_D A [(m0, .inr (4, [.ref n0, .ref n1, .ref n2, .int (nI 1), .int (nI dt), .ref e0, .ref e1, .int (nI rt), .ref e2, .ref e3, .ref e4, .int (nI sz9), .int (nI at9), .int (nI fl), .int pl, .int (nI wr), .ref e5]))] := hD
    subst h_17
    refine lv_if_eq (tgt := 28) hx hb dM_message_20 (by decide) (fun c_20 => ?_) (fun q => False.elim (absurd q (by decide)))
    subst hAe
    subst hQ
    exact W.vret hx hb hr (fun t ht hW => ⟨⟨(), rfl, trivial, by rw [ht]; exact hP.sub [0] rfl, hD.sub [0] (by decide) rfl⟩, hS.F ht⟩) hS.2.2 dM_message_28
def rm_c_M_fill : Room := ({ frames := 1, cells := 0, slots := 0, locals := 27 } : Room)
set_option maxHeartbeats 4000000 in
set_option maxRecDepth 100000 in
theorem c_M_fill (l : Launch) (dC : Nat → ClassId) (dI : Nat → Nat → Nat) (m0 : Nat) (n0 : Nat) (n1 : Nat) (n2 : Nat) (cd : Nat) (dt : Nat) (e0 : Nat) (e1 : Nat) (rt : Nat) (e2 : Nat) (e3 : Nat) (e4 : Nat) (sz9 : Nat) (at9 : Nat) (fl : Nat) (pl : Int32) (wr : Nat) (e5 : Nat) (cI : ClassId) (cB : ClassId) (dr : Nat → Nat) (g : Nat → Nat) (k : Nat) (n : Nat) (hk : k < 16) (hh : fHL k = 0) (hn : n < 2 ^ 63) (hd : dcn n ≤ fMM k) (sz : Nat) : Met l yM_fill wsM_fill rm_c_M_fill (zM (dC, dI) [(cI, .int), (cB, .byte)] [.ref m0, .int (nI k), .long (lN n)] [(m0, .inr (4, [.ref n0, .ref n1, .ref n2, .int (nI cd), .int (nI dt), .ref e0, .ref e1, .int (nI rt), .ref e2, .ref e3, .ref e4, .int (nI sz9), .int (nI at9), .int (nI fl), .int pl, .int (nI wr), .ref e5])), (n1, .inl (cI, 16, .inl (aN fMM))), (n2, .inl (cI, 16, .inl (aN fFO))), (e0, .inl (cI, 672, .inl (aN dr))), (e1, .inl (cI, 16, .inl (aP g)))] sz) (zMv (dC, dI) [(m0, .inr (4, [.ref n0, .ref n1, .ref n2, .int (nI cd), .int (nI dt), .ref e0, .ref e1, .int (nI rt), .ref e2, .ref e3, .ref e4, .int (nI sz9), .int (nI at9), .int (nI fl), .int pl, .int (nI wr), .ref e5])), (n1, .inl (cI, 16, .inl (aN fMM))), (n2, .inl (cI, 16, .inl (aN fFO))), (e0, .inl (cI, 672, .inl (aN dr))), (e1, .inl (cI, 16, .inl (aP g)))] [(m0, .inr (4, [.ref n0, .ref n1, .ref n2, .int (nI cd), .int (nI dt), .ref e0, .ref e1, .int (nI rt), .ref e2, .ref e3, .ref e4, .int (nI sz9), .int (nI at9), .int (nI fl), .int pl, .int (nI wr), .ref e5])), (n1, .inl (cI, 16, .inl (aN fMM))), (n2, .inl (cI, 16, .inl (aN fFO))), (e0, .inl (cI, 672, .inl (aN (ds dr (42 * k) (dct k n) n)))), (e1, .inl (cI, 16, .inl (aP (nup g k (dct k n + 1)))))] sz (True)) 0 0 (va_A [(m0, .inr (4, [.ref n0, .ref n1, .ref n2, .int (nI cd), .int (nI dt), .ref e0, .ref e1, .int (nI rt), .ref e2, .ref e3, .ref e4, .int (nI sz9), .int (nI at9), .int (nI fl), .int pl, .int (nI wr), .ref e5])), (n1, .inl (cI, 16, .inl (aN fMM))), (n2, .inl (cI, 16, .inl (aN fFO))), (e0, .inl (cI, 672, .inl (aN dr))), (e1, .inl (cI, 16, .inl (aP g)))] sz) := by
  refine Met.ofW (cc := cM_fill) (maxL := 4) (ret := none) (by decide) rfl ?_
  intro p e s m args below meth c s₁ Bd hml hv
  obtain ⟨rfl, hsz, hG, hP, hK, hD0⟩ := hv
  subst hsz
  have hx := Bd.exec
  have hb := Bd.bytes
  have hr := Bd.returns
  have hts := atoms_spec (ws := wsM_fill) Bd.pre
  have hw : ∀ w ∈ BIG, w.before _ s = true := fun w h => hts w (List.mem_cons_of_mem _ h)
  have hown : s.vm.findClass RM = some m.cls := findClass_of_methodNamed Bd.named
  have hlocks := Bd.notSynchronized
  have hD := hD0.self (sz := s.heap.size)
  obtain ⟨A, hAe⟩ : ∃ A, A = va_A [(m0, .inr (4, [.ref n0, .ref n1, .ref n2, .int (nI cd), .int (nI dt), .ref e0, .ref e1, .int (nI rt), .ref e2, .ref e3, .ref e4, .int (nI sz9), .int (nI at9), .int (nI fl), .int pl, .int (nI wr), .ref e5])), (n1, .inl (cI, 16, .inl (aN fMM))), (n2, .inl (cI, 16, .inl (aN fFO))), (e0, .inl (cI, 672, .inl (aN dr))), (e1, .inl (cI, 16, .inl (aP g)))] s.heap.size := ⟨_, rfl⟩
  have hA : ∀ q : Nat, s.heap.size ≤ q → A q := fun q h => by rw [hAe]; exact Or.inr h
  rw [← hAe] at hG hD
  have hS : va_S A s.heap s.heap [] := va_S.rf
  have hl := lv_entry ([.ref m0, .int (nI k), .long (lN n)]) (n := 4) (Nat.le_of_ble_eq_true rfl)
  rw [lg_entry_eq]
  generalize (lg_sl ([.ref m0, .int (nI k), .long (lN n)]) ++ List.replicate (4 - (lg_sl ([.ref m0, .int (nI k), .long (lN n)])).length) Slot.unset).toArray = ls at hl ⊢
  have hl : lv_has ls 4 [(0, .ref m0), (1, .int (nI k)), (2, .long (lN n))] := hl
  refine zq_name (fun Q hQ => ?_)
  change W p l e rm_c_M_fill s m _ below meth c _ _ _ _ Q _
  obtain ⟨ho1, ho2, ho3, ho4, ho5⟩ := fFO_b k hk
  have hmm := fMM_b k hk
  have hcd := fCD_b k hk
  have hdn := dcn_le n
  have hdc : dct k n ≤ fMM k := by unfold dct; split <;> omega
  have ho2 := ho2.mpr hh
  refine lv_aload_n hx hb dM_fill_0 rfl (lv_at hl 0 rfl) ?_
  refine va_get (D := (dC, dI)) (ci := 4) (v := .ref e1) (C := RM) (T := TM) (N := 17) hx hb hw inM hown hK hP 0 rfl rfl 6 (by decide) (hw _ w_fl_M_26) (fun _ h9 => h9) rfl dM_fill_1 ?_
  refine lv_iload_n hx hb dM_fill_4 rfl (lv_at hl 1 rfl) ?_
  refine lv_aload_n hx hb dM_fill_5 rfl (lv_at hl 0 rfl) ?_
  refine va_get (D := (dC, dI)) (ci := 4) (v := .ref n2) (C := RM) (T := TM) (N := 17) hx hb hw inM hown hK hP 0 rfl rfl 2 (by decide) (hw _ w_fl_M_16) (fun _ h9 => h9) rfl dM_fill_6 ?_
  refine lv_iload_n hx hb dM_fill_9 rfl (lv_at hl 1 rfl) ?_
  refine za_ild hx hb hK hP 2 0 rfl rfl (by omega) (by decide) dM_fill_10 ?_
  refine lv_iconst (v := nI 1) hx hb dM_fill_11 (by decide) ?_
  refine zi_ne (tgt := 22) hx hb (by omega) (by omega) dM_fill_12 (by decide) (fun c_12 => ?_) (fun c_12 => ?_)
  · refine lv_aload_n hx hb dM_fill_22 rfl (lv_at hl 0 rfl) ?_
    refine va_get (D := (dC, dI)) (ci := 4) (v := .ref n1) (C := RM) (T := TM) (N := 17) hx hb hw inM hown hK hP 0 rfl rfl 1 (by decide) (hw _ w_fl_M_13) (fun _ h9 => h9) rfl dM_fill_23 ?_
    refine lv_iload_n hx hb dM_fill_26 rfl (lv_at hl 1 rfl) ?_
    refine za_ild hx hb hK hP 1 0 rfl rfl (by omega) (by decide) dM_fill_27 ?_
    refine zi_v (b := pm (dct k n + 1)) (by rw [pm_s]; unfold dct; rw [if_pos (Decidable.byContradiction fun z => c_12 (ho3.mpr ⟨hh, z⟩))]) ?_
    refine za_pst hx hb hK hP hD hS 4 0 rfl rfl (by omega) (by decide) dM_fill_28 (fun H locs hP hD hS => ?_)
    have hP : va_P (dC, dI) vwCl [(m0, .inr (4, [.ref n0, .ref n1, .ref n2, .int (nI cd), .int (nI dt), .ref e0, .ref e1, .int (nI rt), .ref e2, .ref e3, .ref e4, .int (nI sz9), .int (nI at9), .int (nI fl), .int pl, .int (nI wr), .ref e5])), (n1, .inl (cI, 16, .inl (aN fMM))), (n2, .inl (cI, 16, .inl (aN fFO))), (e0, .inl (cI, 672, .inl (aN dr))), (e1, .inl (cI, 16, .inl (aP (nup g k (dct k n + 1)))))] H := hP
    have hD : va_D A [(m0, .inr (4, [.ref n0, .ref n1, .ref n2, .int (nI cd), .int (nI dt), .ref e0, .ref e1, .int (nI rt), .ref e2, .ref e3, .ref e4, .int (nI sz9), .int (nI at9), .int (nI fl), .int pl, .int (nI wr), .ref e5])), (n1, .inl (cI, 16, .inl (aN fMM))), (n2, .inl (cI, 16, .inl (aN fFO))), (e0, .inl (cI, 672, .inl (aN dr))), (e1, .inl (cI, 16, .inl (aP (nup g k (dct k n + 1)))))] := hD
    refine lv_aload_n hx hb dM_fill_29 rfl (lv_at hl 0 rfl) ?_
    refine va_get (D := (dC, dI)) (ci := 4) (v := .ref e0) (C := RM) (T := TM) (N := 17) hx hb hw inM hown hK hP 0 rfl rfl 5 (by decide) (hw _ w_fl_M_23) (fun _ h9 => h9) rfl dM_fill_30 ?_
    refine lv_bipush (v := nI 42) hx hb dM_fill_33 (by decide) ?_
    refine lv_iload_n hx hb dM_fill_35 rfl (lv_at hl 1 rfl) ?_
    refine zi_mul hx hb dM_fill_36 ?_
    refine lv_lload_n hx hb dM_fill_37 rfl (lv_at hl 2 rfl) ?_
    refine lv_aload_n hx hb dM_fill_38 rfl (lv_at hl 0 rfl) ?_
    refine va_get (D := (dC, dI)) (ci := 4) (v := .ref e1) (C := RM) (T := TM) (N := 17) hx hb hw inM hown hK hP 0 rfl rfl 6 (by decide) (hw _ w_fl_M_26) (fun _ h9 => h9) rfl dM_fill_39 ?_
    refine lv_iload_n hx hb dM_fill_42 rfl (lv_at hl 1 rfl) ?_
    refine za_pld hx hb hK hP 4 0 rfl rfl (by omega) (by decide) dM_fill_43 ?_
    refine zi_v (b := nI (dct k n)) (by rw [nup_s]; exact pm_s _) ?_
    have hPc := hP.sub (ws' := [(e0, .inl (cI, 672, .inl (aN dr)))]) [3] rfl
    have hDc := hD.sub (ws' := [(e0, .inl (cI, 672, .inl (aN dr)))]) [3] (by decide) rfl
    have hFc := va_free (wc := [(e0, .inl (cI, 672, .inl (aN dr)))]) hD hS hA [3] rfl
    refine zc_Mv (va_runS (As := [.ref e0, .int (nI (42 * k)), .long (lN n), .int (nI (dct k n))]) (rest := []) ⟨hx, hb, hml, hown, hw⟩ (c_M_setDigits l dC dI e0 cI cB 672 dr (42 * k) n (dct k n) (by omega) (by omega) (by omega) H.size) (va_cwS 4 hw (gSt w_ml_M_62 w_st_M_setDigits w_in_M w_co_M_setDigits) rfl rfl rfl (by decide +kernel) ⟨Nat.le_of_ble_eq_true rfl, Nat.le_of_ble_eq_true rfl⟩) (zM_S hG hS hFc hPc hDc hK) rfl rfl hl.1 rfl (lv_room (Nat.le_of_ble_eq_true rfl)) dM_fill_44 ⟨Nat.le_of_ble_eq_true rfl, Nat.le_of_ble_eq_true rfl⟩) hS hFc (fun H locs h_44 hP1 hD1 hk1 hS => ?_)
    obtain ⟨hP, hD⟩ := va_join (wr := [(m0, .inr (4, [.ref n0, .ref n1, .ref n2, .int (nI cd), .int (nI dt), .ref e0, .ref e1, .int (nI rt), .ref e2, .ref e3, .ref e4, .int (nI sz9), .int (nI at9), .int (nI fl), .int pl, .int (nI wr), .ref e5])), (n1, .inl (cI, 16, .inl (aN fMM))), (n2, .inl (cI, 16, .inl (aN fFO))), (e1, .inl (cI, 16, .inl (aP (nup g k (dct k n + 1)))))]) (w1 := [(e0, .inl (cI, 672, .inl (aN (ds dr (42 * k) (dct k n) n))))]) hP hD [3] [0, 1, 2, 4] rfl rfl (by decide) (by decide) hk1 hFc hP1 hD1
    have hP : va_P (dC, dI) vwCl [(m0, .inr (4, [.ref n0, .ref n1, .ref n2, .int (nI cd), .int (nI dt), .ref e0, .ref e1, .int (nI rt), .ref e2, .ref e3, .ref e4, .int (nI sz9), .int (nI at9), .int (nI fl), .int pl, .int (nI wr), .ref e5])), (n1, .inl (cI, 16, .inl (aN fMM))), (n2, .inl (cI, 16, .inl (aN fFO))), (e1, .inl (cI, 16, .inl (aP (nup g k (dct k n + 1))))), (e0, .inl (cI, 672, .inl (aN (ds dr (42 * k) (dct k n) n))))] H := hP
    have hD : va_D A [(m0, .inr (4, [.ref n0, .ref n1, .ref n2, .int (nI cd), .int (nI dt), .ref e0, .ref e1, .int (nI rt), .ref e2, .ref e3, .ref e4, .int (nI sz9), .int (nI at9), .int (nI fl), .int pl, .int (nI wr), .ref e5])), (n1, .inl (cI, 16, .inl (aN fMM))), (n2, .inl (cI, 16, .inl (aN fFO))), (e1, .inl (cI, 16, .inl (aP (nup g k (dct k n + 1))))), (e0, .inl (cI, 672, .inl (aN (ds dr (42 * k) (dct k n) n))))] := hD
    subst hAe
    subst hQ
    exact W.vret hx hb hr (fun t ht hW => ⟨⟨(), rfl, trivial, by rw [ht]; exact hP.sub [0, 1, 2, 4, 3] rfl, hD.sub [0, 1, 2, 4, 3] (by decide) rfl⟩, hS.F ht⟩) hS.2.2 dM_fill_47
  · refine lv_lload_n hx hb dM_fill_15 rfl (lv_at hl 2 rfl) ?_
    refine zc_Ri (va_runS (As := [.long (lN n)]) (rest := [.int (nI k), .ref e1]) ⟨hx, hb, hml, hown, hw⟩ (c_M_width l dC dI cI cB n (by omega) s.heap) (va_cwS 1 hw (gSt w_ml_M_58 w_st_M_width w_in_M w_co_M_width) rfl rfl rfl (by decide +kernel) ⟨Nat.le_of_ble_eq_true rfl, Nat.le_of_ble_eq_true rfl⟩) (zR_S hG hS (hP.sub (ws' := []) [] rfl) hK) rfl rfl hl.1 rfl (lv_room (Nat.le_of_ble_eq_true rfl)) dM_fill_16 ⟨Nat.le_of_ble_eq_true rfl, Nat.le_of_ble_eq_true rfl⟩) hS (fun r_2 locs h_16 hS => ?_)
    subst h_16
    refine lv_goto (tgt := 28) hx hb dM_fill_19 (by decide) ?_
    refine zi_v (b := pm (dct k n + 1)) (by rw [pm_s]; unfold dct; rw [if_neg (ho3.mp c_12).2]) ?_
    refine za_pst hx hb hK hP hD hS 4 0 rfl rfl (by omega) (by decide) dM_fill_28 (fun H locs hP hD hS => ?_)
    have hP : va_P (dC, dI) vwCl [(m0, .inr (4, [.ref n0, .ref n1, .ref n2, .int (nI cd), .int (nI dt), .ref e0, .ref e1, .int (nI rt), .ref e2, .ref e3, .ref e4, .int (nI sz9), .int (nI at9), .int (nI fl), .int pl, .int (nI wr), .ref e5])), (n1, .inl (cI, 16, .inl (aN fMM))), (n2, .inl (cI, 16, .inl (aN fFO))), (e0, .inl (cI, 672, .inl (aN dr))), (e1, .inl (cI, 16, .inl (aP (nup g k (dct k n + 1)))))] H := hP
    have hD : va_D A [(m0, .inr (4, [.ref n0, .ref n1, .ref n2, .int (nI cd), .int (nI dt), .ref e0, .ref e1, .int (nI rt), .ref e2, .ref e3, .ref e4, .int (nI sz9), .int (nI at9), .int (nI fl), .int pl, .int (nI wr), .ref e5])), (n1, .inl (cI, 16, .inl (aN fMM))), (n2, .inl (cI, 16, .inl (aN fFO))), (e0, .inl (cI, 672, .inl (aN dr))), (e1, .inl (cI, 16, .inl (aP (nup g k (dct k n + 1)))))] := hD
    refine lv_aload_n hx hb dM_fill_29 rfl (lv_at hl 0 rfl) ?_
    refine va_get (D := (dC, dI)) (ci := 4) (v := .ref e0) (C := RM) (T := TM) (N := 17) hx hb hw inM hown hK hP 0 rfl rfl 5 (by decide) (hw _ w_fl_M_23) (fun _ h9 => h9) rfl dM_fill_30 ?_
    refine lv_bipush (v := nI 42) hx hb dM_fill_33 (by decide) ?_
    refine lv_iload_n hx hb dM_fill_35 rfl (lv_at hl 1 rfl) ?_
    refine zi_mul hx hb dM_fill_36 ?_
    refine lv_lload_n hx hb dM_fill_37 rfl (lv_at hl 2 rfl) ?_
    refine lv_aload_n hx hb dM_fill_38 rfl (lv_at hl 0 rfl) ?_
    refine va_get (D := (dC, dI)) (ci := 4) (v := .ref e1) (C := RM) (T := TM) (N := 17) hx hb hw inM hown hK hP 0 rfl rfl 6 (by decide) (hw _ w_fl_M_26) (fun _ h9 => h9) rfl dM_fill_39 ?_
    refine lv_iload_n hx hb dM_fill_42 rfl (lv_at hl 1 rfl) ?_
    refine za_pld hx hb hK hP 4 0 rfl rfl (by omega) (by decide) dM_fill_43 ?_
    refine zi_v (b := nI (dct k n)) (by rw [nup_s]; exact pm_s _) ?_
    have hPc := hP.sub (ws' := [(e0, .inl (cI, 672, .inl (aN dr)))]) [3] rfl
    have hDc := hD.sub (ws' := [(e0, .inl (cI, 672, .inl (aN dr)))]) [3] (by decide) rfl
    have hFc := va_free (wc := [(e0, .inl (cI, 672, .inl (aN dr)))]) hD hS hA [3] rfl
    refine zc_Mv (va_runS (As := [.ref e0, .int (nI (42 * k)), .long (lN n), .int (nI (dct k n))]) (rest := []) ⟨hx, hb, hml, hown, hw⟩ (c_M_setDigits l dC dI e0 cI cB 672 dr (42 * k) n (dct k n) (by omega) (by omega) (by omega) H.size) (va_cwS 4 hw (gSt w_ml_M_62 w_st_M_setDigits w_in_M w_co_M_setDigits) rfl rfl rfl (by decide +kernel) ⟨Nat.le_of_ble_eq_true rfl, Nat.le_of_ble_eq_true rfl⟩) (zM_S hG hS hFc hPc hDc hK) rfl rfl hl.1 rfl (lv_room (Nat.le_of_ble_eq_true rfl)) dM_fill_44 ⟨Nat.le_of_ble_eq_true rfl, Nat.le_of_ble_eq_true rfl⟩) hS hFc (fun H locs h_44 hP1 hD1 hk1 hS => ?_)
    obtain ⟨hP, hD⟩ := va_join (wr := [(m0, .inr (4, [.ref n0, .ref n1, .ref n2, .int (nI cd), .int (nI dt), .ref e0, .ref e1, .int (nI rt), .ref e2, .ref e3, .ref e4, .int (nI sz9), .int (nI at9), .int (nI fl), .int pl, .int (nI wr), .ref e5])), (n1, .inl (cI, 16, .inl (aN fMM))), (n2, .inl (cI, 16, .inl (aN fFO))), (e1, .inl (cI, 16, .inl (aP (nup g k (dct k n + 1)))))]) (w1 := [(e0, .inl (cI, 672, .inl (aN (ds dr (42 * k) (dct k n) n))))]) hP hD [3] [0, 1, 2, 4] rfl rfl (by decide) (by decide) hk1 hFc hP1 hD1
    have hP : va_P (dC, dI) vwCl [(m0, .inr (4, [.ref n0, .ref n1, .ref n2, .int (nI cd), .int (nI dt), .ref e0, .ref e1, .int (nI rt), .ref e2, .ref e3, .ref e4, .int (nI sz9), .int (nI at9), .int (nI fl), .int pl, .int (nI wr), .ref e5])), (n1, .inl (cI, 16, .inl (aN fMM))), (n2, .inl (cI, 16, .inl (aN fFO))), (e1, .inl (cI, 16, .inl (aP (nup g k (dct k n + 1))))), (e0, .inl (cI, 672, .inl (aN (ds dr (42 * k) (dct k n) n))))] H := hP
    have hD : va_D A [(m0, .inr (4, [.ref n0, .ref n1, .ref n2, .int (nI cd), .int (nI dt), .ref e0, .ref e1, .int (nI rt), .ref e2, .ref e3, .ref e4, .int (nI sz9), .int (nI at9), .int (nI fl), .int pl, .int (nI wr), .ref e5])), (n1, .inl (cI, 16, .inl (aN fMM))), (n2, .inl (cI, 16, .inl (aN fFO))), (e1, .inl (cI, 16, .inl (aP (nup g k (dct k n + 1))))), (e0, .inl (cI, 672, .inl (aN (ds dr (42 * k) (dct k n) n))))] := hD
    subst hAe
    subst hQ
    exact W.vret hx hb hr (fun t ht hW => ⟨⟨(), rfl, trivial, by rw [ht]; exact hP.sub [0, 1, 2, 4, 3] rfl, hD.sub [0, 1, 2, 4, 3] (by decide) rfl⟩, hS.F ht⟩) hS.2.2 dM_fill_47
def rm_c_Mdigits_ok : Room := ({ frames := 2, cells := 0, slots := 0, locals := 50 } : Room)
set_option maxHeartbeats 4000000 in
set_option maxRecDepth 100000 in
theorem c_Mdigits_ok (l : Launch) (dC : Nat → ClassId) (dI : Nat → Nat → Nat) (m0 : Nat) (n0 : Nat) (n1 : Nat) (n2 : Nat) (cd : Nat) (dt : Nat) (e0 : Nat) (e1 : Nat) (rt : Nat) (e2 : Nat) (e3 : Nat) (e4 : Nat) (sz9 : Nat) (at9 : Nat) (fl : Nat) (pl : Int32) (wr : Nat) (e5 : Nat) (cI : ClassId) (cB : ClassId) (dr : Nat → Nat) (g : Nat → Nat) (k : Nat) (n : Nat) (hk : k < 16) (hh : fHL k = 0) (hn : n < 2 ^ 63) (hd : dcn n ≤ fMM k) (sz : Nat) : Met l yM_digits wsM_digits rm_c_Mdigits_ok (zM (dC, dI) [(cI, .int), (cB, .byte)] [.ref m0, .int (nI (fFI k)), .long (lN n)] [(m0, .inr (4, [.ref n0, .ref n1, .ref n2, .int (nI cd), .int (nI dt), .ref e0, .ref e1, .int (nI rt), .ref e2, .ref e3, .ref e4, .int (nI sz9), .int (nI at9), .int (nI fl), .int pl, .int (nI wr), .ref e5])), (n0, .inl (cI, 16, .inl (aN fFI))), (n1, .inl (cI, 16, .inl (aN fMM))), (n2, .inl (cI, 16, .inl (aN fFO))), (e0, .inl (cI, 672, .inl (aN dr))), (e1, .inl (cI, 16, .inl (aP g)))] sz) (zMv (dC, dI) [(m0, .inr (4, [.ref n0, .ref n1, .ref n2, .int (nI cd), .int (nI dt), .ref e0, .ref e1, .int (nI rt), .ref e2, .ref e3, .ref e4, .int (nI sz9), .int (nI at9), .int (nI fl), .int pl, .int (nI wr), .ref e5])), (n0, .inl (cI, 16, .inl (aN fFI))), (n1, .inl (cI, 16, .inl (aN fMM))), (n2, .inl (cI, 16, .inl (aN fFO))), (e0, .inl (cI, 672, .inl (aN dr))), (e1, .inl (cI, 16, .inl (aP g)))] [(m0, .inr (4, [.ref n0, .ref n1, .ref n2, .int (nI 0), .int (nI dt), .ref e0, .ref e1, .int (nI rt), .ref e2, .ref e3, .ref e4, .int (nI sz9), .int (nI at9), .int (nI fl), .int pl, .int (nI wr), .ref e5])), (n0, .inl (cI, 16, .inl (aN fFI))), (n1, .inl (cI, 16, .inl (aN fMM))), (n2, .inl (cI, 16, .inl (aN fFO))), (e0, .inl (cI, 672, .inl (aN (ds dr (42 * k) (dct k n) n)))), (e1, .inl (cI, 16, .inl (aP (nup g k (dct k n + 1)))))] sz (True)) 0 0 (va_A [(m0, .inr (4, [.ref n0, .ref n1, .ref n2, .int (nI cd), .int (nI dt), .ref e0, .ref e1, .int (nI rt), .ref e2, .ref e3, .ref e4, .int (nI sz9), .int (nI at9), .int (nI fl), .int pl, .int (nI wr), .ref e5])), (n0, .inl (cI, 16, .inl (aN fFI))), (n1, .inl (cI, 16, .inl (aN fMM))), (n2, .inl (cI, 16, .inl (aN fFO))), (e0, .inl (cI, 672, .inl (aN dr))), (e1, .inl (cI, 16, .inl (aP g)))] sz) := by
  refine Met.ofW (cc := cM_digits) (maxL := 5) (ret := none) (by decide) rfl ?_
  intro p e s m args below meth c s₁ Bd hml hv
  obtain ⟨rfl, hsz, hG, hP, hK, hD0⟩ := hv
  subst hsz
  have hx := Bd.exec
  have hb := Bd.bytes
  have hr := Bd.returns
  have hts := atoms_spec (ws := wsM_digits) Bd.pre
  have hw : ∀ w ∈ BIG, w.before _ s = true := fun w h => hts w (List.mem_cons_of_mem _ h)
  have hown : s.vm.findClass RM = some m.cls := findClass_of_methodNamed Bd.named
  have hlocks := Bd.notSynchronized
  have hD := hD0.self (sz := s.heap.size)
  obtain ⟨A, hAe⟩ : ∃ A, A = va_A [(m0, .inr (4, [.ref n0, .ref n1, .ref n2, .int (nI cd), .int (nI dt), .ref e0, .ref e1, .int (nI rt), .ref e2, .ref e3, .ref e4, .int (nI sz9), .int (nI at9), .int (nI fl), .int pl, .int (nI wr), .ref e5])), (n0, .inl (cI, 16, .inl (aN fFI))), (n1, .inl (cI, 16, .inl (aN fMM))), (n2, .inl (cI, 16, .inl (aN fFO))), (e0, .inl (cI, 672, .inl (aN dr))), (e1, .inl (cI, 16, .inl (aP g)))] s.heap.size := ⟨_, rfl⟩
  have hA : ∀ q : Nat, s.heap.size ≤ q → A q := fun q h => by rw [hAe]; exact Or.inr h
  rw [← hAe] at hG hD
  have hS : va_S A s.heap s.heap [] := va_S.rf
  have hl := lv_entry ([.ref m0, .int (nI (fFI k)), .long (lN n)]) (n := 5) (Nat.le_of_ble_eq_true rfl)
  rw [lg_entry_eq]
  generalize (lg_sl ([.ref m0, .int (nI (fFI k)), .long (lN n)]) ++ List.replicate (5 - (lg_sl ([.ref m0, .int (nI (fFI k)), .long (lN n)])).length) Slot.unset).toArray = ls at hl ⊢
  have hl : lv_has ls 5 [(0, .ref m0), (1, .int (nI (fFI k))), (2, .long (lN n))] := hl
  refine zq_name (fun Q hQ => ?_)
  change W p l e rm_c_Mdigits_ok s m _ below meth c _ _ _ _ Q _
  obtain ⟨ho1, ho2, ho3, ho4, ho5⟩ := fFO_b k hk
  have hmm := fMM_b k hk
  have hcd := fCD_b k hk
  have hdn := dcn_le n
  have hdc : dct k n ≤ fMM k := by unfold dct; split <;> omega
  have ho2 := ho2.mpr hh
  refine lv_aload_n hx hb dM_digits_0 rfl (lv_at hl 0 rfl) ?_
  refine lv_iload_n hx hb dM_digits_1 rfl (lv_at hl 1 rfl) ?_
  refine zc_Ri (va_runV (As := [.int (nI (fFI k))]) (rest := []) ⟨hx, hb, hml, hown, hw⟩ (c_fieldOf_ok l dC dI m0 n0 n1 n2 cd dt e0 e1 rt e2 e3 e4 sz9 at9 fl pl wr e5 cI cB k (by omega) s.heap) (cwV 1 hw (gV w_ml_M_66 w_im_M_fieldOf w_se_M_fieldOf w_in_M w_co_M_fieldOf) rfl rfl rfl (by decide +kernel) ⟨Nat.le_of_ble_eq_true rfl, Nat.le_of_ble_eq_true rfl⟩) (zR_V hG hS (hP.sub (ws' := [(m0, .inr (4, [.ref n0, .ref n1, .ref n2, .int (nI cd), .int (nI dt), .ref e0, .ref e1, .int (nI rt), .ref e2, .ref e3, .ref e4, .int (nI sz9), .int (nI at9), .int (nI fl), .int pl, .int (nI wr), .ref e5])), (n0, .inl (cI, 16, .inl (aN fFI)))]) [0, 1] rfl) hK 0 rfl rfl) rfl rfl hl.1 rfl (lv_room (Nat.le_of_ble_eq_true rfl)) dM_digits_2 ⟨Nat.le_of_ble_eq_true rfl, Nat.le_of_ble_eq_true rfl⟩) hS (fun r_1 locs h_2 hS => ?_)
  subst h_2
  refine lv_istore (lv' := [(4, .int (nI k)), (0, .ref m0), (1, .int (nI (fFI k))), (2, .long (lN n))]) hx hb dM_digits_5 hl (by decide) rfl (fun ls hl => ?_)
  refine lv_aload_n hx hb dM_digits_7 rfl (lv_at hl 1 rfl) ?_
  refine lv_iload hx hb dM_digits_8 (lv_at hl 0 rfl) ?_
  refine zi_lt0 (tgt := 48) hx hb (by omega) dM_digits_10 (by decide) ?_
  refine lv_aload_n hx hb dM_digits_13 rfl (lv_at hl 1 rfl) ?_
  refine va_get (D := (dC, dI)) (ci := 4) (v := .ref n2) (C := RM) (T := TM) (N := 17) hx hb hw inM hown hK hP 0 rfl rfl 2 (by decide) (hw _ w_fl_M_16) (fun _ h9 => h9) rfl dM_digits_14 ?_
  refine lv_iload hx hb dM_digits_17 (lv_at hl 0 rfl) ?_
  refine za_ild hx hb hK hP 3 0 rfl rfl (by omega) (by decide) dM_digits_19 ?_
  refine lv_iconst (v := nI 2) hx hb dM_digits_20 (by decide) ?_
  refine zi_ge (tgt := 48) hx hb (by omega) (by omega) dM_digits_21 (by decide) (fun q => False.elim ((by omega))) (fun c_21 => ?_)
  refine lv_lload_n hx hb dM_digits_24 rfl (lv_at hl 3 rfl) ?_
  refine lv_lconst (v := lN 0) hx hb dM_digits_25 (by decide) ?_
  refine W.lcmp hx hb dM_digits_26 ?_
  refine zl_lt0 (tgt := 48) hx hb (by omega) (by omega) dM_digits_27 (by decide) (fun q => False.elim ((by omega))) (fun c_27 => ?_)
  refine lv_lload_n hx hb dM_digits_30 rfl (lv_at hl 3 rfl) ?_
  refine zc_Ri (va_runS (As := [.long (lN n)]) (rest := [.ref m0]) ⟨hx, hb, hml, hown, hw⟩ (c_M_width l dC dI cI cB n (by omega) s.heap) (va_cwS 1 hw (gSt w_ml_M_58 w_st_M_width w_in_M w_co_M_width) rfl rfl rfl (by decide +kernel) ⟨Nat.le_of_ble_eq_true rfl, Nat.le_of_ble_eq_true rfl⟩) (zR_S hG hS (hP.sub (ws' := []) [] rfl) hK) rfl rfl hl.1 rfl (lv_room (Nat.le_of_ble_eq_true rfl)) dM_digits_31 ⟨Nat.le_of_ble_eq_true rfl, Nat.le_of_ble_eq_true rfl⟩) hS (fun r_2 locs h_31 hS => ?_)
  subst h_31
  refine lv_aload_n hx hb dM_digits_34 rfl (lv_at hl 1 rfl) ?_
  refine va_get (D := (dC, dI)) (ci := 4) (v := .ref n1) (C := RM) (T := TM) (N := 17) hx hb hw inM hown hK hP 0 rfl rfl 1 (by decide) (hw _ w_fl_M_13) (fun _ h9 => h9) rfl dM_digits_35 ?_
  refine lv_iload hx hb dM_digits_38 (lv_at hl 0 rfl) ?_
  refine za_ild hx hb hK hP 2 0 rfl rfl (by omega) (by decide) dM_digits_40 ?_
  refine zi_gt (tgt := 48) hx hb (by omega) (by omega) dM_digits_41 (by decide) (fun q => False.elim ((by omega))) (fun c_41 => ?_)
  refine lv_iconst (v := nI 1) hx hb dM_digits_44 (by decide) ?_
  refine lv_goto (tgt := 49) hx hb dM_digits_45 (by decide) ?_
  have hPc := hP.sub (ws' := [(m0, .inr (4, [.ref n0, .ref n1, .ref n2, .int (nI cd), .int (nI dt), .ref e0, .ref e1, .int (nI rt), .ref e2, .ref e3, .ref e4, .int (nI sz9), .int (nI at9), .int (nI fl), .int pl, .int (nI wr), .ref e5]))]) [0] rfl
  have hDc := hD.sub (ws' := [(m0, .inr (4, [.ref n0, .ref n1, .ref n2, .int (nI cd), .int (nI dt), .ref e0, .ref e1, .int (nI rt), .ref e2, .ref e3, .ref e4, .int (nI sz9), .int (nI at9), .int (nI fl), .int pl, .int (nI wr), .ref e5]))]) [0] (by decide) rfl
  have hFc := va_free (wc := [(m0, .inr (4, [.ref n0, .ref n1, .ref n2, .int (nI cd), .int (nI dt), .ref e0, .ref e1, .int (nI rt), .ref e2, .ref e3, .ref e4, .int (nI sz9), .int (nI at9), .int (nI fl), .int pl, .int (nI wr), .ref e5]))]) hD hS hA [0] rfl
  refine zc_Mi (va_runV (As := [.int (nI 1)]) (rest := []) ⟨hx, hb, hml, hown, hw⟩ (c_goes_1 l dC dI m0 n0 n1 n2 cd dt e0 e1 rt e2 e3 e4 sz9 at9 fl pl wr e5 cI cB s.heap.size) (cwV 1 hw (gV w_ml_M_50 w_im_M_goes w_se_M_goes w_in_M w_co_M_goes) rfl rfl rfl (by decide +kernel) ⟨Nat.le_of_ble_eq_true rfl, Nat.le_of_ble_eq_true rfl⟩) (zM_V hG hS hFc hPc hDc hK 0 rfl rfl) rfl rfl hl.1 rfl (lv_room (Nat.le_of_ble_eq_true rfl)) dM_digits_49 ⟨Nat.le_of_ble_eq_true rfl, Nat.le_of_ble_eq_true rfl⟩) hS hFc (fun r_3 H locs h_49 hP1 hD1 hk1 hS => ?_)
  obtain ⟨hP, hD⟩ := va_join (wr := [(n0, .inl (cI, 16, .inl (aN fFI))), (n1, .inl (cI, 16, .inl (aN fMM))), (n2, .inl (cI, 16, .inl (aN fFO))), (e0, .inl (cI, 672, .inl (aN dr))), (e1, .inl (cI, 16, .inl (aP g)))]) (w1 := [(m0, .inr (4, [.ref n0, .ref n1, .ref n2, .int (nI 0), .int (nI dt), .ref e0, .ref e1, .int (nI rt), .ref e2, .ref e3, .ref e4, .int (nI sz9), .int (nI at9), .int (nI fl), .int pl, .int (nI wr), .ref e5]))]) hP hD [0] [1, 2, 3, 4, 5] rfl rfl (by decide) (by decide) hk1 hFc hP1 hD1
  have hP : va_P (dC, dI) vwCl [(n0, .inl (cI, 16, .inl (aN fFI))), (n1, .inl (cI, 16, .inl (aN fMM))), (n2, .inl (cI, 16, .inl (aN fFO))), (e0, .inl (cI, 672, .inl (aN dr))), (e1, .inl (cI, 16, .inl (aP g))), (m0, .inr (4, [.ref n0, .ref n1, .ref n2, .int (nI 0), .int (nI dt), .ref e0, .ref e1, .int (nI rt), .ref e2, .ref e3, .ref e4, .int (nI sz9), .int (nI at9), .int (nI fl), .int pl, .int (nI wr), .ref e5]))] H := hP
  have hD : va_D A [(n0, .inl (cI, 16, .inl (aN fFI))), (n1, .inl (cI, 16, .inl (aN fMM))), (n2, .inl (cI, 16, .inl (aN fFO))), (e0, .inl (cI, 672, .inl (aN dr))), (e1, .inl (cI, 16, .inl (aP g))), (m0, .inr (4, [.ref n0, .ref n1, .ref n2, .int (nI 0), .int (nI dt), .ref e0, .ref e1, .int (nI rt), .ref e2, .ref e3, .ref e4, .int (nI sz9), .int (nI at9), .int (nI fl), .int pl, .int (nI wr), .ref e5]))] := hD
  subst h_49
  refine lv_if_eq (tgt := 62) hx hb dM_digits_52 (by decide) (fun q => False.elim (absurd q (by decide))) (fun c_52 => ?_)
  refine lv_aload_n hx hb dM_digits_55 rfl (lv_at hl 1 rfl) ?_
  refine lv_iload hx hb dM_digits_56 (lv_at hl 0 rfl) ?_
  refine lv_lload_n hx hb dM_digits_58 rfl (lv_at hl 3 rfl) ?_
  have hPc := hP.sub (ws' := [(m0, .inr (4, [.ref n0, .ref n1, .ref n2, .int (nI 0), .int (nI dt), .ref e0, .ref e1, .int (nI rt), .ref e2, .ref e3, .ref e4, .int (nI sz9), .int (nI at9), .int (nI fl), .int pl, .int (nI wr), .ref e5])), (n1, .inl (cI, 16, .inl (aN fMM))), (n2, .inl (cI, 16, .inl (aN fFO))), (e0, .inl (cI, 672, .inl (aN dr))), (e1, .inl (cI, 16, .inl (aP g)))]) [5, 1, 2, 3, 4] rfl
  have hDc := hD.sub (ws' := [(m0, .inr (4, [.ref n0, .ref n1, .ref n2, .int (nI 0), .int (nI dt), .ref e0, .ref e1, .int (nI rt), .ref e2, .ref e3, .ref e4, .int (nI sz9), .int (nI at9), .int (nI fl), .int pl, .int (nI wr), .ref e5])), (n1, .inl (cI, 16, .inl (aN fMM))), (n2, .inl (cI, 16, .inl (aN fFO))), (e0, .inl (cI, 672, .inl (aN dr))), (e1, .inl (cI, 16, .inl (aP g)))]) [5, 1, 2, 3, 4] (by decide) rfl
  have hFc := va_free (wc := [(m0, .inr (4, [.ref n0, .ref n1, .ref n2, .int (nI 0), .int (nI dt), .ref e0, .ref e1, .int (nI rt), .ref e2, .ref e3, .ref e4, .int (nI sz9), .int (nI at9), .int (nI fl), .int pl, .int (nI wr), .ref e5])), (n1, .inl (cI, 16, .inl (aN fMM))), (n2, .inl (cI, 16, .inl (aN fFO))), (e0, .inl (cI, 672, .inl (aN dr))), (e1, .inl (cI, 16, .inl (aP g)))]) hD hS hA [5, 1, 2, 3, 4] rfl
  refine zc_Mv (va_runV (As := [.int (nI k), .long (lN n)]) (rest := []) ⟨hx, hb, hml, hown, hw⟩ (c_M_fill l dC dI m0 n0 n1 n2 0 dt e0 e1 rt e2 e3 e4 sz9 at9 fl pl wr e5 cI cB dr g k n (by omega) hh (by omega) hd H.size) (cwV 2 hw (gV w_ml_M_70 w_im_M_fill w_se_M_fill w_in_M w_co_M_fill) rfl rfl rfl (by decide +kernel) ⟨Nat.le_of_ble_eq_true rfl, Nat.le_of_ble_eq_true rfl⟩) (zM_V hG hS hFc hPc hDc hK 0 rfl rfl) rfl rfl hl.1 rfl (lv_room (Nat.le_of_ble_eq_true rfl)) dM_digits_59 ⟨Nat.le_of_ble_eq_true rfl, Nat.le_of_ble_eq_true rfl⟩) hS hFc (fun H locs h_59 hP1 hD1 hk1 hS => ?_)
  obtain ⟨hP, hD⟩ := va_join (wr := [(n0, .inl (cI, 16, .inl (aN fFI)))]) (w1 := [(m0, .inr (4, [.ref n0, .ref n1, .ref n2, .int (nI 0), .int (nI dt), .ref e0, .ref e1, .int (nI rt), .ref e2, .ref e3, .ref e4, .int (nI sz9), .int (nI at9), .int (nI fl), .int pl, .int (nI wr), .ref e5])), (n1, .inl (cI, 16, .inl (aN fMM))), (n2, .inl (cI, 16, .inl (aN fFO))), (e0, .inl (cI, 672, .inl (aN (ds dr (42 * k) (dct k n) n)))), (e1, .inl (cI, 16, .inl (aP (nup g k (dct k n + 1)))))]) hP hD [5, 1, 2, 3, 4] [0] rfl rfl (by decide) (by decide) hk1 hFc hP1 hD1
  have hP : va_P (dC, dI) vwCl [(n0, .inl (cI, 16, .inl (aN fFI))), (m0, .inr (4, [.ref n0, .ref n1, .ref n2, .int (nI 0), .int (nI dt), .ref e0, .ref e1, .int (nI rt), .ref e2, .ref e3, .ref e4, .int (nI sz9), .int (nI at9), .int (nI fl), .int pl, .int (nI wr), .ref e5])), (n1, .inl (cI, 16, .inl (aN fMM))), (n2, .inl (cI, 16, .inl (aN fFO))), (e0, .inl (cI, 672, .inl (aN (ds dr (42 * k) (dct k n) n)))), (e1, .inl (cI, 16, .inl (aP (nup g k (dct k n + 1)))))] H := hP
  have hD : va_D A [(n0, .inl (cI, 16, .inl (aN fFI))), (m0, .inr (4, [.ref n0, .ref n1, .ref n2, .int (nI 0), .int (nI dt), .ref e0, .ref e1, .int (nI rt), .ref e2, .ref e3, .ref e4, .int (nI sz9), .int (nI at9), .int (nI fl), .int pl, .int (nI wr), .ref e5])), (n1, .inl (cI, 16, .inl (aN fMM))), (n2, .inl (cI, 16, .inl (aN fFO))), (e0, .inl (cI, 672, .inl (aN (ds dr (42 * k) (dct k n) n)))), (e1, .inl (cI, 16, .inl (aP (nup g k (dct k n + 1)))))] := hD
  subst hAe
  subst hQ
  exact W.vret hx hb hr (fun t ht hW => ⟨⟨(), rfl, trivial, by rw [ht]; exact hP.sub [1, 0, 2, 3, 4, 5] rfl, hD.sub [1, 0, 2, 3, 4, 5] (by decide) rfl⟩, hS.F ht⟩) hS.2.2 dM_digits_62
def rm_c_Mdigits_no1 : Room := ({ frames := 2, cells := 0, slots := 0, locals := 50 } : Room)
set_option maxHeartbeats 4000000 in
set_option maxRecDepth 100000 in
theorem c_Mdigits_no1 (l : Launch) (dC : Nat → ClassId) (dI : Nat → Nat → Nat) (m0 : Nat) (n0 : Nat) (n1 : Nat) (n2 : Nat) (cd : Nat) (dt : Nat) (e0 : Nat) (e1 : Nat) (rt : Nat) (e2 : Nat) (e3 : Nat) (e4 : Nat) (sz9 : Nat) (at9 : Nat) (fl : Nat) (pl : Int32) (wr : Nat) (e5 : Nat) (cI : ClassId) (cB : ClassId) (x9 : Int32) (v : Int64) (hx9 : ∀ j, j < 16 → nI (fFI j) ≠ x9) (sz : Nat) : Met l yM_digits wsM_digits rm_c_Mdigits_no1 (zM (dC, dI) [(cI, .int), (cB, .byte)] [.ref m0, .int x9, .long v] [(m0, .inr (4, [.ref n0, .ref n1, .ref n2, .int (nI cd), .int (nI dt), .ref e0, .ref e1, .int (nI rt), .ref e2, .ref e3, .ref e4, .int (nI sz9), .int (nI at9), .int (nI fl), .int pl, .int (nI wr), .ref e5])), (n0, .inl (cI, 16, .inl (aN fFI))), (n1, .inl (cI, 16, .inl (aN fMM))), (n2, .inl (cI, 16, .inl (aN fFO)))] sz) (zMv (dC, dI) [(m0, .inr (4, [.ref n0, .ref n1, .ref n2, .int (nI cd), .int (nI dt), .ref e0, .ref e1, .int (nI rt), .ref e2, .ref e3, .ref e4, .int (nI sz9), .int (nI at9), .int (nI fl), .int pl, .int (nI wr), .ref e5])), (n0, .inl (cI, 16, .inl (aN fFI))), (n1, .inl (cI, 16, .inl (aN fMM))), (n2, .inl (cI, 16, .inl (aN fFO)))] [(m0, .inr (4, [.ref n0, .ref n1, .ref n2, .int (nI 1), .int (nI dt), .ref e0, .ref e1, .int (nI rt), .ref e2, .ref e3, .ref e4, .int (nI sz9), .int (nI at9), .int (nI fl), .int pl, .int (nI wr), .ref e5])), (n0, .inl (cI, 16, .inl (aN fFI))), (n1, .inl (cI, 16, .inl (aN fMM))), (n2, .inl (cI, 16, .inl (aN fFO)))] sz (True)) 0 0 (va_A [(m0, .inr (4, [.ref n0, .ref n1, .ref n2, .int (nI cd), .int (nI dt), .ref e0, .ref e1, .int (nI rt), .ref e2, .ref e3, .ref e4, .int (nI sz9), .int (nI at9), .int (nI fl), .int pl, .int (nI wr), .ref e5])), (n0, .inl (cI, 16, .inl (aN fFI))), (n1, .inl (cI, 16, .inl (aN fMM))), (n2, .inl (cI, 16, .inl (aN fFO)))] sz) := by
  refine Met.ofW (cc := cM_digits) (maxL := 5) (ret := none) (by decide) rfl ?_
  intro p e s m args below meth c s₁ Bd hml hv
  obtain ⟨rfl, hsz, hG, hP, hK, hD0⟩ := hv
  subst hsz
  have hx := Bd.exec
  have hb := Bd.bytes
  have hr := Bd.returns
  have hts := atoms_spec (ws := wsM_digits) Bd.pre
  have hw : ∀ w ∈ BIG, w.before _ s = true := fun w h => hts w (List.mem_cons_of_mem _ h)
  have hown : s.vm.findClass RM = some m.cls := findClass_of_methodNamed Bd.named
  have hlocks := Bd.notSynchronized
  have hD := hD0.self (sz := s.heap.size)
  obtain ⟨A, hAe⟩ : ∃ A, A = va_A [(m0, .inr (4, [.ref n0, .ref n1, .ref n2, .int (nI cd), .int (nI dt), .ref e0, .ref e1, .int (nI rt), .ref e2, .ref e3, .ref e4, .int (nI sz9), .int (nI at9), .int (nI fl), .int pl, .int (nI wr), .ref e5])), (n0, .inl (cI, 16, .inl (aN fFI))), (n1, .inl (cI, 16, .inl (aN fMM))), (n2, .inl (cI, 16, .inl (aN fFO)))] s.heap.size := ⟨_, rfl⟩
  have hA : ∀ q : Nat, s.heap.size ≤ q → A q := fun q h => by rw [hAe]; exact Or.inr h
  rw [← hAe] at hG hD
  have hS : va_S A s.heap s.heap [] := va_S.rf
  have hl := lv_entry ([.ref m0, .int x9, .long v]) (n := 5) (Nat.le_of_ble_eq_true rfl)
  rw [lg_entry_eq]
  generalize (lg_sl ([.ref m0, .int x9, .long v]) ++ List.replicate (5 - (lg_sl ([.ref m0, .int x9, .long v])).length) Slot.unset).toArray = ls at hl ⊢
  have hl : lv_has ls 5 [(0, .ref m0), (1, .int x9), (2, .long v)] := hl
  refine zq_name (fun Q hQ => ?_)
  change W p l e rm_c_Mdigits_no1 s m _ below meth c _ _ _ _ Q _
  refine lv_aload_n hx hb dM_digits_0 rfl (lv_at hl 0 rfl) ?_
  refine lv_iload_n hx hb dM_digits_1 rfl (lv_at hl 1 rfl) ?_
  refine zc_Ri (va_runV (As := [.int x9]) (rest := []) ⟨hx, hb, hml, hown, hw⟩ (c_fieldOf_no l dC dI m0 n0 n1 n2 cd dt e0 e1 rt e2 e3 e4 sz9 at9 fl pl wr e5 cI cB x9 hx9 s.heap) (cwV 1 hw (gV w_ml_M_66 w_im_M_fieldOf w_se_M_fieldOf w_in_M w_co_M_fieldOf) rfl rfl rfl (by decide +kernel) ⟨Nat.le_of_ble_eq_true rfl, Nat.le_of_ble_eq_true rfl⟩) (zR_V hG hS (hP.sub (ws' := [(m0, .inr (4, [.ref n0, .ref n1, .ref n2, .int (nI cd), .int (nI dt), .ref e0, .ref e1, .int (nI rt), .ref e2, .ref e3, .ref e4, .int (nI sz9), .int (nI at9), .int (nI fl), .int pl, .int (nI wr), .ref e5])), (n0, .inl (cI, 16, .inl (aN fFI)))]) [0, 1] rfl) hK 0 rfl rfl) rfl rfl hl.1 rfl (lv_room (Nat.le_of_ble_eq_true rfl)) dM_digits_2 ⟨Nat.le_of_ble_eq_true rfl, Nat.le_of_ble_eq_true rfl⟩) hS (fun r_1 locs h_2 hS => ?_)
  subst h_2
  refine lv_istore (lv' := [(4, .int (-1)), (0, .ref m0), (1, .int x9), (2, .long v)]) hx hb dM_digits_5 hl (by decide) rfl (fun ls hl => ?_)
  refine lv_aload_n hx hb dM_digits_7 rfl (lv_at hl 1 rfl) ?_
  refine lv_iload hx hb dM_digits_8 (lv_at hl 0 rfl) ?_
  refine lv_if_lt (tgt := 48) hx hb dM_digits_10 (by decide) (fun c_10 => ?_) (fun q => False.elim (absurd q (by decide)))
  refine lv_iconst (v := nI 0) hx hb dM_digits_48 (by decide) ?_
  have hPc := hP.sub (ws' := [(m0, .inr (4, [.ref n0, .ref n1, .ref n2, .int (nI cd), .int (nI dt), .ref e0, .ref e1, .int (nI rt), .ref e2, .ref e3, .ref e4, .int (nI sz9), .int (nI at9), .int (nI fl), .int pl, .int (nI wr), .ref e5]))]) [0] rfl
  have hDc := hD.sub (ws' := [(m0, .inr (4, [.ref n0, .ref n1, .ref n2, .int (nI cd), .int (nI dt), .ref e0, .ref e1, .int (nI rt), .ref e2, .ref e3, .ref e4, .int (nI sz9), .int (nI at9), .int (nI fl), .int pl, .int (nI wr), .ref e5]))]) [0] (by decide) rfl
  have hFc := va_free (wc := [(m0, .inr (4, [.ref n0, .ref n1, .ref n2, .int (nI cd), .int (nI dt), .ref e0, .ref e1, .int (nI rt), .ref e2, .ref e3, .ref e4, .int (nI sz9), .int (nI at9), .int (nI fl), .int pl, .int (nI wr), .ref e5]))]) hD hS hA [0] rfl
  refine zc_Mi (va_runV (As := [.int (nI 0)]) (rest := []) ⟨hx, hb, hml, hown, hw⟩ (c_goes_0 l dC dI m0 n0 n1 n2 cd dt e0 e1 rt e2 e3 e4 sz9 at9 fl pl wr e5 cI cB s.heap.size) (cwV 1 hw (gV w_ml_M_50 w_im_M_goes w_se_M_goes w_in_M w_co_M_goes) rfl rfl rfl (by decide +kernel) ⟨Nat.le_of_ble_eq_true rfl, Nat.le_of_ble_eq_true rfl⟩) (zM_V hG hS hFc hPc hDc hK 0 rfl rfl) rfl rfl hl.1 rfl (lv_room (Nat.le_of_ble_eq_true rfl)) dM_digits_49 ⟨Nat.le_of_ble_eq_true rfl, Nat.le_of_ble_eq_true rfl⟩) hS hFc (fun r_2 H locs h_49 hP1 hD1 hk1 hS => ?_)
  obtain ⟨hP, hD⟩ := va_join (wr := [(n0, .inl (cI, 16, .inl (aN fFI))), (n1, .inl (cI, 16, .inl (aN fMM))), (n2, .inl (cI, 16, .inl (aN fFO)))]) (w1 := [(m0, .inr (4, [.ref n0, .ref n1, .ref n2, .int (nI 1), .int (nI dt), .ref e0, .ref e1, .int (nI rt), .ref e2, .ref e3, .ref e4, .int (nI sz9), .int (nI at9), .int (nI fl), .int pl, .int (nI wr), .ref e5]))]) hP hD [0] [1, 2, 3] rfl rfl (by decide) (by decide) hk1 hFc hP1 hD1
  have hP : va_P (dC, dI) vwCl [(n0, .inl (cI, 16, .inl (aN fFI))), (n1, .inl (cI, 16, .inl (aN fMM))), (n2, .inl (cI, 16, .inl (aN fFO))), (m0, .inr (4, [.ref n0, .ref n1, .ref n2, .int (nI 1), .int (nI dt), .ref e0, .ref e1, .int (nI rt), .ref e2, .ref e3, .ref e4, .int (nI sz9), .int (nI at9), .int (nI fl), .int pl, .int (nI wr), .ref e5]))] H := hP
  have hD : va_D A [(n0, .inl (cI, 16, .inl (aN fFI))), (n1, .inl (cI, 16, .inl (aN fMM))), (n2, .inl (cI, 16, .inl (aN fFO))), (m0, .inr (4, [.ref n0, .ref n1, .ref n2, .int (nI 1), .int (nI dt), .ref e0, .ref e1, .int (nI rt), .ref e2, .ref e3, .ref e4, .int (nI sz9), .int (nI at9), .int (nI fl), .int pl, .int (nI wr), .ref e5]))] := hD
  subst h_49
  refine lv_if_eq (tgt := 62) hx hb dM_digits_52 (by decide) (fun c_52 => ?_) (fun q => False.elim (absurd q (by decide)))
  subst hAe
  subst hQ
  exact W.vret hx hb hr (fun t ht hW => ⟨⟨(), rfl, trivial, by rw [ht]; exact hP.sub [3, 0, 1, 2] rfl, hD.sub [3, 0, 1, 2] (by decide) rfl⟩, hS.F ht⟩) hS.2.2 dM_digits_62
def rm_c_Mdigits_no2 : Room := ({ frames := 2, cells := 0, slots := 0, locals := 50 } : Room)
set_option maxHeartbeats 4000000 in
set_option maxRecDepth 100000 in
theorem c_Mdigits_no2 (l : Launch) (dC : Nat → ClassId) (dI : Nat → Nat → Nat) (m0 : Nat) (n0 : Nat) (n1 : Nat) (n2 : Nat) (cd : Nat) (dt : Nat) (e0 : Nat) (e1 : Nat) (rt : Nat) (e2 : Nat) (e3 : Nat) (e4 : Nat) (sz9 : Nat) (at9 : Nat) (fl : Nat) (pl : Int32) (wr : Nat) (e5 : Nat) (cI : ClassId) (cB : ClassId) (k : Nat) (v : Int64) (hk : k < 16) (hh : fHL k ≠ 0) (sz : Nat) : Met l yM_digits wsM_digits rm_c_Mdigits_no2 (zM (dC, dI) [(cI, .int), (cB, .byte)] [.ref m0, .int (nI (fFI k)), .long v] [(m0, .inr (4, [.ref n0, .ref n1, .ref n2, .int (nI cd), .int (nI dt), .ref e0, .ref e1, .int (nI rt), .ref e2, .ref e3, .ref e4, .int (nI sz9), .int (nI at9), .int (nI fl), .int pl, .int (nI wr), .ref e5])), (n0, .inl (cI, 16, .inl (aN fFI))), (n1, .inl (cI, 16, .inl (aN fMM))), (n2, .inl (cI, 16, .inl (aN fFO)))] sz) (zMv (dC, dI) [(m0, .inr (4, [.ref n0, .ref n1, .ref n2, .int (nI cd), .int (nI dt), .ref e0, .ref e1, .int (nI rt), .ref e2, .ref e3, .ref e4, .int (nI sz9), .int (nI at9), .int (nI fl), .int pl, .int (nI wr), .ref e5])), (n0, .inl (cI, 16, .inl (aN fFI))), (n1, .inl (cI, 16, .inl (aN fMM))), (n2, .inl (cI, 16, .inl (aN fFO)))] [(m0, .inr (4, [.ref n0, .ref n1, .ref n2, .int (nI 1), .int (nI dt), .ref e0, .ref e1, .int (nI rt), .ref e2, .ref e3, .ref e4, .int (nI sz9), .int (nI at9), .int (nI fl), .int pl, .int (nI wr), .ref e5])), (n0, .inl (cI, 16, .inl (aN fFI))), (n1, .inl (cI, 16, .inl (aN fMM))), (n2, .inl (cI, 16, .inl (aN fFO)))] sz (True)) 0 0 (va_A [(m0, .inr (4, [.ref n0, .ref n1, .ref n2, .int (nI cd), .int (nI dt), .ref e0, .ref e1, .int (nI rt), .ref e2, .ref e3, .ref e4, .int (nI sz9), .int (nI at9), .int (nI fl), .int pl, .int (nI wr), .ref e5])), (n0, .inl (cI, 16, .inl (aN fFI))), (n1, .inl (cI, 16, .inl (aN fMM))), (n2, .inl (cI, 16, .inl (aN fFO)))] sz) := by
  refine Met.ofW (cc := cM_digits) (maxL := 5) (ret := none) (by decide) rfl ?_
  intro p e s m args below meth c s₁ Bd hml hv
  obtain ⟨rfl, hsz, hG, hP, hK, hD0⟩ := hv
  subst hsz
  have hx := Bd.exec
  have hb := Bd.bytes
  have hr := Bd.returns
  have hts := atoms_spec (ws := wsM_digits) Bd.pre
  have hw : ∀ w ∈ BIG, w.before _ s = true := fun w h => hts w (List.mem_cons_of_mem _ h)
  have hown : s.vm.findClass RM = some m.cls := findClass_of_methodNamed Bd.named
  have hlocks := Bd.notSynchronized
  have hD := hD0.self (sz := s.heap.size)
  obtain ⟨A, hAe⟩ : ∃ A, A = va_A [(m0, .inr (4, [.ref n0, .ref n1, .ref n2, .int (nI cd), .int (nI dt), .ref e0, .ref e1, .int (nI rt), .ref e2, .ref e3, .ref e4, .int (nI sz9), .int (nI at9), .int (nI fl), .int pl, .int (nI wr), .ref e5])), (n0, .inl (cI, 16, .inl (aN fFI))), (n1, .inl (cI, 16, .inl (aN fMM))), (n2, .inl (cI, 16, .inl (aN fFO)))] s.heap.size := ⟨_, rfl⟩
  have hA : ∀ q : Nat, s.heap.size ≤ q → A q := fun q h => by rw [hAe]; exact Or.inr h
  rw [← hAe] at hG hD
  have hS : va_S A s.heap s.heap [] := va_S.rf
  have hl := lv_entry ([.ref m0, .int (nI (fFI k)), .long v]) (n := 5) (Nat.le_of_ble_eq_true rfl)
  rw [lg_entry_eq]
  generalize (lg_sl ([.ref m0, .int (nI (fFI k)), .long v]) ++ List.replicate (5 - (lg_sl ([.ref m0, .int (nI (fFI k)), .long v])).length) Slot.unset).toArray = ls at hl ⊢
  have hl : lv_has ls 5 [(0, .ref m0), (1, .int (nI (fFI k))), (2, .long v)] := hl
  refine zq_name (fun Q hQ => ?_)
  change W p l e rm_c_Mdigits_no2 s m _ below meth c _ _ _ _ Q _
  obtain ⟨ho1, ho2, ho3, ho4, ho5⟩ := fFO_b k hk
  have hmm := fMM_b k hk
  have hcd := fCD_b k hk
  refine lv_aload_n hx hb dM_digits_0 rfl (lv_at hl 0 rfl) ?_
  refine lv_iload_n hx hb dM_digits_1 rfl (lv_at hl 1 rfl) ?_
  refine zc_Ri (va_runV (As := [.int (nI (fFI k))]) (rest := []) ⟨hx, hb, hml, hown, hw⟩ (c_fieldOf_ok l dC dI m0 n0 n1 n2 cd dt e0 e1 rt e2 e3 e4 sz9 at9 fl pl wr e5 cI cB k (by omega) s.heap) (cwV 1 hw (gV w_ml_M_66 w_im_M_fieldOf w_se_M_fieldOf w_in_M w_co_M_fieldOf) rfl rfl rfl (by decide +kernel) ⟨Nat.le_of_ble_eq_true rfl, Nat.le_of_ble_eq_true rfl⟩) (zR_V hG hS (hP.sub (ws' := [(m0, .inr (4, [.ref n0, .ref n1, .ref n2, .int (nI cd), .int (nI dt), .ref e0, .ref e1, .int (nI rt), .ref e2, .ref e3, .ref e4, .int (nI sz9), .int (nI at9), .int (nI fl), .int pl, .int (nI wr), .ref e5])), (n0, .inl (cI, 16, .inl (aN fFI)))]) [0, 1] rfl) hK 0 rfl rfl) rfl rfl hl.1 rfl (lv_room (Nat.le_of_ble_eq_true rfl)) dM_digits_2 ⟨Nat.le_of_ble_eq_true rfl, Nat.le_of_ble_eq_true rfl⟩) hS (fun r_1 locs h_2 hS => ?_)
  subst h_2
  refine lv_istore (lv' := [(4, .int (nI k)), (0, .ref m0), (1, .int (nI (fFI k))), (2, .long v)]) hx hb dM_digits_5 hl (by decide) rfl (fun ls hl => ?_)
  refine lv_aload_n hx hb dM_digits_7 rfl (lv_at hl 1 rfl) ?_
  refine lv_iload hx hb dM_digits_8 (lv_at hl 0 rfl) ?_
  refine zi_lt0 (tgt := 48) hx hb (by omega) dM_digits_10 (by decide) ?_
  refine lv_aload_n hx hb dM_digits_13 rfl (lv_at hl 1 rfl) ?_
  refine va_get (D := (dC, dI)) (ci := 4) (v := .ref n2) (C := RM) (T := TM) (N := 17) hx hb hw inM hown hK hP 0 rfl rfl 2 (by decide) (hw _ w_fl_M_16) (fun _ h9 => h9) rfl dM_digits_14 ?_
  refine lv_iload hx hb dM_digits_17 (lv_at hl 0 rfl) ?_
  refine za_ild hx hb hK hP 3 0 rfl rfl (by omega) (by decide) dM_digits_19 ?_
  refine lv_iconst (v := nI 2) hx hb dM_digits_20 (by decide) ?_
  refine zi_ge (tgt := 48) hx hb (by omega) (by omega) dM_digits_21 (by decide) (fun c_21 => ?_) (fun q => False.elim ((hh (ho2.mp q))))
  refine lv_iconst (v := nI 0) hx hb dM_digits_48 (by decide) ?_
  have hPc := hP.sub (ws' := [(m0, .inr (4, [.ref n0, .ref n1, .ref n2, .int (nI cd), .int (nI dt), .ref e0, .ref e1, .int (nI rt), .ref e2, .ref e3, .ref e4, .int (nI sz9), .int (nI at9), .int (nI fl), .int pl, .int (nI wr), .ref e5]))]) [0] rfl
  have hDc := hD.sub (ws' := [(m0, .inr (4, [.ref n0, .ref n1, .ref n2, .int (nI cd), .int (nI dt), .ref e0, .ref e1, .int (nI rt), .ref e2, .ref e3, .ref e4, .int (nI sz9), .int (nI at9), .int (nI fl), .int pl, .int (nI wr), .ref e5]))]) [0] (by decide) rfl
  have hFc := va_free (wc := [(m0, .inr (4, [.ref n0, .ref n1, .ref n2, .int (nI cd), .int (nI dt), .ref e0, .ref e1, .int (nI rt), .ref e2, .ref e3, .ref e4, .int (nI sz9), .int (nI at9), .int (nI fl), .int pl, .int (nI wr), .ref e5]))]) hD hS hA [0] rfl
  refine zc_Mi (va_runV (As := [.int (nI 0)]) (rest := []) ⟨hx, hb, hml, hown, hw⟩ (c_goes_0 l dC dI m0 n0 n1 n2 cd dt e0 e1 rt e2 e3 e4 sz9 at9 fl pl wr e5 cI cB s.heap.size) (cwV 1 hw (gV w_ml_M_50 w_im_M_goes w_se_M_goes w_in_M w_co_M_goes) rfl rfl rfl (by decide +kernel) ⟨Nat.le_of_ble_eq_true rfl, Nat.le_of_ble_eq_true rfl⟩) (zM_V hG hS hFc hPc hDc hK 0 rfl rfl) rfl rfl hl.1 rfl (lv_room (Nat.le_of_ble_eq_true rfl)) dM_digits_49 ⟨Nat.le_of_ble_eq_true rfl, Nat.le_of_ble_eq_true rfl⟩) hS hFc (fun r_2 H locs h_49 hP1 hD1 hk1 hS => ?_)
  obtain ⟨hP, hD⟩ := va_join (wr := [(n0, .inl (cI, 16, .inl (aN fFI))), (n1, .inl (cI, 16, .inl (aN fMM))), (n2, .inl (cI, 16, .inl (aN fFO)))]) (w1 := [(m0, .inr (4, [.ref n0, .ref n1, .ref n2, .int (nI 1), .int (nI dt), .ref e0, .ref e1, .int (nI rt), .ref e2, .ref e3, .ref e4, .int (nI sz9), .int (nI at9), .int (nI fl), .int pl, .int (nI wr), .ref e5]))]) hP hD [0] [1, 2, 3] rfl rfl (by decide) (by decide) hk1 hFc hP1 hD1
  have hP : va_P (dC, dI) vwCl [(n0, .inl (cI, 16, .inl (aN fFI))), (n1, .inl (cI, 16, .inl (aN fMM))), (n2, .inl (cI, 16, .inl (aN fFO))), (m0, .inr (4, [.ref n0, .ref n1, .ref n2, .int (nI 1), .int (nI dt), .ref e0, .ref e1, .int (nI rt), .ref e2, .ref e3, .ref e4, .int (nI sz9), .int (nI at9), .int (nI fl), .int pl, .int (nI wr), .ref e5]))] H := hP
  have hD : va_D A [(n0, .inl (cI, 16, .inl (aN fFI))), (n1, .inl (cI, 16, .inl (aN fMM))), (n2, .inl (cI, 16, .inl (aN fFO))), (m0, .inr (4, [.ref n0, .ref n1, .ref n2, .int (nI 1), .int (nI dt), .ref e0, .ref e1, .int (nI rt), .ref e2, .ref e3, .ref e4, .int (nI sz9), .int (nI at9), .int (nI fl), .int pl, .int (nI wr), .ref e5]))] := hD
  subst h_49
  refine lv_if_eq (tgt := 62) hx hb dM_digits_52 (by decide) (fun c_52 => ?_) (fun q => False.elim (absurd q (by decide)))
  subst hAe
  subst hQ
  exact W.vret hx hb hr (fun t ht hW => ⟨⟨(), rfl, trivial, by rw [ht]; exact hP.sub [3, 0, 1, 2] rfl, hD.sub [3, 0, 1, 2] (by decide) rfl⟩, hS.F ht⟩) hS.2.2 dM_digits_62
def rm_c_Mdigits_no3 : Room := ({ frames := 2, cells := 0, slots := 0, locals := 50 } : Room)
set_option maxHeartbeats 4000000 in
set_option maxRecDepth 100000 in
theorem c_Mdigits_no3 (l : Launch) (dC : Nat → ClassId) (dI : Nat → Nat → Nat) (m0 : Nat) (n0 : Nat) (n1 : Nat) (n2 : Nat) (cd : Nat) (dt : Nat) (e0 : Nat) (e1 : Nat) (rt : Nat) (e2 : Nat) (e3 : Nat) (e4 : Nat) (sz9 : Nat) (at9 : Nat) (fl : Nat) (pl : Int32) (wr : Nat) (e5 : Nat) (cI : ClassId) (cB : ClassId) (k : Nat) (v : Int64) (hk : k < 16) (hv : v < 0) (sz : Nat) : Met l yM_digits wsM_digits rm_c_Mdigits_no3 (zM (dC, dI) [(cI, .int), (cB, .byte)] [.ref m0, .int (nI (fFI k)), .long v] [(m0, .inr (4, [.ref n0, .ref n1, .ref n2, .int (nI cd), .int (nI dt), .ref e0, .ref e1, .int (nI rt), .ref e2, .ref e3, .ref e4, .int (nI sz9), .int (nI at9), .int (nI fl), .int pl, .int (nI wr), .ref e5])), (n0, .inl (cI, 16, .inl (aN fFI))), (n1, .inl (cI, 16, .inl (aN fMM))), (n2, .inl (cI, 16, .inl (aN fFO)))] sz) (zMv (dC, dI) [(m0, .inr (4, [.ref n0, .ref n1, .ref n2, .int (nI cd), .int (nI dt), .ref e0, .ref e1, .int (nI rt), .ref e2, .ref e3, .ref e4, .int (nI sz9), .int (nI at9), .int (nI fl), .int pl, .int (nI wr), .ref e5])), (n0, .inl (cI, 16, .inl (aN fFI))), (n1, .inl (cI, 16, .inl (aN fMM))), (n2, .inl (cI, 16, .inl (aN fFO)))] [(m0, .inr (4, [.ref n0, .ref n1, .ref n2, .int (nI 1), .int (nI dt), .ref e0, .ref e1, .int (nI rt), .ref e2, .ref e3, .ref e4, .int (nI sz9), .int (nI at9), .int (nI fl), .int pl, .int (nI wr), .ref e5])), (n0, .inl (cI, 16, .inl (aN fFI))), (n1, .inl (cI, 16, .inl (aN fMM))), (n2, .inl (cI, 16, .inl (aN fFO)))] sz (True)) 0 0 (va_A [(m0, .inr (4, [.ref n0, .ref n1, .ref n2, .int (nI cd), .int (nI dt), .ref e0, .ref e1, .int (nI rt), .ref e2, .ref e3, .ref e4, .int (nI sz9), .int (nI at9), .int (nI fl), .int pl, .int (nI wr), .ref e5])), (n0, .inl (cI, 16, .inl (aN fFI))), (n1, .inl (cI, 16, .inl (aN fMM))), (n2, .inl (cI, 16, .inl (aN fFO)))] sz) := by
  refine Met.ofW (cc := cM_digits) (maxL := 5) (ret := none) (by decide) rfl ?_
  intro p e s m args below meth c s₁ Bd hml hv
  obtain ⟨rfl, hsz, hG, hP, hK, hD0⟩ := hv
  subst hsz
  have hx := Bd.exec
  have hb := Bd.bytes
  have hr := Bd.returns
  have hts := atoms_spec (ws := wsM_digits) Bd.pre
  have hw : ∀ w ∈ BIG, w.before _ s = true := fun w h => hts w (List.mem_cons_of_mem _ h)
  have hown : s.vm.findClass RM = some m.cls := findClass_of_methodNamed Bd.named
  have hlocks := Bd.notSynchronized
  have hD := hD0.self (sz := s.heap.size)
  obtain ⟨A, hAe⟩ : ∃ A, A = va_A [(m0, .inr (4, [.ref n0, .ref n1, .ref n2, .int (nI cd), .int (nI dt), .ref e0, .ref e1, .int (nI rt), .ref e2, .ref e3, .ref e4, .int (nI sz9), .int (nI at9), .int (nI fl), .int pl, .int (nI wr), .ref e5])), (n0, .inl (cI, 16, .inl (aN fFI))), (n1, .inl (cI, 16, .inl (aN fMM))), (n2, .inl (cI, 16, .inl (aN fFO)))] s.heap.size := ⟨_, rfl⟩
  have hA : ∀ q : Nat, s.heap.size ≤ q → A q := fun q h => by rw [hAe]; exact Or.inr h
  rw [← hAe] at hG hD
  have hS : va_S A s.heap s.heap [] := va_S.rf
  have hl := lv_entry ([.ref m0, .int (nI (fFI k)), .long v]) (n := 5) (Nat.le_of_ble_eq_true rfl)
  rw [lg_entry_eq]
  generalize (lg_sl ([.ref m0, .int (nI (fFI k)), .long v]) ++ List.replicate (5 - (lg_sl ([.ref m0, .int (nI (fFI k)), .long v])).length) Slot.unset).toArray = ls at hl ⊢
  have hl : lv_has ls 5 [(0, .ref m0), (1, .int (nI (fFI k))), (2, .long v)] := hl
  refine zq_name (fun Q hQ => ?_)
  change W p l e rm_c_Mdigits_no3 s m _ below meth c _ _ _ _ Q _
  obtain ⟨ho1, ho2, ho3, ho4, ho5⟩ := fFO_b k hk
  have hmm := fMM_b k hk
  have hcd := fCD_b k hk
  refine lv_aload_n hx hb dM_digits_0 rfl (lv_at hl 0 rfl) ?_
  refine lv_iload_n hx hb dM_digits_1 rfl (lv_at hl 1 rfl) ?_
  refine zc_Ri (va_runV (As := [.int (nI (fFI k))]) (rest := []) ⟨hx, hb, hml, hown, hw⟩ (c_fieldOf_ok l dC dI m0 n0 n1 n2 cd dt e0 e1 rt e2 e3 e4 sz9 at9 fl pl wr e5 cI cB k (by omega) s.heap) (cwV 1 hw (gV w_ml_M_66 w_im_M_fieldOf w_se_M_fieldOf w_in_M w_co_M_fieldOf) rfl rfl rfl (by decide +kernel) ⟨Nat.le_of_ble_eq_true rfl, Nat.le_of_ble_eq_true rfl⟩) (zR_V hG hS (hP.sub (ws' := [(m0, .inr (4, [.ref n0, .ref n1, .ref n2, .int (nI cd), .int (nI dt), .ref e0, .ref e1, .int (nI rt), .ref e2, .ref e3, .ref e4, .int (nI sz9), .int (nI at9), .int (nI fl), .int pl, .int (nI wr), .ref e5])), (n0, .inl (cI, 16, .inl (aN fFI)))]) [0, 1] rfl) hK 0 rfl rfl) rfl rfl hl.1 rfl (lv_room (Nat.le_of_ble_eq_true rfl)) dM_digits_2 ⟨Nat.le_of_ble_eq_true rfl, Nat.le_of_ble_eq_true rfl⟩) hS (fun r_1 locs h_2 hS => ?_)
  subst h_2
  refine lv_istore (lv' := [(4, .int (nI k)), (0, .ref m0), (1, .int (nI (fFI k))), (2, .long v)]) hx hb dM_digits_5 hl (by decide) rfl (fun ls hl => ?_)
  refine lv_aload_n hx hb dM_digits_7 rfl (lv_at hl 1 rfl) ?_
  refine lv_iload hx hb dM_digits_8 (lv_at hl 0 rfl) ?_
  refine zi_lt0 (tgt := 48) hx hb (by omega) dM_digits_10 (by decide) ?_
  refine lv_aload_n hx hb dM_digits_13 rfl (lv_at hl 1 rfl) ?_
  refine va_get (D := (dC, dI)) (ci := 4) (v := .ref n2) (C := RM) (T := TM) (N := 17) hx hb hw inM hown hK hP 0 rfl rfl 2 (by decide) (hw _ w_fl_M_16) (fun _ h9 => h9) rfl dM_digits_14 ?_
  refine lv_iload hx hb dM_digits_17 (lv_at hl 0 rfl) ?_
  refine za_ild hx hb hK hP 3 0 rfl rfl (by omega) (by decide) dM_digits_19 ?_
  refine lv_iconst (v := nI 2) hx hb dM_digits_20 (by decide) ?_
  refine zi_ge (tgt := 48) hx hb (by omega) (by omega) dM_digits_21 (by decide) (fun c_21 => ?_) (fun c_21 => ?_)
  · refine lv_iconst (v := nI 0) hx hb dM_digits_48 (by decide) ?_
    have hPc := hP.sub (ws' := [(m0, .inr (4, [.ref n0, .ref n1, .ref n2, .int (nI cd), .int (nI dt), .ref e0, .ref e1, .int (nI rt), .ref e2, .ref e3, .ref e4, .int (nI sz9), .int (nI at9), .int (nI fl), .int pl, .int (nI wr), .ref e5]))]) [0] rfl
    have hDc := hD.sub (ws' := [(m0, .inr (4, [.ref n0, .ref n1, .ref n2, .int (nI cd), .int (nI dt), .ref e0, .ref e1, .int (nI rt), .ref e2, .ref e3, .ref e4, .int (nI sz9), .int (nI at9), .int (nI fl), .int pl, .int (nI wr), .ref e5]))]) [0] (by decide) rfl
    have hFc := va_free (wc := [(m0, .inr (4, [.ref n0, .ref n1, .ref n2, .int (nI cd), .int (nI dt), .ref e0, .ref e1, .int (nI rt), .ref e2, .ref e3, .ref e4, .int (nI sz9), .int (nI at9), .int (nI fl), .int pl, .int (nI wr), .ref e5]))]) hD hS hA [0] rfl
    refine zc_Mi (va_runV (As := [.int (nI 0)]) (rest := []) ⟨hx, hb, hml, hown, hw⟩ (c_goes_0 l dC dI m0 n0 n1 n2 cd dt e0 e1 rt e2 e3 e4 sz9 at9 fl pl wr e5 cI cB s.heap.size) (cwV 1 hw (gV w_ml_M_50 w_im_M_goes w_se_M_goes w_in_M w_co_M_goes) rfl rfl rfl (by decide +kernel) ⟨Nat.le_of_ble_eq_true rfl, Nat.le_of_ble_eq_true rfl⟩) (zM_V hG hS hFc hPc hDc hK 0 rfl rfl) rfl rfl hl.1 rfl (lv_room (Nat.le_of_ble_eq_true rfl)) dM_digits_49 ⟨Nat.le_of_ble_eq_true rfl, Nat.le_of_ble_eq_true rfl⟩) hS hFc (fun r_2 H locs h_49 hP1 hD1 hk1 hS => ?_)
    obtain ⟨hP, hD⟩ := va_join (wr := [(n0, .inl (cI, 16, .inl (aN fFI))), (n1, .inl (cI, 16, .inl (aN fMM))), (n2, .inl (cI, 16, .inl (aN fFO)))]) (w1 := [(m0, .inr (4, [.ref n0, .ref n1, .ref n2, .int (nI 1), .int (nI dt), .ref e0, .ref e1, .int (nI rt), .ref e2, .ref e3, .ref e4, .int (nI sz9), .int (nI at9), .int (nI fl), .int pl, .int (nI wr), .ref e5]))]) hP hD [0] [1, 2, 3] rfl rfl (by decide) (by decide) hk1 hFc hP1 hD1
    have hP : va_P (dC, dI) vwCl [(n0, .inl (cI, 16, .inl (aN fFI))), (n1, .inl (cI, 16, .inl (aN fMM))), (n2, .inl (cI, 16, .inl (aN fFO))), (m0, .inr (4, [.ref n0, .ref n1, .ref n2, .int (nI 1), .int (nI dt), .ref e0, .ref e1, .int (nI rt), .ref e2, .ref e3, .ref e4, .int (nI sz9), .int (nI at9), .int (nI fl), .int pl, .int (nI wr), .ref e5]))] H := hP
    have hD : va_D A [(n0, .inl (cI, 16, .inl (aN fFI))), (n1, .inl (cI, 16, .inl (aN fMM))), (n2, .inl (cI, 16, .inl (aN fFO))), (m0, .inr (4, [.ref n0, .ref n1, .ref n2, .int (nI 1), .int (nI dt), .ref e0, .ref e1, .int (nI rt), .ref e2, .ref e3, .ref e4, .int (nI sz9), .int (nI at9), .int (nI fl), .int pl, .int (nI wr), .ref e5]))] := hD
    subst h_49
    refine lv_if_eq (tgt := 62) hx hb dM_digits_52 (by decide) (fun c_52 => ?_) (fun q => False.elim (absurd q (by decide)))
    subst hAe
    subst hQ
    exact W.vret hx hb hr (fun t ht hW => ⟨⟨(), rfl, trivial, by rw [ht]; exact hP.sub [3, 0, 1, 2] rfl, hD.sub [3, 0, 1, 2] (by decide) rfl⟩, hS.F ht⟩) hS.2.2 dM_digits_62
  · refine lv_lload_n hx hb dM_digits_24 rfl (lv_at hl 3 rfl) ?_
    refine lv_lconst (v := lN 0) hx hb dM_digits_25 (by decide) ?_
    refine W.lcmp hx hb dM_digits_26 ?_
    refine lv_if_lt (tgt := 48) hx hb dM_digits_27 (by decide) (fun c_27 => ?_) (fun q => False.elim ((q ((lg_cmp_lt _ _).mpr hv))))
    refine lv_iconst (v := nI 0) hx hb dM_digits_48 (by decide) ?_
    have hPc := hP.sub (ws' := [(m0, .inr (4, [.ref n0, .ref n1, .ref n2, .int (nI cd), .int (nI dt), .ref e0, .ref e1, .int (nI rt), .ref e2, .ref e3, .ref e4, .int (nI sz9), .int (nI at9), .int (nI fl), .int pl, .int (nI wr), .ref e5]))]) [0] rfl
    have hDc := hD.sub (ws' := [(m0, .inr (4, [.ref n0, .ref n1, .ref n2, .int (nI cd), .int (nI dt), .ref e0, .ref e1, .int (nI rt), .ref e2, .ref e3, .ref e4, .int (nI sz9), .int (nI at9), .int (nI fl), .int pl, .int (nI wr), .ref e5]))]) [0] (by decide) rfl
    have hFc := va_free (wc := [(m0, .inr (4, [.ref n0, .ref n1, .ref n2, .int (nI cd), .int (nI dt), .ref e0, .ref e1, .int (nI rt), .ref e2, .ref e3, .ref e4, .int (nI sz9), .int (nI at9), .int (nI fl), .int pl, .int (nI wr), .ref e5]))]) hD hS hA [0] rfl
    refine zc_Mi (va_runV (As := [.int (nI 0)]) (rest := []) ⟨hx, hb, hml, hown, hw⟩ (c_goes_0 l dC dI m0 n0 n1 n2 cd dt e0 e1 rt e2 e3 e4 sz9 at9 fl pl wr e5 cI cB s.heap.size) (cwV 1 hw (gV w_ml_M_50 w_im_M_goes w_se_M_goes w_in_M w_co_M_goes) rfl rfl rfl (by decide +kernel) ⟨Nat.le_of_ble_eq_true rfl, Nat.le_of_ble_eq_true rfl⟩) (zM_V hG hS hFc hPc hDc hK 0 rfl rfl) rfl rfl hl.1 rfl (lv_room (Nat.le_of_ble_eq_true rfl)) dM_digits_49 ⟨Nat.le_of_ble_eq_true rfl, Nat.le_of_ble_eq_true rfl⟩) hS hFc (fun r_3 H locs h_49 hP1 hD1 hk1 hS => ?_)
    obtain ⟨hP, hD⟩ := va_join (wr := [(n0, .inl (cI, 16, .inl (aN fFI))), (n1, .inl (cI, 16, .inl (aN fMM))), (n2, .inl (cI, 16, .inl (aN fFO)))]) (w1 := [(m0, .inr (4, [.ref n0, .ref n1, .ref n2, .int (nI 1), .int (nI dt), .ref e0, .ref e1, .int (nI rt), .ref e2, .ref e3, .ref e4, .int (nI sz9), .int (nI at9), .int (nI fl), .int pl, .int (nI wr), .ref e5]))]) hP hD [0] [1, 2, 3] rfl rfl (by decide) (by decide) hk1 hFc hP1 hD1
    have hP : va_P (dC, dI) vwCl [(n0, .inl (cI, 16, .inl (aN fFI))), (n1, .inl (cI, 16, .inl (aN fMM))), (n2, .inl (cI, 16, .inl (aN fFO))), (m0, .inr (4, [.ref n0, .ref n1, .ref n2, .int (nI 1), .int (nI dt), .ref e0, .ref e1, .int (nI rt), .ref e2, .ref e3, .ref e4, .int (nI sz9), .int (nI at9), .int (nI fl), .int pl, .int (nI wr), .ref e5]))] H := hP
    have hD : va_D A [(n0, .inl (cI, 16, .inl (aN fFI))), (n1, .inl (cI, 16, .inl (aN fMM))), (n2, .inl (cI, 16, .inl (aN fFO))), (m0, .inr (4, [.ref n0, .ref n1, .ref n2, .int (nI 1), .int (nI dt), .ref e0, .ref e1, .int (nI rt), .ref e2, .ref e3, .ref e4, .int (nI sz9), .int (nI at9), .int (nI fl), .int pl, .int (nI wr), .ref e5]))] := hD
    subst h_49
    refine lv_if_eq (tgt := 62) hx hb dM_digits_52 (by decide) (fun c_52 => ?_) (fun q => False.elim (absurd q (by decide)))
    subst hAe
    subst hQ
    exact W.vret hx hb hr (fun t ht hW => ⟨⟨(), rfl, trivial, by rw [ht]; exact hP.sub [3, 0, 1, 2] rfl, hD.sub [3, 0, 1, 2] (by decide) rfl⟩, hS.F ht⟩) hS.2.2 dM_digits_62
def rm_c_Mdigits_no4 : Room := ({ frames := 2, cells := 0, slots := 0, locals := 50 } : Room)
set_option maxHeartbeats 4000000 in
set_option maxRecDepth 100000 in
theorem c_Mdigits_no4 (l : Launch) (dC : Nat → ClassId) (dI : Nat → Nat → Nat) (m0 : Nat) (n0 : Nat) (n1 : Nat) (n2 : Nat) (cd : Nat) (dt : Nat) (e0 : Nat) (e1 : Nat) (rt : Nat) (e2 : Nat) (e3 : Nat) (e4 : Nat) (sz9 : Nat) (at9 : Nat) (fl : Nat) (pl : Int32) (wr : Nat) (e5 : Nat) (cI : ClassId) (cB : ClassId) (k : Nat) (n : Nat) (hk : k < 16) (hn : n < 2 ^ 63) (hd : fMM k < dcn n) (sz : Nat) : Met l yM_digits wsM_digits rm_c_Mdigits_no4 (zM (dC, dI) [(cI, .int), (cB, .byte)] [.ref m0, .int (nI (fFI k)), .long (lN n)] [(m0, .inr (4, [.ref n0, .ref n1, .ref n2, .int (nI cd), .int (nI dt), .ref e0, .ref e1, .int (nI rt), .ref e2, .ref e3, .ref e4, .int (nI sz9), .int (nI at9), .int (nI fl), .int pl, .int (nI wr), .ref e5])), (n0, .inl (cI, 16, .inl (aN fFI))), (n1, .inl (cI, 16, .inl (aN fMM))), (n2, .inl (cI, 16, .inl (aN fFO)))] sz) (zMv (dC, dI) [(m0, .inr (4, [.ref n0, .ref n1, .ref n2, .int (nI cd), .int (nI dt), .ref e0, .ref e1, .int (nI rt), .ref e2, .ref e3, .ref e4, .int (nI sz9), .int (nI at9), .int (nI fl), .int pl, .int (nI wr), .ref e5])), (n0, .inl (cI, 16, .inl (aN fFI))), (n1, .inl (cI, 16, .inl (aN fMM))), (n2, .inl (cI, 16, .inl (aN fFO)))] [(m0, .inr (4, [.ref n0, .ref n1, .ref n2, .int (nI 1), .int (nI dt), .ref e0, .ref e1, .int (nI rt), .ref e2, .ref e3, .ref e4, .int (nI sz9), .int (nI at9), .int (nI fl), .int pl, .int (nI wr), .ref e5])), (n0, .inl (cI, 16, .inl (aN fFI))), (n1, .inl (cI, 16, .inl (aN fMM))), (n2, .inl (cI, 16, .inl (aN fFO)))] sz (True)) 0 0 (va_A [(m0, .inr (4, [.ref n0, .ref n1, .ref n2, .int (nI cd), .int (nI dt), .ref e0, .ref e1, .int (nI rt), .ref e2, .ref e3, .ref e4, .int (nI sz9), .int (nI at9), .int (nI fl), .int pl, .int (nI wr), .ref e5])), (n0, .inl (cI, 16, .inl (aN fFI))), (n1, .inl (cI, 16, .inl (aN fMM))), (n2, .inl (cI, 16, .inl (aN fFO)))] sz) := by
  refine Met.ofW (cc := cM_digits) (maxL := 5) (ret := none) (by decide) rfl ?_
  intro p e s m args below meth c s₁ Bd hml hv
  obtain ⟨rfl, hsz, hG, hP, hK, hD0⟩ := hv
  subst hsz
  have hx := Bd.exec
  have hb := Bd.bytes
  have hr := Bd.returns
  have hts := atoms_spec (ws := wsM_digits) Bd.pre
  have hw : ∀ w ∈ BIG, w.before _ s = true := fun w h => hts w (List.mem_cons_of_mem _ h)
  have hown : s.vm.findClass RM = some m.cls := findClass_of_methodNamed Bd.named
  have hlocks := Bd.notSynchronized
  have hD := hD0.self (sz := s.heap.size)
  obtain ⟨A, hAe⟩ : ∃ A, A = va_A [(m0, .inr (4, [.ref n0, .ref n1, .ref n2, .int (nI cd), .int (nI dt), .ref e0, .ref e1, .int (nI rt), .ref e2, .ref e3, .ref e4, .int (nI sz9), .int (nI at9), .int (nI fl), .int pl, .int (nI wr), .ref e5])), (n0, .inl (cI, 16, .inl (aN fFI))), (n1, .inl (cI, 16, .inl (aN fMM))), (n2, .inl (cI, 16, .inl (aN fFO)))] s.heap.size := ⟨_, rfl⟩
  have hA : ∀ q : Nat, s.heap.size ≤ q → A q := fun q h => by rw [hAe]; exact Or.inr h
  rw [← hAe] at hG hD
  have hS : va_S A s.heap s.heap [] := va_S.rf
  have hl := lv_entry ([.ref m0, .int (nI (fFI k)), .long (lN n)]) (n := 5) (Nat.le_of_ble_eq_true rfl)
  rw [lg_entry_eq]
  generalize (lg_sl ([.ref m0, .int (nI (fFI k)), .long (lN n)]) ++ List.replicate (5 - (lg_sl ([.ref m0, .int (nI (fFI k)), .long (lN n)])).length) Slot.unset).toArray = ls at hl ⊢
  have hl : lv_has ls 5 [(0, .ref m0), (1, .int (nI (fFI k))), (2, .long (lN n))] := hl
  refine zq_name (fun Q hQ => ?_)
  change W p l e rm_c_Mdigits_no4 s m _ below meth c _ _ _ _ Q _
  obtain ⟨ho1, ho2, ho3, ho4, ho5⟩ := fFO_b k hk
  have hmm := fMM_b k hk
  have hcd := fCD_b k hk
  have hdn := dcn_le n
  refine lv_aload_n hx hb dM_digits_0 rfl (lv_at hl 0 rfl) ?_
  refine lv_iload_n hx hb dM_digits_1 rfl (lv_at hl 1 rfl) ?_
  refine zc_Ri (va_runV (As := [.int (nI (fFI k))]) (rest := []) ⟨hx, hb, hml, hown, hw⟩ (c_fieldOf_ok l dC dI m0 n0 n1 n2 cd dt e0 e1 rt e2 e3 e4 sz9 at9 fl pl wr e5 cI cB k (by omega) s.heap) (cwV 1 hw (gV w_ml_M_66 w_im_M_fieldOf w_se_M_fieldOf w_in_M w_co_M_fieldOf) rfl rfl rfl (by decide +kernel) ⟨Nat.le_of_ble_eq_true rfl, Nat.le_of_ble_eq_true rfl⟩) (zR_V hG hS (hP.sub (ws' := [(m0, .inr (4, [.ref n0, .ref n1, .ref n2, .int (nI cd), .int (nI dt), .ref e0, .ref e1, .int (nI rt), .ref e2, .ref e3, .ref e4, .int (nI sz9), .int (nI at9), .int (nI fl), .int pl, .int (nI wr), .ref e5])), (n0, .inl (cI, 16, .inl (aN fFI)))]) [0, 1] rfl) hK 0 rfl rfl) rfl rfl hl.1 rfl (lv_room (Nat.le_of_ble_eq_true rfl)) dM_digits_2 ⟨Nat.le_of_ble_eq_true rfl, Nat.le_of_ble_eq_true rfl⟩) hS (fun r_1 locs h_2 hS => ?_)
  subst h_2
  refine lv_istore (lv' := [(4, .int (nI k)), (0, .ref m0), (1, .int (nI (fFI k))), (2, .long (lN n))]) hx hb dM_digits_5 hl (by decide) rfl (fun ls hl => ?_)
  refine lv_aload_n hx hb dM_digits_7 rfl (lv_at hl 1 rfl) ?_
  refine lv_iload hx hb dM_digits_8 (lv_at hl 0 rfl) ?_
  refine zi_lt0 (tgt := 48) hx hb (by omega) dM_digits_10 (by decide) ?_
  refine lv_aload_n hx hb dM_digits_13 rfl (lv_at hl 1 rfl) ?_
  refine va_get (D := (dC, dI)) (ci := 4) (v := .ref n2) (C := RM) (T := TM) (N := 17) hx hb hw inM hown hK hP 0 rfl rfl 2 (by decide) (hw _ w_fl_M_16) (fun _ h9 => h9) rfl dM_digits_14 ?_
  refine lv_iload hx hb dM_digits_17 (lv_at hl 0 rfl) ?_
  refine za_ild hx hb hK hP 3 0 rfl rfl (by omega) (by decide) dM_digits_19 ?_
  refine lv_iconst (v := nI 2) hx hb dM_digits_20 (by decide) ?_
  refine zi_ge (tgt := 48) hx hb (by omega) (by omega) dM_digits_21 (by decide) (fun c_21 => ?_) (fun c_21 => ?_)
  · refine lv_iconst (v := nI 0) hx hb dM_digits_48 (by decide) ?_
    have hPc := hP.sub (ws' := [(m0, .inr (4, [.ref n0, .ref n1, .ref n2, .int (nI cd), .int (nI dt), .ref e0, .ref e1, .int (nI rt), .ref e2, .ref e3, .ref e4, .int (nI sz9), .int (nI at9), .int (nI fl), .int pl, .int (nI wr), .ref e5]))]) [0] rfl
    have hDc := hD.sub (ws' := [(m0, .inr (4, [.ref n0, .ref n1, .ref n2, .int (nI cd), .int (nI dt), .ref e0, .ref e1, .int (nI rt), .ref e2, .ref e3, .ref e4, .int (nI sz9), .int (nI at9), .int (nI fl), .int pl, .int (nI wr), .ref e5]))]) [0] (by decide) rfl
    have hFc := va_free (wc := [(m0, .inr (4, [.ref n0, .ref n1, .ref n2, .int (nI cd), .int (nI dt), .ref e0, .ref e1, .int (nI rt), .ref e2, .ref e3, .ref e4, .int (nI sz9), .int (nI at9), .int (nI fl), .int pl, .int (nI wr), .ref e5]))]) hD hS hA [0] rfl
    refine zc_Mi (va_runV (As := [.int (nI 0)]) (rest := []) ⟨hx, hb, hml, hown, hw⟩ (c_goes_0 l dC dI m0 n0 n1 n2 cd dt e0 e1 rt e2 e3 e4 sz9 at9 fl pl wr e5 cI cB s.heap.size) (cwV 1 hw (gV w_ml_M_50 w_im_M_goes w_se_M_goes w_in_M w_co_M_goes) rfl rfl rfl (by decide +kernel) ⟨Nat.le_of_ble_eq_true rfl, Nat.le_of_ble_eq_true rfl⟩) (zM_V hG hS hFc hPc hDc hK 0 rfl rfl) rfl rfl hl.1 rfl (lv_room (Nat.le_of_ble_eq_true rfl)) dM_digits_49 ⟨Nat.le_of_ble_eq_true rfl, Nat.le_of_ble_eq_true rfl⟩) hS hFc (fun r_2 H locs h_49 hP1 hD1 hk1 hS => ?_)
    obtain ⟨hP, hD⟩ := va_join (wr := [(n0, .inl (cI, 16, .inl (aN fFI))), (n1, .inl (cI, 16, .inl (aN fMM))), (n2, .inl (cI, 16, .inl (aN fFO)))]) (w1 := [(m0, .inr (4, [.ref n0, .ref n1, .ref n2, .int (nI 1), .int (nI dt), .ref e0, .ref e1, .int (nI rt), .ref e2, .ref e3, .ref e4, .int (nI sz9), .int (nI at9), .int (nI fl), .int pl, .int (nI wr), .ref e5]))]) hP hD [0] [1, 2, 3] rfl rfl (by decide) (by decide) hk1 hFc hP1 hD1
    have hP : va_P (dC, dI) vwCl [(n0, .inl (cI, 16, .inl (aN fFI))), (n1, .inl (cI, 16, .inl (aN fMM))), (n2, .inl (cI, 16, .inl (aN fFO))), (m0, .inr (4, [.ref n0, .ref n1, .ref n2, .int (nI 1), .int (nI dt), .ref e0, .ref e1, .int (nI rt), .ref e2, .ref e3, .ref e4, .int (nI sz9), .int (nI at9), .int (nI fl), .int pl, .int (nI wr), .ref e5]))] H := hP
    have hD : va_D A [(n0, .inl (cI, 16, .inl (aN fFI))), (n1, .inl (cI, 16, .inl (aN fMM))), (n2, .inl (cI, 16, .inl (aN fFO))), (m0, .inr (4, [.ref n0, .ref n1, .ref n2, .int (nI 1), .int (nI dt), .ref e0, .ref e1, .int (nI rt), .ref e2, .ref e3, .ref e4, .int (nI sz9), .int (nI at9), .int (nI fl), .int pl, .int (nI wr), .ref e5]))] := hD
    subst h_49
    refine lv_if_eq (tgt := 62) hx hb dM_digits_52 (by decide) (fun c_52 => ?_) (fun q => False.elim (absurd q (by decide)))
    subst hAe
    subst hQ
    exact W.vret hx hb hr (fun t ht hW => ⟨⟨(), rfl, trivial, by rw [ht]; exact hP.sub [3, 0, 1, 2] rfl, hD.sub [3, 0, 1, 2] (by decide) rfl⟩, hS.F ht⟩) hS.2.2 dM_digits_62
  · refine lv_lload_n hx hb dM_digits_24 rfl (lv_at hl 3 rfl) ?_
    refine lv_lconst (v := lN 0) hx hb dM_digits_25 (by decide) ?_
    refine W.lcmp hx hb dM_digits_26 ?_
    refine zl_lt0 (tgt := 48) hx hb (by omega) (by omega) dM_digits_27 (by decide) (fun q => False.elim ((by omega))) (fun c_27 => ?_)
    refine lv_lload_n hx hb dM_digits_30 rfl (lv_at hl 3 rfl) ?_
    refine zc_Ri (va_runS (As := [.long (lN n)]) (rest := [.ref m0]) ⟨hx, hb, hml, hown, hw⟩ (c_M_width l dC dI cI cB n (by omega) s.heap) (va_cwS 1 hw (gSt w_ml_M_58 w_st_M_width w_in_M w_co_M_width) rfl rfl rfl (by decide +kernel) ⟨Nat.le_of_ble_eq_true rfl, Nat.le_of_ble_eq_true rfl⟩) (zR_S hG hS (hP.sub (ws' := []) [] rfl) hK) rfl rfl hl.1 rfl (lv_room (Nat.le_of_ble_eq_true rfl)) dM_digits_31 ⟨Nat.le_of_ble_eq_true rfl, Nat.le_of_ble_eq_true rfl⟩) hS (fun r_3 locs h_31 hS => ?_)
    subst h_31
    refine lv_aload_n hx hb dM_digits_34 rfl (lv_at hl 1 rfl) ?_
    refine va_get (D := (dC, dI)) (ci := 4) (v := .ref n1) (C := RM) (T := TM) (N := 17) hx hb hw inM hown hK hP 0 rfl rfl 1 (by decide) (hw _ w_fl_M_13) (fun _ h9 => h9) rfl dM_digits_35 ?_
    refine lv_iload hx hb dM_digits_38 (lv_at hl 0 rfl) ?_
    refine za_ild hx hb hK hP 2 0 rfl rfl (by omega) (by decide) dM_digits_40 ?_
    refine zi_gt (tgt := 48) hx hb (by omega) (by omega) dM_digits_41 (by decide) (fun c_41 => ?_) (fun q => False.elim ((by omega)))
    refine lv_iconst (v := nI 0) hx hb dM_digits_48 (by decide) ?_
    have hPc := hP.sub (ws' := [(m0, .inr (4, [.ref n0, .ref n1, .ref n2, .int (nI cd), .int (nI dt), .ref e0, .ref e1, .int (nI rt), .ref e2, .ref e3, .ref e4, .int (nI sz9), .int (nI at9), .int (nI fl), .int pl, .int (nI wr), .ref e5]))]) [0] rfl
    have hDc := hD.sub (ws' := [(m0, .inr (4, [.ref n0, .ref n1, .ref n2, .int (nI cd), .int (nI dt), .ref e0, .ref e1, .int (nI rt), .ref e2, .ref e3, .ref e4, .int (nI sz9), .int (nI at9), .int (nI fl), .int pl, .int (nI wr), .ref e5]))]) [0] (by decide) rfl
    have hFc := va_free (wc := [(m0, .inr (4, [.ref n0, .ref n1, .ref n2, .int (nI cd), .int (nI dt), .ref e0, .ref e1, .int (nI rt), .ref e2, .ref e3, .ref e4, .int (nI sz9), .int (nI at9), .int (nI fl), .int pl, .int (nI wr), .ref e5]))]) hD hS hA [0] rfl
    refine zc_Mi (va_runV (As := [.int (nI 0)]) (rest := []) ⟨hx, hb, hml, hown, hw⟩ (c_goes_0 l dC dI m0 n0 n1 n2 cd dt e0 e1 rt e2 e3 e4 sz9 at9 fl pl wr e5 cI cB s.heap.size) (cwV 1 hw (gV w_ml_M_50 w_im_M_goes w_se_M_goes w_in_M w_co_M_goes) rfl rfl rfl (by decide +kernel) ⟨Nat.le_of_ble_eq_true rfl, Nat.le_of_ble_eq_true rfl⟩) (zM_V hG hS hFc hPc hDc hK 0 rfl rfl) rfl rfl hl.1 rfl (lv_room (Nat.le_of_ble_eq_true rfl)) dM_digits_49 ⟨Nat.le_of_ble_eq_true rfl, Nat.le_of_ble_eq_true rfl⟩) hS hFc (fun r_4 H locs h_49 hP1 hD1 hk1 hS => ?_)
    obtain ⟨hP, hD⟩ := va_join (wr := [(n0, .inl (cI, 16, .inl (aN fFI))), (n1, .inl (cI, 16, .inl (aN fMM))), (n2, .inl (cI, 16, .inl (aN fFO)))]) (w1 := [(m0, .inr (4, [.ref n0, .ref n1, .ref n2, .int (nI 1), .int (nI dt), .ref e0, .ref e1, .int (nI rt), .ref e2, .ref e3, .ref e4, .int (nI sz9), .int (nI at9), .int (nI fl), .int pl, .int (nI wr), .ref e5]))]) hP hD [0] [1, 2, 3] rfl rfl (by decide) (by decide) hk1 hFc hP1 hD1
    have hP : va_P (dC, dI) vwCl [(n0, .inl (cI, 16, .inl (aN fFI))), (n1, .inl (cI, 16, .inl (aN fMM))), (n2, .inl (cI, 16, .inl (aN fFO))), (m0, .inr (4, [.ref n0, .ref n1, .ref n2, .int (nI 1), .int (nI dt), .ref e0, .ref e1, .int (nI rt), .ref e2, .ref e3, .ref e4, .int (nI sz9), .int (nI at9), .int (nI fl), .int pl, .int (nI wr), .ref e5]))] H := hP
    have hD : va_D A [(n0, .inl (cI, 16, .inl (aN fFI))), (n1, .inl (cI, 16, .inl (aN fMM))), (n2, .inl (cI, 16, .inl (aN fFO))), (m0, .inr (4, [.ref n0, .ref n1, .ref n2, .int (nI 1), .int (nI dt), .ref e0, .ref e1, .int (nI rt), .ref e2, .ref e3, .ref e4, .int (nI sz9), .int (nI at9), .int (nI fl), .int pl, .int (nI wr), .ref e5]))] := hD
    subst h_49
    refine lv_if_eq (tgt := 62) hx hb dM_digits_52 (by decide) (fun c_52 => ?_) (fun q => False.elim (absurd q (by decide)))
    subst hAe
    subst hQ
    exact W.vret hx hb hr (fun t ht hW => ⟨⟨(), rfl, trivial, by rw [ht]; exact hP.sub [3, 0, 1, 2] rfl, hD.sub [3, 0, 1, 2] (by decide) rfl⟩, hS.F ht⟩) hS.2.2 dM_digits_62
def rm_c_Mletters_ok : Room := ({ frames := 1, cells := 0, slots := 0, locals := 23 } : Room)
set_option maxHeartbeats 4000000 in
set_option maxRecDepth 100000 in
theorem c_Mletters_ok (l : Launch) (dC : Nat → ClassId) (dI : Nat → Nat → Nat) (m0 : Nat) (n0 : Nat) (n1 : Nat) (n2 : Nat) (cd : Nat) (dt : Nat) (e0 : Nat) (e1 : Nat) (rt : Nat) (e2 : Nat) (e3 : Nat) (e4 : Nat) (sz9 : Nat) (at9 : Nat) (fl : Nat) (pl : Int32) (wr : Nat) (e5 : Nat) (cI : ClassId) (cB : ClassId) (dr : Nat → Nat) (g : Nat → Nat) (k : Nat) (v : Int64) (n : Nat) (hk : k < 16) (hh : fHL k ≠ 0) (hn0 : fCD k = 0 → n = 0) (hn1 : fCD k ≠ 0 → 1 ≤ n ∧ n ≤ fMM k) (hn2 : n < 2 ^ 31) (sz : Nat) : Met l yM_letters wsM_letters rm_c_Mletters_ok (zM (dC, dI) [(cI, .int), (cB, .byte)] [.ref m0, .int (nI (fFI k)), .long v, .int (nI n)] [(m0, .inr (4, [.ref n0, .ref n1, .ref n2, .int (nI cd), .int (nI dt), .ref e0, .ref e1, .int (nI rt), .ref e2, .ref e3, .ref e4, .int (nI sz9), .int (nI at9), .int (nI fl), .int pl, .int (nI wr), .ref e5])), (n0, .inl (cI, 16, .inl (aN fFI))), (n1, .inl (cI, 16, .inl (aN fMM))), (n2, .inl (cI, 16, .inl (aN fFO))), (e0, .inl (cI, 672, .inl (aN dr))), (e1, .inl (cI, 16, .inl (aP g)))] sz) (zMv (dC, dI) [(m0, .inr (4, [.ref n0, .ref n1, .ref n2, .int (nI cd), .int (nI dt), .ref e0, .ref e1, .int (nI rt), .ref e2, .ref e3, .ref e4, .int (nI sz9), .int (nI at9), .int (nI fl), .int pl, .int (nI wr), .ref e5])), (n0, .inl (cI, 16, .inl (aN fFI))), (n1, .inl (cI, 16, .inl (aN fMM))), (n2, .inl (cI, 16, .inl (aN fFO))), (e0, .inl (cI, 672, .inl (aN dr))), (e1, .inl (cI, 16, .inl (aP g)))] [(m0, .inr (4, [.ref n0, .ref n1, .ref n2, .int (nI 0), .int (nI dt), .ref e0, .ref e1, .int (nI rt), .ref e2, .ref e3, .ref e4, .int (nI sz9), .int (nI at9), .int (nI fl), .int pl, .int (nI wr), .ref e5])), (n0, .inl (cI, 16, .inl (aN fFI))), (n1, .inl (cI, 16, .inl (aN fMM))), (n2, .inl (cI, 16, .inl (aN fFO))), (e0, .inl (cI, 672, .inl (aN (lsetM v (42 * k) (lct k n) 0 dr)))), (e1, .inl (cI, 16, .inl (aP (nup g k (lct k n + 1)))))] sz (True)) 0 0 (va_A [(m0, .inr (4, [.ref n0, .ref n1, .ref n2, .int (nI cd), .int (nI dt), .ref e0, .ref e1, .int (nI rt), .ref e2, .ref e3, .ref e4, .int (nI sz9), .int (nI at9), .int (nI fl), .int pl, .int (nI wr), .ref e5])), (n0, .inl (cI, 16, .inl (aN fFI))), (n1, .inl (cI, 16, .inl (aN fMM))), (n2, .inl (cI, 16, .inl (aN fFO))), (e0, .inl (cI, 672, .inl (aN dr))), (e1, .inl (cI, 16, .inl (aP g)))] sz) := by
  refine Met.ofW (cc := cM_letters) (maxL := 8) (ret := none) (by decide) rfl ?_
  intro p e s m args below meth c s₁ Bd hml hv
  obtain ⟨rfl, hsz, hG, hP, hK, hD0⟩ := hv
  subst hsz
  have hx := Bd.exec
  have hb := Bd.bytes
  have hr := Bd.returns
  have hts := atoms_spec (ws := wsM_letters) Bd.pre
  have hw : ∀ w ∈ BIG, w.before _ s = true := fun w h => hts w (List.mem_cons_of_mem _ h)
  have hown : s.vm.findClass RM = some m.cls := findClass_of_methodNamed Bd.named
  have hlocks := Bd.notSynchronized
  have hD := hD0.self (sz := s.heap.size)
  obtain ⟨A, hAe⟩ : ∃ A, A = va_A [(m0, .inr (4, [.ref n0, .ref n1, .ref n2, .int (nI cd), .int (nI dt), .ref e0, .ref e1, .int (nI rt), .ref e2, .ref e3, .ref e4, .int (nI sz9), .int (nI at9), .int (nI fl), .int pl, .int (nI wr), .ref e5])), (n0, .inl (cI, 16, .inl (aN fFI))), (n1, .inl (cI, 16, .inl (aN fMM))), (n2, .inl (cI, 16, .inl (aN fFO))), (e0, .inl (cI, 672, .inl (aN dr))), (e1, .inl (cI, 16, .inl (aP g)))] s.heap.size := ⟨_, rfl⟩
  have hA : ∀ q : Nat, s.heap.size ≤ q → A q := fun q h => by rw [hAe]; exact Or.inr h
  rw [← hAe] at hG hD
  have hS : va_S A s.heap s.heap [] := va_S.rf
  have hl := lv_entry ([.ref m0, .int (nI (fFI k)), .long v, .int (nI n)]) (n := 8) (Nat.le_of_ble_eq_true rfl)
  rw [lg_entry_eq]
  generalize (lg_sl ([.ref m0, .int (nI (fFI k)), .long v, .int (nI n)]) ++ List.replicate (8 - (lg_sl ([.ref m0, .int (nI (fFI k)), .long v, .int (nI n)])).length) Slot.unset).toArray = ls at hl ⊢
  have hl : lv_has ls 8 [(0, .ref m0), (1, .int (nI (fFI k))), (2, .long v), (4, .int (nI n))] := hl
  refine zq_name (fun Q hQ => ?_)
  change W p l e rm_c_Mletters_ok s m _ below meth c _ _ _ _ Q _
  obtain ⟨ho1, ho2, ho3, ho4, ho5⟩ := fFO_b k hk
  have hmm := fMM_b k hk
  have hcd := fCD_b k hk
  have hlc : lct k n ≤ fMM k := by unfold lct; split; omega; exact (hn1 (by assumption)).2
  refine lv_aload_n hx hb dM_letters_0 rfl (lv_at hl 0 rfl) ?_
  refine lv_iload_n hx hb dM_letters_1 rfl (lv_at hl 1 rfl) ?_
  refine zc_Ri (va_runV (As := [.int (nI (fFI k))]) (rest := []) ⟨hx, hb, hml, hown, hw⟩ (c_fieldOf_ok l dC dI m0 n0 n1 n2 cd dt e0 e1 rt e2 e3 e4 sz9 at9 fl pl wr e5 cI cB k (by omega) s.heap) (cwV 1 hw (gV w_ml_M_66 w_im_M_fieldOf w_se_M_fieldOf w_in_M w_co_M_fieldOf) rfl rfl rfl (by decide +kernel) ⟨Nat.le_of_ble_eq_true rfl, Nat.le_of_ble_eq_true rfl⟩) (zR_V hG hS (hP.sub (ws' := [(m0, .inr (4, [.ref n0, .ref n1, .ref n2, .int (nI cd), .int (nI dt), .ref e0, .ref e1, .int (nI rt), .ref e2, .ref e3, .ref e4, .int (nI sz9), .int (nI at9), .int (nI fl), .int pl, .int (nI wr), .ref e5])), (n0, .inl (cI, 16, .inl (aN fFI)))]) [0, 1] rfl) hK 0 rfl rfl) rfl rfl hl.1 rfl (lv_room (Nat.le_of_ble_eq_true rfl)) dM_letters_2 ⟨Nat.le_of_ble_eq_true rfl, Nat.le_of_ble_eq_true rfl⟩) hS (fun r_1 locs h_2 hS => ?_)
  subst h_2
  refine lv_istore (lv' := [(5, .int (nI k)), (0, .ref m0), (1, .int (nI (fFI k))), (2, .long v), (4, .int (nI n))]) hx hb dM_letters_5 hl (by decide) rfl (fun ls hl => ?_)
  refine lv_iload hx hb dM_letters_7 (lv_at hl 0 rfl) ?_
  refine zi_lt0 (tgt := 27) hx hb (by omega) dM_letters_9 (by decide) ?_
  refine lv_aload_n hx hb dM_letters_12 rfl (lv_at hl 1 rfl) ?_
  refine va_get (D := (dC, dI)) (ci := 4) (v := .ref n2) (C := RM) (T := TM) (N := 17) hx hb hw inM hown hK hP 0 rfl rfl 2 (by decide) (hw _ w_fl_M_16) (fun _ h9 => h9) rfl dM_letters_13 ?_
  refine lv_iload hx hb dM_letters_16 (lv_at hl 0 rfl) ?_
  refine za_ild hx hb hK hP 3 0 rfl rfl (by omega) (by decide) dM_letters_18 ?_
  refine lv_iconst (v := nI 1) hx hb dM_letters_19 (by decide) ?_
  refine zi_le (tgt := 27) hx hb (by omega) (by omega) dM_letters_20 (by decide) (fun q => False.elim ((by have h9 := mt ho2.mp hh; omega))) (fun c_20 => ?_)
  refine lv_iconst (v := nI 1) hx hb dM_letters_23 (by decide) ?_
  refine lv_goto (tgt := 28) hx hb dM_letters_24 (by decide) ?_
  refine lv_istore (lv' := [(6, .int (nI 1)), (5, .int (nI k)), (0, .ref m0), (1, .int (nI (fFI k))), (2, .long v), (4, .int (nI n))]) hx hb dM_letters_28 hl (by decide) rfl (fun ls hl => ?_)
  refine lv_iload hx hb dM_letters_30 (lv_at hl 0 rfl) ?_
  refine lv_if_eq (tgt := 71) hx hb dM_letters_32 (by decide) (fun q => False.elim (absurd q (by decide))) (fun c_32 => ?_)
  refine lv_aload_n hx hb dM_letters_35 rfl (lv_at hl 2 rfl) ?_
  refine va_get (D := (dC, dI)) (ci := 4) (v := .ref n2) (C := RM) (T := TM) (N := 17) hx hb hw inM hown hK hP 0 rfl rfl 2 (by decide) (hw _ w_fl_M_16) (fun _ h9 => h9) rfl dM_letters_36 ?_
  refine lv_iload hx hb dM_letters_39 (lv_at hl 1 rfl) ?_
  refine za_ild hx hb hK hP 3 0 rfl rfl (by omega) (by decide) dM_letters_41 ?_
  refine lv_iconst (v := nI 3) hx hb dM_letters_42 (by decide) ?_
  refine zi_ne (tgt := 62) hx hb (by omega) (by omega) dM_letters_43 (by decide) (fun c_43 => ?_) (fun c_43 => ?_)
  · refine lv_iload hx hb dM_letters_62 (lv_at hl 5 rfl) ?_
    refine zi_ne0 (tgt := 71) hx hb (by omega) dM_letters_64 (by decide) (fun q => False.elim ((q (hn0 (Decidable.byContradiction fun z => c_43 (ho4.mpr ⟨hh, z⟩)))))) (fun c_64 => ?_)
    refine lv_iconst (v := nI 1) hx hb dM_letters_67 (by decide) ?_
    refine lv_goto (tgt := 72) hx hb dM_letters_68 (by decide) ?_
    refine lv_istore (lv' := [(6, .int (nI 1)), (5, .int (nI k)), (0, .ref m0), (1, .int (nI (fFI k))), (2, .long v), (4, .int (nI n))]) hx hb dM_letters_72 hl (by decide) rfl (fun ls hl => ?_)
    refine lv_aload_n hx hb dM_letters_74 rfl (lv_at hl 2 rfl) ?_
    refine lv_iload hx hb dM_letters_75 (lv_at hl 0 rfl) ?_
    have hPc := hP.sub (ws' := [(m0, .inr (4, [.ref n0, .ref n1, .ref n2, .int (nI cd), .int (nI dt), .ref e0, .ref e1, .int (nI rt), .ref e2, .ref e3, .ref e4, .int (nI sz9), .int (nI at9), .int (nI fl), .int pl, .int (nI wr), .ref e5]))]) [0] rfl
    have hDc := hD.sub (ws' := [(m0, .inr (4, [.ref n0, .ref n1, .ref n2, .int (nI cd), .int (nI dt), .ref e0, .ref e1, .int (nI rt), .ref e2, .ref e3, .ref e4, .int (nI sz9), .int (nI at9), .int (nI fl), .int pl, .int (nI wr), .ref e5]))]) [0] (by decide) rfl
    have hFc := va_free (wc := [(m0, .inr (4, [.ref n0, .ref n1, .ref n2, .int (nI cd), .int (nI dt), .ref e0, .ref e1, .int (nI rt), .ref e2, .ref e3, .ref e4, .int (nI sz9), .int (nI at9), .int (nI fl), .int pl, .int (nI wr), .ref e5]))]) hD hS hA [0] rfl
    refine zc_Mi (va_runV (As := [.int (nI 1)]) (rest := []) ⟨hx, hb, hml, hown, hw⟩ (c_goes_1 l dC dI m0 n0 n1 n2 cd dt e0 e1 rt e2 e3 e4 sz9 at9 fl pl wr e5 cI cB s.heap.size) (cwV 1 hw (gV w_ml_M_50 w_im_M_goes w_se_M_goes w_in_M w_co_M_goes) rfl rfl rfl (by decide +kernel) ⟨Nat.le_of_ble_eq_true rfl, Nat.le_of_ble_eq_true rfl⟩) (zM_V hG hS hFc hPc hDc hK 0 rfl rfl) rfl rfl hl.1 rfl (lv_room (Nat.le_of_ble_eq_true rfl)) dM_letters_77 ⟨Nat.le_of_ble_eq_true rfl, Nat.le_of_ble_eq_true rfl⟩) hS hFc (fun r_2 H locs h_77 hP1 hD1 hk1 hS => ?_)
    obtain ⟨hP, hD⟩ := va_join (wr := [(n0, .inl (cI, 16, .inl (aN fFI))), (n1, .inl (cI, 16, .inl (aN fMM))), (n2, .inl (cI, 16, .inl (aN fFO))), (e0, .inl (cI, 672, .inl (aN dr))), (e1, .inl (cI, 16, .inl (aP g)))]) (w1 := [(m0, .inr (4, [.ref n0, .ref n1, .ref n2, .int (nI 0), .int (nI dt), .ref e0, .ref e1, .int (nI rt), .ref e2, .ref e3, .ref e4, .int (nI sz9), .int (nI at9), .int (nI fl), .int pl, .int (nI wr), .ref e5]))]) hP hD [0] [1, 2, 3, 4, 5] rfl rfl (by decide) (by decide) hk1 hFc hP1 hD1
    have hP : va_P (dC, dI) vwCl [(n0, .inl (cI, 16, .inl (aN fFI))), (n1, .inl (cI, 16, .inl (aN fMM))), (n2, .inl (cI, 16, .inl (aN fFO))), (e0, .inl (cI, 672, .inl (aN dr))), (e1, .inl (cI, 16, .inl (aP g))), (m0, .inr (4, [.ref n0, .ref n1, .ref n2, .int (nI 0), .int (nI dt), .ref e0, .ref e1, .int (nI rt), .ref e2, .ref e3, .ref e4, .int (nI sz9), .int (nI at9), .int (nI fl), .int pl, .int (nI wr), .ref e5]))] H := hP
    have hD : va_D A [(n0, .inl (cI, 16, .inl (aN fFI))), (n1, .inl (cI, 16, .inl (aN fMM))), (n2, .inl (cI, 16, .inl (aN fFO))), (e0, .inl (cI, 672, .inl (aN dr))), (e1, .inl (cI, 16, .inl (aP g))), (m0, .inr (4, [.ref n0, .ref n1, .ref n2, .int (nI 0), .int (nI dt), .ref e0, .ref e1, .int (nI rt), .ref e2, .ref e3, .ref e4, .int (nI sz9), .int (nI at9), .int (nI fl), .int pl, .int (nI wr), .ref e5]))] := hD
    subst h_77
    refine lv_if_eq (tgt := 161) hx hb dM_letters_80 (by decide) (fun q => False.elim (absurd q (by decide))) (fun c_80 => ?_)
    refine lv_aload_n hx hb dM_letters_83 rfl (lv_at hl 2 rfl) ?_
    refine va_get (D := (dC, dI)) (ci := 4) (v := .ref e1) (C := RM) (T := TM) (N := 17) hx hb hw inM hown hK hP 5 rfl rfl 6 (by decide) (hw _ w_fl_M_26) (fun _ h9 => h9) rfl dM_letters_84 ?_
    refine lv_iload hx hb dM_letters_87 (lv_at hl 1 rfl) ?_
    refine lv_aload_n hx hb dM_letters_89 rfl (lv_at hl 2 rfl) ?_
    refine va_get (D := (dC, dI)) (ci := 4) (v := .ref n2) (C := RM) (T := TM) (N := 17) hx hb hw inM hown hK hP 5 rfl rfl 2 (by decide) (hw _ w_fl_M_16) (fun _ h9 => h9) rfl dM_letters_90 ?_
    refine lv_iload hx hb dM_letters_93 (lv_at hl 1 rfl) ?_
    refine za_ild hx hb hK hP 2 0 rfl rfl (by omega) (by decide) dM_letters_95 ?_
    refine lv_iconst (v := nI 3) hx hb dM_letters_96 (by decide) ?_
    refine zi_ne (tgt := 105) hx hb (by omega) (by omega) dM_letters_97 (by decide) (fun c_97 => ?_) (fun c_97 => ?_)
    · refine lv_aload_n hx hb dM_letters_105 rfl (lv_at hl 2 rfl) ?_
      refine va_get (D := (dC, dI)) (ci := 4) (v := .ref n1) (C := RM) (T := TM) (N := 17) hx hb hw inM hown hK hP 5 rfl rfl 1 (by decide) (hw _ w_fl_M_13) (fun _ h9 => h9) rfl dM_letters_106 ?_
      refine lv_iload hx hb dM_letters_109 (lv_at hl 1 rfl) ?_
      refine za_ild hx hb hK hP 1 0 rfl rfl (by omega) (by decide) dM_letters_111 ?_
      refine zi_v (b := pm (lct k n + 1)) (by rw [pm_s]; unfold lct; rw [if_pos (Decidable.byContradiction fun z => c_97 (ho4.mpr ⟨hh, z⟩))]) ?_
      refine za_pst hx hb hK hP hD hS 4 0 rfl rfl (by omega) (by decide) dM_letters_112 (fun H locs hP hD hS => ?_)
      have hP : va_P (dC, dI) vwCl [(n0, .inl (cI, 16, .inl (aN fFI))), (n1, .inl (cI, 16, .inl (aN fMM))), (n2, .inl (cI, 16, .inl (aN fFO))), (e0, .inl (cI, 672, .inl (aN dr))), (e1, .inl (cI, 16, .inl (aP (nup g k (lct k n + 1))))), (m0, .inr (4, [.ref n0, .ref n1, .ref n2, .int (nI 0), .int (nI dt), .ref e0, .ref e1, .int (nI rt), .ref e2, .ref e3, .ref e4, .int (nI sz9), .int (nI at9), .int (nI fl), .int pl, .int (nI wr), .ref e5]))] H := hP
      have hD : va_D A [(n0, .inl (cI, 16, .inl (aN fFI))), (n1, .inl (cI, 16, .inl (aN fMM))), (n2, .inl (cI, 16, .inl (aN fFO))), (e0, .inl (cI, 672, .inl (aN dr))), (e1, .inl (cI, 16, .inl (aP (nup g k (lct k n + 1))))), (m0, .inr (4, [.ref n0, .ref n1, .ref n2, .int (nI 0), .int (nI dt), .ref e0, .ref e1, .int (nI rt), .ref e2, .ref e3, .ref e4, .int (nI sz9), .int (nI at9), .int (nI fl), .int pl, .int (nI wr), .ref e5]))] := hD
      refine lv_iconst (v := nI 0) hx hb dM_letters_113 (by decide) ?_
      refine lv_istore (lv' := [(7, .int (nI 0)), (6, .int (nI 1)), (5, .int (nI k)), (0, .ref m0), (1, .int (nI (fFI k))), (2, .long v), (4, .int (nI n))]) hx hb dM_letters_114 hl (by decide) rfl (fun ls hl => ?_)
      have lp_116 : ∀ (fu : Nat) (j : Nat) (f : Nat → Nat) (hj : j ≤ lct k n) (hi : lsetM v (42 * k) (lct k n - j) j f = lsetM v (42 * k) (lct k n) 0 dr) (hms : lct k n - j < fu) (H : Heap) (locs : List Loc) (ls : Array Slot), lv_has ls 8 [(0, .ref m0), (2, .long v), (5, .int (nI k)), (7, .int (nI j))] → va_P (dC, dI) vwCl [(n0, .inl (cI, 16, .inl (aN fFI))), (n1, .inl (cI, 16, .inl (aN fMM))), (n2, .inl (cI, 16, .inl (aN fFO))), (e0, .inl (cI, 672, .inl (aN f))), (e1, .inl (cI, 16, .inl (aP (nup g k (lct k n + 1))))), (m0, .inr (4, [.ref n0, .ref n1, .ref n2, .int (nI 0), .int (nI dt), .ref e0, .ref e1, .int (nI rt), .ref e2, .ref e3, .ref e4, .int (nI sz9), .int (nI at9), .int (nI fl), .int pl, .int (nI wr), .ref e5]))] H → va_D A [(n0, .inl (cI, 16, .inl (aN fFI))), (n1, .inl (cI, 16, .inl (aN fMM))), (n2, .inl (cI, 16, .inl (aN fFO))), (e0, .inl (cI, 672, .inl (aN f))), (e1, .inl (cI, 16, .inl (aP (nup g k (lct k n + 1))))), (m0, .inr (4, [.ref n0, .ref n1, .ref n2, .int (nI 0), .int (nI dt), .ref e0, .ref e1, .int (nI rt), .ref e2, .ref e3, .ref e4, .int (nI sz9), .int (nI at9), .int (nI fl), .int pl, .int (nI wr), .ref e5]))] → va_S A s.heap H locs → W p l e rm_c_Mletters_ok s m ([.ref m0, .int (nI (fFI k)), .long v, .int (nI n)] : List Value).toArray below meth c H locs 0 0 Q (F0 m 116 ls []) := by
        intro fu
        induction fu with
        | zero => intro j f hj hi hms; exact absurd hms (Nat.not_lt_zero _)
        | succ fu ih116 =>
          intro j f hj hi hms H locs ls hl hP hD hS
          refine lv_iload hx hb dM_letters_116 (lv_at hl 3 rfl) ?_
          refine lv_aload_n hx hb dM_letters_118 rfl (lv_at hl 0 rfl) ?_
          refine va_get (D := (dC, dI)) (ci := 4) (v := .ref e1) (C := RM) (T := TM) (N := 17) hx hb hw inM hown hK hP 5 rfl rfl 6 (by decide) (hw _ w_fl_M_26) (fun _ h9 => h9) rfl dM_letters_119 ?_
          refine lv_iload hx hb dM_letters_122 (lv_at hl 2 rfl) ?_
          refine za_pld hx hb hK hP 4 0 rfl rfl (by omega) (by decide) dM_letters_124 ?_
          refine zi_v (b := nI (lct k n)) (by rw [nup_s]; exact pm_s _) ?_
          refine zi_ge (tgt := 161) hx hb (by omega) (by omega) dM_letters_125 (by decide) (fun c_125 => ?_) (fun c_125 => ?_)
          · have hi : f = lsetM v (42 * k) (lct k n) 0 dr := by have h9 := hi; rw [show lct k n - j = 0 by omega] at h9; exact h9
            subst hi
            subst hAe
            subst hQ
            exact W.vret hx hb hr (fun t ht hW => ⟨⟨(), rfl, trivial, by rw [ht]; exact hP.sub [5, 0, 1, 2, 3, 4] rfl, hD.sub [5, 0, 1, 2, 3, 4] (by decide) rfl⟩, hS.F ht⟩) hS.2.2 dM_letters_161
          · refine lv_aload_n hx hb dM_letters_128 rfl (lv_at hl 0 rfl) ?_
            refine va_get (D := (dC, dI)) (ci := 4) (v := .ref e0) (C := RM) (T := TM) (N := 17) hx hb hw inM hown hK hP 5 rfl rfl 5 (by decide) (hw _ w_fl_M_23) (fun _ h9 => h9) rfl dM_letters_129 ?_
            refine lv_bipush (v := nI 42) hx hb dM_letters_132 (by decide) ?_
            refine lv_iload hx hb dM_letters_134 (lv_at hl 2 rfl) ?_
            refine zi_mul hx hb dM_letters_136 ?_
            refine lv_iload hx hb dM_letters_137 (lv_at hl 3 rfl) ?_
            refine zi_add hx hb dM_letters_139 ?_
            refine lv_lload_n hx hb dM_letters_140 rfl (lv_at hl 1 rfl) ?_
            refine lv_iconst (v := nI 5) hx hb dM_letters_141 (by decide) ?_
            refine lv_iload hx hb dM_letters_142 (lv_at hl 3 rfl) ?_
            refine lv_bipush (v := nI 12) hx hb dM_letters_144 (by decide) ?_
            refine zi_rem hx hb (by omega) (by omega) (by omega) dM_letters_146 ?_
            refine zi_mul hx hb dM_letters_147 ?_
            refine lv_lshr hx hb dM_letters_148 rfl ?_
            refine lv_ldc2 (v := 31) hx hb hown (hw _ w_k_M_74) dM_letters_149 ?_
            refine zl_c (a := 31) rfl ?_
            refine lv_land hx hb dM_letters_152 ?_
            refine lv_l2i hx hb dM_letters_153 rfl ?_
            refine zi_v (b := nI (lt_ v j)) (and31 _) ?_
            refine za_ist hx hb hK hP hD hS 3 0 rfl rfl (by omega) (by decide) dM_letters_154 (fun H locs hP hD hS => ?_)
            have hP : va_P (dC, dI) vwCl [(n0, .inl (cI, 16, .inl (aN fFI))), (n1, .inl (cI, 16, .inl (aN fMM))), (n2, .inl (cI, 16, .inl (aN fFO))), (e0, .inl (cI, 672, .inl (aN (nup f ((42 * k) + j) (lt_ v j))))), (e1, .inl (cI, 16, .inl (aP (nup g k (lct k n + 1))))), (m0, .inr (4, [.ref n0, .ref n1, .ref n2, .int (nI 0), .int (nI dt), .ref e0, .ref e1, .int (nI rt), .ref e2, .ref e3, .ref e4, .int (nI sz9), .int (nI at9), .int (nI fl), .int pl, .int (nI wr), .ref e5]))] H := hP
            have hD : va_D A [(n0, .inl (cI, 16, .inl (aN fFI))), (n1, .inl (cI, 16, .inl (aN fMM))), (n2, .inl (cI, 16, .inl (aN fFO))), (e0, .inl (cI, 672, .inl (aN (nup f ((42 * k) + j) (lt_ v j))))), (e1, .inl (cI, 16, .inl (aP (nup g k (lct k n + 1))))), (m0, .inr (4, [.ref n0, .ref n1, .ref n2, .int (nI 0), .int (nI dt), .ref e0, .ref e1, .int (nI rt), .ref e2, .ref e3, .ref e4, .int (nI sz9), .int (nI at9), .int (nI fl), .int pl, .int (nI wr), .ref e5]))] := hD
            refine lv_iinc (v := nI (j + 1)) (lv' := [(7, .int (nI (j + 1))), (0, .ref m0), (2, .long v), (5, .int (nI k))]) hx hb dM_letters_155 hl (k := 3) rfl (zi_incr j 1) (by decide) rfl (fun ls hl => ?_)
            refine lv_goto (tgt := 116) hx hb dM_letters_158 (by decide) ?_
            exact ih116 (j + 1) (nup f ((42 * k) + j) (lt_ v j)) (by omega) (by have h9 := hi; rw [show lct k n - j = lct k n - (j + 1) + 1 by omega] at h9; exact h9) (by omega) _ _ _ (lv_sub hl [1, 2, 3, 0] rfl) (hP.sub [0, 1, 2, 3, 4, 5] rfl) (hD.sub [0, 1, 2, 3, 4, 5] (by decide) rfl) hS
      exact lp_116 ((lct k n - 0) + 1) 0 dr (by omega) rfl (Nat.lt_succ_self _) _ _ _ (lv_sub hl [3, 5, 2, 0] rfl) (hP.sub [0, 1, 2, 3, 4, 5] rfl) (hD.sub [0, 1, 2, 3, 4, 5] (by decide) rfl) hS
    · refine lv_iload hx hb dM_letters_100 (lv_at hl 5 rfl) ?_
      refine lv_goto (tgt := 112) hx hb dM_letters_102 (by decide) ?_
      refine zi_v (b := pm (lct k n + 1)) (by rw [pm_s]; unfold lct; rw [if_neg (ho4.mp c_97).2]) ?_
      refine za_pst hx hb hK hP hD hS 4 0 rfl rfl (by omega) (by decide) dM_letters_112 (fun H locs hP hD hS => ?_)
      have hP : va_P (dC, dI) vwCl [(n0, .inl (cI, 16, .inl (aN fFI))), (n1, .inl (cI, 16, .inl (aN fMM))), (n2, .inl (cI, 16, .inl (aN fFO))), (e0, .inl (cI, 672, .inl (aN dr))), (e1, .inl (cI, 16, .inl (aP (nup g k (lct k n + 1))))), (m0, .inr (4, [.ref n0, .ref n1, .ref n2, .int (nI 0), .int (nI dt), .ref e0, .ref e1, .int (nI rt), .ref e2, .ref e3, .ref e4, .int (nI sz9), .int (nI at9), .int (nI fl), .int pl, .int (nI wr), .ref e5]))] H := hP
      have hD : va_D A [(n0, .inl (cI, 16, .inl (aN fFI))), (n1, .inl (cI, 16, .inl (aN fMM))), (n2, .inl (cI, 16, .inl (aN fFO))), (e0, .inl (cI, 672, .inl (aN dr))), (e1, .inl (cI, 16, .inl (aP (nup g k (lct k n + 1))))), (m0, .inr (4, [.ref n0, .ref n1, .ref n2, .int (nI 0), .int (nI dt), .ref e0, .ref e1, .int (nI rt), .ref e2, .ref e3, .ref e4, .int (nI sz9), .int (nI at9), .int (nI fl), .int pl, .int (nI wr), .ref e5]))] := hD
      refine lv_iconst (v := nI 0) hx hb dM_letters_113 (by decide) ?_
      refine lv_istore (lv' := [(7, .int (nI 0)), (6, .int (nI 1)), (5, .int (nI k)), (0, .ref m0), (1, .int (nI (fFI k))), (2, .long v), (4, .int (nI n))]) hx hb dM_letters_114 hl (by decide) rfl (fun ls hl => ?_)
      have lp_116 : ∀ (fu : Nat) (j : Nat) (f : Nat → Nat) (hj : j ≤ lct k n) (hi : lsetM v (42 * k) (lct k n - j) j f = lsetM v (42 * k) (lct k n) 0 dr) (hms : lct k n - j < fu) (H : Heap) (locs : List Loc) (ls : Array Slot), lv_has ls 8 [(0, .ref m0), (2, .long v), (5, .int (nI k)), (7, .int (nI j))] → va_P (dC, dI) vwCl [(n0, .inl (cI, 16, .inl (aN fFI))), (n1, .inl (cI, 16, .inl (aN fMM))), (n2, .inl (cI, 16, .inl (aN fFO))), (e0, .inl (cI, 672, .inl (aN f))), (e1, .inl (cI, 16, .inl (aP (nup g k (lct k n + 1))))), (m0, .inr (4, [.ref n0, .ref n1, .ref n2, .int (nI 0), .int (nI dt), .ref e0, .ref e1, .int (nI rt), .ref e2, .ref e3, .ref e4, .int (nI sz9), .int (nI at9), .int (nI fl), .int pl, .int (nI wr), .ref e5]))] H → va_D A [(n0, .inl (cI, 16, .inl (aN fFI))), (n1, .inl (cI, 16, .inl (aN fMM))), (n2, .inl (cI, 16, .inl (aN fFO))), (e0, .inl (cI, 672, .inl (aN f))), (e1, .inl (cI, 16, .inl (aP (nup g k (lct k n + 1))))), (m0, .inr (4, [.ref n0, .ref n1, .ref n2, .int (nI 0), .int (nI dt), .ref e0, .ref e1, .int (nI rt), .ref e2, .ref e3, .ref e4, .int (nI sz9), .int (nI at9), .int (nI fl), .int pl, .int (nI wr), .ref e5]))] → va_S A s.heap H locs → W p l e rm_c_Mletters_ok s m ([.ref m0, .int (nI (fFI k)), .long v, .int (nI n)] : List Value).toArray below meth c H locs 0 0 Q (F0 m 116 ls []) := by
        intro fu
        induction fu with
        | zero => intro j f hj hi hms; exact absurd hms (Nat.not_lt_zero _)
        | succ fu ih116 =>
          intro j f hj hi hms H locs ls hl hP hD hS
          refine lv_iload hx hb dM_letters_116 (lv_at hl 3 rfl) ?_
          refine lv_aload_n hx hb dM_letters_118 rfl (lv_at hl 0 rfl) ?_
          refine va_get (D := (dC, dI)) (ci := 4) (v := .ref e1) (C := RM) (T := TM) (N := 17) hx hb hw inM hown hK hP 5 rfl rfl 6 (by decide) (hw _ w_fl_M_26) (fun _ h9 => h9) rfl dM_letters_119 ?_
          refine lv_iload hx hb dM_letters_122 (lv_at hl 2 rfl) ?_
          refine za_pld hx hb hK hP 4 0 rfl rfl (by omega) (by decide) dM_letters_124 ?_
          refine zi_v (b := nI (lct k n)) (by rw [nup_s]; exact pm_s _) ?_
          refine zi_ge (tgt := 161) hx hb (by omega) (by omega) dM_letters_125 (by decide) (fun c_125 => ?_) (fun c_125 => ?_)
          · have hi : f = lsetM v (42 * k) (lct k n) 0 dr := by have h9 := hi; rw [show lct k n - j = 0 by omega] at h9; exact h9
            subst hi
            subst hAe
            subst hQ
            exact W.vret hx hb hr (fun t ht hW => ⟨⟨(), rfl, trivial, by rw [ht]; exact hP.sub [5, 0, 1, 2, 3, 4] rfl, hD.sub [5, 0, 1, 2, 3, 4] (by decide) rfl⟩, hS.F ht⟩) hS.2.2 dM_letters_161
          · refine lv_aload_n hx hb dM_letters_128 rfl (lv_at hl 0 rfl) ?_
            refine va_get (D := (dC, dI)) (ci := 4) (v := .ref e0) (C := RM) (T := TM) (N := 17) hx hb hw inM hown hK hP 5 rfl rfl 5 (by decide) (hw _ w_fl_M_23) (fun _ h9 => h9) rfl dM_letters_129 ?_
            refine lv_bipush (v := nI 42) hx hb dM_letters_132 (by decide) ?_
            refine lv_iload hx hb dM_letters_134 (lv_at hl 2 rfl) ?_
            refine zi_mul hx hb dM_letters_136 ?_
            refine lv_iload hx hb dM_letters_137 (lv_at hl 3 rfl) ?_
            refine zi_add hx hb dM_letters_139 ?_
            refine lv_lload_n hx hb dM_letters_140 rfl (lv_at hl 1 rfl) ?_
            refine lv_iconst (v := nI 5) hx hb dM_letters_141 (by decide) ?_
            refine lv_iload hx hb dM_letters_142 (lv_at hl 3 rfl) ?_
            refine lv_bipush (v := nI 12) hx hb dM_letters_144 (by decide) ?_
            refine zi_rem hx hb (by omega) (by omega) (by omega) dM_letters_146 ?_
            refine zi_mul hx hb dM_letters_147 ?_
            refine lv_lshr hx hb dM_letters_148 rfl ?_
            refine lv_ldc2 (v := 31) hx hb hown (hw _ w_k_M_74) dM_letters_149 ?_
            refine zl_c (a := 31) rfl ?_
            refine lv_land hx hb dM_letters_152 ?_
            refine lv_l2i hx hb dM_letters_153 rfl ?_
            refine zi_v (b := nI (lt_ v j)) (and31 _) ?_
            refine za_ist hx hb hK hP hD hS 3 0 rfl rfl (by omega) (by decide) dM_letters_154 (fun H locs hP hD hS => ?_)
            have hP : va_P (dC, dI) vwCl [(n0, .inl (cI, 16, .inl (aN fFI))), (n1, .inl (cI, 16, .inl (aN fMM))), (n2, .inl (cI, 16, .inl (aN fFO))), (e0, .inl (cI, 672, .inl (aN (nup f ((42 * k) + j) (lt_ v j))))), (e1, .inl (cI, 16, .inl (aP (nup g k (lct k n + 1))))), (m0, .inr (4, [.ref n0, .ref n1, .ref n2, .int (nI 0), .int (nI dt), .ref e0, .ref e1, .int (nI rt), .ref e2, .ref e3, .ref e4, .int (nI sz9), .int (nI at9), .int (nI fl), .int pl, .int (nI wr), .ref e5]))] H := hP
            have hD : va_D A [(n0, .inl (cI, 16, .inl (aN fFI))), (n1, .inl (cI, 16, .inl (aN fMM))), (n2, .inl (cI, 16, .inl (aN fFO))), (e0, .inl (cI, 672, .inl (aN (nup f ((42 * k) + j) (lt_ v j))))), (e1, .inl (cI, 16, .inl (aP (nup g k (lct k n + 1))))), (m0, .inr (4, [.ref n0, .ref n1, .ref n2, .int (nI 0), .int (nI dt), .ref e0, .ref e1, .int (nI rt), .ref e2, .ref e3, .ref e4, .int (nI sz9), .int (nI at9), .int (nI fl), .int pl, .int (nI wr), .ref e5]))] := hD
            refine lv_iinc (v := nI (j + 1)) (lv' := [(7, .int (nI (j + 1))), (0, .ref m0), (2, .long v), (5, .int (nI k))]) hx hb dM_letters_155 hl (k := 3) rfl (zi_incr j 1) (by decide) rfl (fun ls hl => ?_)
            refine lv_goto (tgt := 116) hx hb dM_letters_158 (by decide) ?_
            exact ih116 (j + 1) (nup f ((42 * k) + j) (lt_ v j)) (by omega) (by have h9 := hi; rw [show lct k n - j = lct k n - (j + 1) + 1 by omega] at h9; exact h9) (by omega) _ _ _ (lv_sub hl [1, 2, 3, 0] rfl) (hP.sub [0, 1, 2, 3, 4, 5] rfl) (hD.sub [0, 1, 2, 3, 4, 5] (by decide) rfl) hS
      exact lp_116 ((lct k n - 0) + 1) 0 dr (by omega) rfl (Nat.lt_succ_self _) _ _ _ (lv_sub hl [3, 5, 2, 0] rfl) (hP.sub [0, 1, 2, 3, 4, 5] rfl) (hD.sub [0, 1, 2, 3, 4, 5] (by decide) rfl) hS
  · refine lv_iload hx hb dM_letters_46 (lv_at hl 5 rfl) ?_
    refine lv_iconst (v := nI 1) hx hb dM_letters_48 (by decide) ?_
    refine zi_lt (tgt := 71) hx hb (by omega) (by omega) dM_letters_49 (by decide) (fun q => False.elim ((by have := hn1 (ho4.mp c_43).2; omega))) (fun c_49 => ?_)
    refine lv_iload hx hb dM_letters_52 (lv_at hl 5 rfl) ?_
    refine lv_bipush (v := nI 40) hx hb dM_letters_54 (by decide) ?_
    refine zi_gt (tgt := 71) hx hb (by omega) (by omega) dM_letters_56 (by decide) (fun q => False.elim ((by have := hn1 (ho4.mp c_43).2; have := ho5 hh (ho4.mp c_43).2; omega))) (fun c_56 => ?_)
    refine lv_goto (tgt := 67) hx hb dM_letters_59 (by decide) ?_
    refine lv_iconst (v := nI 1) hx hb dM_letters_67 (by decide) ?_
    refine lv_goto (tgt := 72) hx hb dM_letters_68 (by decide) ?_
    refine lv_istore (lv' := [(6, .int (nI 1)), (5, .int (nI k)), (0, .ref m0), (1, .int (nI (fFI k))), (2, .long v), (4, .int (nI n))]) hx hb dM_letters_72 hl (by decide) rfl (fun ls hl => ?_)
    refine lv_aload_n hx hb dM_letters_74 rfl (lv_at hl 2 rfl) ?_
    refine lv_iload hx hb dM_letters_75 (lv_at hl 0 rfl) ?_
    have hPc := hP.sub (ws' := [(m0, .inr (4, [.ref n0, .ref n1, .ref n2, .int (nI cd), .int (nI dt), .ref e0, .ref e1, .int (nI rt), .ref e2, .ref e3, .ref e4, .int (nI sz9), .int (nI at9), .int (nI fl), .int pl, .int (nI wr), .ref e5]))]) [0] rfl
    have hDc := hD.sub (ws' := [(m0, .inr (4, [.ref n0, .ref n1, .ref n2, .int (nI cd), .int (nI dt), .ref e0, .ref e1, .int (nI rt), .ref e2, .ref e3, .ref e4, .int (nI sz9), .int (nI at9), .int (nI fl), .int pl, .int (nI wr), .ref e5]))]) [0] (by decide) rfl
    have hFc := va_free (wc := [(m0, .inr (4, [.ref n0, .ref n1, .ref n2, .int (nI cd), .int (nI dt), .ref e0, .ref e1, .int (nI rt), .ref e2, .ref e3, .ref e4, .int (nI sz9), .int (nI at9), .int (nI fl), .int pl, .int (nI wr), .ref e5]))]) hD hS hA [0] rfl
    refine zc_Mi (va_runV (As := [.int (nI 1)]) (rest := []) ⟨hx, hb, hml, hown, hw⟩ (c_goes_1 l dC dI m0 n0 n1 n2 cd dt e0 e1 rt e2 e3 e4 sz9 at9 fl pl wr e5 cI cB s.heap.size) (cwV 1 hw (gV w_ml_M_50 w_im_M_goes w_se_M_goes w_in_M w_co_M_goes) rfl rfl rfl (by decide +kernel) ⟨Nat.le_of_ble_eq_true rfl, Nat.le_of_ble_eq_true rfl⟩) (zM_V hG hS hFc hPc hDc hK 0 rfl rfl) rfl rfl hl.1 rfl (lv_room (Nat.le_of_ble_eq_true rfl)) dM_letters_77 ⟨Nat.le_of_ble_eq_true rfl, Nat.le_of_ble_eq_true rfl⟩) hS hFc (fun r_3 H locs h_77 hP1 hD1 hk1 hS => ?_)
    obtain ⟨hP, hD⟩ := va_join (wr := [(n0, .inl (cI, 16, .inl (aN fFI))), (n1, .inl (cI, 16, .inl (aN fMM))), (n2, .inl (cI, 16, .inl (aN fFO))), (e0, .inl (cI, 672, .inl (aN dr))), (e1, .inl (cI, 16, .inl (aP g)))]) (w1 := [(m0, .inr (4, [.ref n0, .ref n1, .ref n2, .int (nI 0), .int (nI dt), .ref e0, .ref e1, .int (nI rt), .ref e2, .ref e3, .ref e4, .int (nI sz9), .int (nI at9), .int (nI fl), .int pl, .int (nI wr), .ref e5]))]) hP hD [0] [1, 2, 3, 4, 5] rfl rfl (by decide) (by decide) hk1 hFc hP1 hD1
    have hP : va_P (dC, dI) vwCl [(n0, .inl (cI, 16, .inl (aN fFI))), (n1, .inl (cI, 16, .inl (aN fMM))), (n2, .inl (cI, 16, .inl (aN fFO))), (e0, .inl (cI, 672, .inl (aN dr))), (e1, .inl (cI, 16, .inl (aP g))), (m0, .inr (4, [.ref n0, .ref n1, .ref n2, .int (nI 0), .int (nI dt), .ref e0, .ref e1, .int (nI rt), .ref e2, .ref e3, .ref e4, .int (nI sz9), .int (nI at9), .int (nI fl), .int pl, .int (nI wr), .ref e5]))] H := hP
    have hD : va_D A [(n0, .inl (cI, 16, .inl (aN fFI))), (n1, .inl (cI, 16, .inl (aN fMM))), (n2, .inl (cI, 16, .inl (aN fFO))), (e0, .inl (cI, 672, .inl (aN dr))), (e1, .inl (cI, 16, .inl (aP g))), (m0, .inr (4, [.ref n0, .ref n1, .ref n2, .int (nI 0), .int (nI dt), .ref e0, .ref e1, .int (nI rt), .ref e2, .ref e3, .ref e4, .int (nI sz9), .int (nI at9), .int (nI fl), .int pl, .int (nI wr), .ref e5]))] := hD
    subst h_77
    refine lv_if_eq (tgt := 161) hx hb dM_letters_80 (by decide) (fun q => False.elim (absurd q (by decide))) (fun c_80 => ?_)
    refine lv_aload_n hx hb dM_letters_83 rfl (lv_at hl 2 rfl) ?_
    refine va_get (D := (dC, dI)) (ci := 4) (v := .ref e1) (C := RM) (T := TM) (N := 17) hx hb hw inM hown hK hP 5 rfl rfl 6 (by decide) (hw _ w_fl_M_26) (fun _ h9 => h9) rfl dM_letters_84 ?_
    refine lv_iload hx hb dM_letters_87 (lv_at hl 1 rfl) ?_
    refine lv_aload_n hx hb dM_letters_89 rfl (lv_at hl 2 rfl) ?_
    refine va_get (D := (dC, dI)) (ci := 4) (v := .ref n2) (C := RM) (T := TM) (N := 17) hx hb hw inM hown hK hP 5 rfl rfl 2 (by decide) (hw _ w_fl_M_16) (fun _ h9 => h9) rfl dM_letters_90 ?_
    refine lv_iload hx hb dM_letters_93 (lv_at hl 1 rfl) ?_
    refine za_ild hx hb hK hP 2 0 rfl rfl (by omega) (by decide) dM_letters_95 ?_
    refine lv_iconst (v := nI 3) hx hb dM_letters_96 (by decide) ?_
    refine zi_ne (tgt := 105) hx hb (by omega) (by omega) dM_letters_97 (by decide) (fun c_97 => ?_) (fun c_97 => ?_)
    · refine lv_aload_n hx hb dM_letters_105 rfl (lv_at hl 2 rfl) ?_
      refine va_get (D := (dC, dI)) (ci := 4) (v := .ref n1) (C := RM) (T := TM) (N := 17) hx hb hw inM hown hK hP 5 rfl rfl 1 (by decide) (hw _ w_fl_M_13) (fun _ h9 => h9) rfl dM_letters_106 ?_
      refine lv_iload hx hb dM_letters_109 (lv_at hl 1 rfl) ?_
      refine za_ild hx hb hK hP 1 0 rfl rfl (by omega) (by decide) dM_letters_111 ?_
      refine zi_v (b := pm (lct k n + 1)) (by rw [pm_s]; unfold lct; rw [if_pos (Decidable.byContradiction fun z => c_97 (ho4.mpr ⟨hh, z⟩))]) ?_
      refine za_pst hx hb hK hP hD hS 4 0 rfl rfl (by omega) (by decide) dM_letters_112 (fun H locs hP hD hS => ?_)
      have hP : va_P (dC, dI) vwCl [(n0, .inl (cI, 16, .inl (aN fFI))), (n1, .inl (cI, 16, .inl (aN fMM))), (n2, .inl (cI, 16, .inl (aN fFO))), (e0, .inl (cI, 672, .inl (aN dr))), (e1, .inl (cI, 16, .inl (aP (nup g k (lct k n + 1))))), (m0, .inr (4, [.ref n0, .ref n1, .ref n2, .int (nI 0), .int (nI dt), .ref e0, .ref e1, .int (nI rt), .ref e2, .ref e3, .ref e4, .int (nI sz9), .int (nI at9), .int (nI fl), .int pl, .int (nI wr), .ref e5]))] H := hP
      have hD : va_D A [(n0, .inl (cI, 16, .inl (aN fFI))), (n1, .inl (cI, 16, .inl (aN fMM))), (n2, .inl (cI, 16, .inl (aN fFO))), (e0, .inl (cI, 672, .inl (aN dr))), (e1, .inl (cI, 16, .inl (aP (nup g k (lct k n + 1))))), (m0, .inr (4, [.ref n0, .ref n1, .ref n2, .int (nI 0), .int (nI dt), .ref e0, .ref e1, .int (nI rt), .ref e2, .ref e3, .ref e4, .int (nI sz9), .int (nI at9), .int (nI fl), .int pl, .int (nI wr), .ref e5]))] := hD
      refine lv_iconst (v := nI 0) hx hb dM_letters_113 (by decide) ?_
      refine lv_istore (lv' := [(7, .int (nI 0)), (6, .int (nI 1)), (5, .int (nI k)), (0, .ref m0), (1, .int (nI (fFI k))), (2, .long v), (4, .int (nI n))]) hx hb dM_letters_114 hl (by decide) rfl (fun ls hl => ?_)
      have lp_116 : ∀ (fu : Nat) (j : Nat) (f : Nat → Nat) (hj : j ≤ lct k n) (hi : lsetM v (42 * k) (lct k n - j) j f = lsetM v (42 * k) (lct k n) 0 dr) (hms : lct k n - j < fu) (H : Heap) (locs : List Loc) (ls : Array Slot), lv_has ls 8 [(0, .ref m0), (2, .long v), (5, .int (nI k)), (7, .int (nI j))] → va_P (dC, dI) vwCl [(n0, .inl (cI, 16, .inl (aN fFI))), (n1, .inl (cI, 16, .inl (aN fMM))), (n2, .inl (cI, 16, .inl (aN fFO))), (e0, .inl (cI, 672, .inl (aN f))), (e1, .inl (cI, 16, .inl (aP (nup g k (lct k n + 1))))), (m0, .inr (4, [.ref n0, .ref n1, .ref n2, .int (nI 0), .int (nI dt), .ref e0, .ref e1, .int (nI rt), .ref e2, .ref e3, .ref e4, .int (nI sz9), .int (nI at9), .int (nI fl), .int pl, .int (nI wr), .ref e5]))] H → va_D A [(n0, .inl (cI, 16, .inl (aN fFI))), (n1, .inl (cI, 16, .inl (aN fMM))), (n2, .inl (cI, 16, .inl (aN fFO))), (e0, .inl (cI, 672, .inl (aN f))), (e1, .inl (cI, 16, .inl (aP (nup g k (lct k n + 1))))), (m0, .inr (4, [.ref n0, .ref n1, .ref n2, .int (nI 0), .int (nI dt), .ref e0, .ref e1, .int (nI rt), .ref e2, .ref e3, .ref e4, .int (nI sz9), .int (nI at9), .int (nI fl), .int pl, .int (nI wr), .ref e5]))] → va_S A s.heap H locs → W p l e rm_c_Mletters_ok s m ([.ref m0, .int (nI (fFI k)), .long v, .int (nI n)] : List Value).toArray below meth c H locs 0 0 Q (F0 m 116 ls []) := by
        intro fu
        induction fu with
        | zero => intro j f hj hi hms; exact absurd hms (Nat.not_lt_zero _)
        | succ fu ih116 =>
          intro j f hj hi hms H locs ls hl hP hD hS
          refine lv_iload hx hb dM_letters_116 (lv_at hl 3 rfl) ?_
          refine lv_aload_n hx hb dM_letters_118 rfl (lv_at hl 0 rfl) ?_
          refine va_get (D := (dC, dI)) (ci := 4) (v := .ref e1) (C := RM) (T := TM) (N := 17) hx hb hw inM hown hK hP 5 rfl rfl 6 (by decide) (hw _ w_fl_M_26) (fun _ h9 => h9) rfl dM_letters_119 ?_
          refine lv_iload hx hb dM_letters_122 (lv_at hl 2 rfl) ?_
          refine za_pld hx hb hK hP 4 0 rfl rfl (by omega) (by decide) dM_letters_124 ?_
          refine zi_v (b := nI (lct k n)) (by rw [nup_s]; exact pm_s _) ?_
          refine zi_ge (tgt := 161) hx hb (by omega) (by omega) dM_letters_125 (by decide) (fun c_125 => ?_) (fun c_125 => ?_)
          · have hi : f = lsetM v (42 * k) (lct k n) 0 dr := by have h9 := hi; rw [show lct k n - j = 0 by omega] at h9; exact h9
            subst hi
            subst hAe
            subst hQ
            exact W.vret hx hb hr (fun t ht hW => ⟨⟨(), rfl, trivial, by rw [ht]; exact hP.sub [5, 0, 1, 2, 3, 4] rfl, hD.sub [5, 0, 1, 2, 3, 4] (by decide) rfl⟩, hS.F ht⟩) hS.2.2 dM_letters_161
          · refine lv_aload_n hx hb dM_letters_128 rfl (lv_at hl 0 rfl) ?_
            refine va_get (D := (dC, dI)) (ci := 4) (v := .ref e0) (C := RM) (T := TM) (N := 17) hx hb hw inM hown hK hP 5 rfl rfl 5 (by decide) (hw _ w_fl_M_23) (fun _ h9 => h9) rfl dM_letters_129 ?_
            refine lv_bipush (v := nI 42) hx hb dM_letters_132 (by decide) ?_
            refine lv_iload hx hb dM_letters_134 (lv_at hl 2 rfl) ?_
            refine zi_mul hx hb dM_letters_136 ?_
            refine lv_iload hx hb dM_letters_137 (lv_at hl 3 rfl) ?_
            refine zi_add hx hb dM_letters_139 ?_
            refine lv_lload_n hx hb dM_letters_140 rfl (lv_at hl 1 rfl) ?_
            refine lv_iconst (v := nI 5) hx hb dM_letters_141 (by decide) ?_
            refine lv_iload hx hb dM_letters_142 (lv_at hl 3 rfl) ?_
            refine lv_bipush (v := nI 12) hx hb dM_letters_144 (by decide) ?_
            refine zi_rem hx hb (by omega) (by omega) (by omega) dM_letters_146 ?_
            refine zi_mul hx hb dM_letters_147 ?_
            refine lv_lshr hx hb dM_letters_148 rfl ?_
            refine lv_ldc2 (v := 31) hx hb hown (hw _ w_k_M_74) dM_letters_149 ?_
            refine zl_c (a := 31) rfl ?_
            refine lv_land hx hb dM_letters_152 ?_
            refine lv_l2i hx hb dM_letters_153 rfl ?_
            refine zi_v (b := nI (lt_ v j)) (and31 _) ?_
            refine za_ist hx hb hK hP hD hS 3 0 rfl rfl (by omega) (by decide) dM_letters_154 (fun H locs hP hD hS => ?_)
            have hP : va_P (dC, dI) vwCl [(n0, .inl (cI, 16, .inl (aN fFI))), (n1, .inl (cI, 16, .inl (aN fMM))), (n2, .inl (cI, 16, .inl (aN fFO))), (e0, .inl (cI, 672, .inl (aN (nup f ((42 * k) + j) (lt_ v j))))), (e1, .inl (cI, 16, .inl (aP (nup g k (lct k n + 1))))), (m0, .inr (4, [.ref n0, .ref n1, .ref n2, .int (nI 0), .int (nI dt), .ref e0, .ref e1, .int (nI rt), .ref e2, .ref e3, .ref e4, .int (nI sz9), .int (nI at9), .int (nI fl), .int pl, .int (nI wr), .ref e5]))] H := hP
            have hD : va_D A [(n0, .inl (cI, 16, .inl (aN fFI))), (n1, .inl (cI, 16, .inl (aN fMM))), (n2, .inl (cI, 16, .inl (aN fFO))), (e0, .inl (cI, 672, .inl (aN (nup f ((42 * k) + j) (lt_ v j))))), (e1, .inl (cI, 16, .inl (aP (nup g k (lct k n + 1))))), (m0, .inr (4, [.ref n0, .ref n1, .ref n2, .int (nI 0), .int (nI dt), .ref e0, .ref e1, .int (nI rt), .ref e2, .ref e3, .ref e4, .int (nI sz9), .int (nI at9), .int (nI fl), .int pl, .int (nI wr), .ref e5]))] := hD
            refine lv_iinc (v := nI (j + 1)) (lv' := [(7, .int (nI (j + 1))), (0, .ref m0), (2, .long v), (5, .int (nI k))]) hx hb dM_letters_155 hl (k := 3) rfl (zi_incr j 1) (by decide) rfl (fun ls hl => ?_)
            refine lv_goto (tgt := 116) hx hb dM_letters_158 (by decide) ?_
            exact ih116 (j + 1) (nup f ((42 * k) + j) (lt_ v j)) (by omega) (by have h9 := hi; rw [show lct k n - j = lct k n - (j + 1) + 1 by omega] at h9; exact h9) (by omega) _ _ _ (lv_sub hl [1, 2, 3, 0] rfl) (hP.sub [0, 1, 2, 3, 4, 5] rfl) (hD.sub [0, 1, 2, 3, 4, 5] (by decide) rfl) hS
      exact lp_116 ((lct k n - 0) + 1) 0 dr (by omega) rfl (Nat.lt_succ_self _) _ _ _ (lv_sub hl [3, 5, 2, 0] rfl) (hP.sub [0, 1, 2, 3, 4, 5] rfl) (hD.sub [0, 1, 2, 3, 4, 5] (by decide) rfl) hS
    · refine lv_iload hx hb dM_letters_100 (lv_at hl 5 rfl) ?_
      refine lv_goto (tgt := 112) hx hb dM_letters_102 (by decide) ?_
      refine zi_v (b := pm (lct k n + 1)) (by rw [pm_s]; unfold lct; rw [if_neg (ho4.mp c_97).2]) ?_
      refine za_pst hx hb hK hP hD hS 4 0 rfl rfl (by omega) (by decide) dM_letters_112 (fun H locs hP hD hS => ?_)
      have hP : va_P (dC, dI) vwCl [(n0, .inl (cI, 16, .inl (aN fFI))), (n1, .inl (cI, 16, .inl (aN fMM))), (n2, .inl (cI, 16, .inl (aN fFO))), (e0, .inl (cI, 672, .inl (aN dr))), (e1, .inl (cI, 16, .inl (aP (nup g k (lct k n + 1))))), (m0, .inr (4, [.ref n0, .ref n1, .ref n2, .int (nI 0), .int (nI dt), .ref e0, .ref e1, .int (nI rt), .ref e2, .ref e3, .ref e4, .int (nI sz9), .int (nI at9), .int (nI fl), .int pl, .int (nI wr), .ref e5]))] H := hP
      have hD : va_D A [(n0, .inl (cI, 16, .inl (aN fFI))), (n1, .inl (cI, 16, .inl (aN fMM))), (n2, .inl (cI, 16, .inl (aN fFO))), (e0, .inl (cI, 672, .inl (aN dr))), (e1, .inl (cI, 16, .inl (aP (nup g k (lct k n + 1))))), (m0, .inr (4, [.ref n0, .ref n1, .ref n2, .int (nI 0), .int (nI dt), .ref e0, .ref e1, .int (nI rt), .ref e2, .ref e3, .ref e4, .int (nI sz9), .int (nI at9), .int (nI fl), .int pl, .int (nI wr), .ref e5]))] := hD
      refine lv_iconst (v := nI 0) hx hb dM_letters_113 (by decide) ?_
      refine lv_istore (lv' := [(7, .int (nI 0)), (6, .int (nI 1)), (5, .int (nI k)), (0, .ref m0), (1, .int (nI (fFI k))), (2, .long v), (4, .int (nI n))]) hx hb dM_letters_114 hl (by decide) rfl (fun ls hl => ?_)
      have lp_116 : ∀ (fu : Nat) (j : Nat) (f : Nat → Nat) (hj : j ≤ lct k n) (hi : lsetM v (42 * k) (lct k n - j) j f = lsetM v (42 * k) (lct k n) 0 dr) (hms : lct k n - j < fu) (H : Heap) (locs : List Loc) (ls : Array Slot), lv_has ls 8 [(0, .ref m0), (2, .long v), (5, .int (nI k)), (7, .int (nI j))] → va_P (dC, dI) vwCl [(n0, .inl (cI, 16, .inl (aN fFI))), (n1, .inl (cI, 16, .inl (aN fMM))), (n2, .inl (cI, 16, .inl (aN fFO))), (e0, .inl (cI, 672, .inl (aN f))), (e1, .inl (cI, 16, .inl (aP (nup g k (lct k n + 1))))), (m0, .inr (4, [.ref n0, .ref n1, .ref n2, .int (nI 0), .int (nI dt), .ref e0, .ref e1, .int (nI rt), .ref e2, .ref e3, .ref e4, .int (nI sz9), .int (nI at9), .int (nI fl), .int pl, .int (nI wr), .ref e5]))] H → va_D A [(n0, .inl (cI, 16, .inl (aN fFI))), (n1, .inl (cI, 16, .inl (aN fMM))), (n2, .inl (cI, 16, .inl (aN fFO))), (e0, .inl (cI, 672, .inl (aN f))), (e1, .inl (cI, 16, .inl (aP (nup g k (lct k n + 1))))), (m0, .inr (4, [.ref n0, .ref n1, .ref n2, .int (nI 0), .int (nI dt), .ref e0, .ref e1, .int (nI rt), .ref e2, .ref e3, .ref e4, .int (nI sz9), .int (nI at9), .int (nI fl), .int pl, .int (nI wr), .ref e5]))] → va_S A s.heap H locs → W p l e rm_c_Mletters_ok s m ([.ref m0, .int (nI (fFI k)), .long v, .int (nI n)] : List Value).toArray below meth c H locs 0 0 Q (F0 m 116 ls []) := by
        intro fu
        induction fu with
        | zero => intro j f hj hi hms; exact absurd hms (Nat.not_lt_zero _)
        | succ fu ih116 =>
          intro j f hj hi hms H locs ls hl hP hD hS
          refine lv_iload hx hb dM_letters_116 (lv_at hl 3 rfl) ?_
          refine lv_aload_n hx hb dM_letters_118 rfl (lv_at hl 0 rfl) ?_
          refine va_get (D := (dC, dI)) (ci := 4) (v := .ref e1) (C := RM) (T := TM) (N := 17) hx hb hw inM hown hK hP 5 rfl rfl 6 (by decide) (hw _ w_fl_M_26) (fun _ h9 => h9) rfl dM_letters_119 ?_
          refine lv_iload hx hb dM_letters_122 (lv_at hl 2 rfl) ?_
          refine za_pld hx hb hK hP 4 0 rfl rfl (by omega) (by decide) dM_letters_124 ?_
          refine zi_v (b := nI (lct k n)) (by rw [nup_s]; exact pm_s _) ?_
          refine zi_ge (tgt := 161) hx hb (by omega) (by omega) dM_letters_125 (by decide) (fun c_125 => ?_) (fun c_125 => ?_)
          · have hi : f = lsetM v (42 * k) (lct k n) 0 dr := by have h9 := hi; rw [show lct k n - j = 0 by omega] at h9; exact h9
            subst hi
            subst hAe
            subst hQ
            exact W.vret hx hb hr (fun t ht hW => ⟨⟨(), rfl, trivial, by rw [ht]; exact hP.sub [5, 0, 1, 2, 3, 4] rfl, hD.sub [5, 0, 1, 2, 3, 4] (by decide) rfl⟩, hS.F ht⟩) hS.2.2 dM_letters_161
          · refine lv_aload_n hx hb dM_letters_128 rfl (lv_at hl 0 rfl) ?_
            refine va_get (D := (dC, dI)) (ci := 4) (v := .ref e0) (C := RM) (T := TM) (N := 17) hx hb hw inM hown hK hP 5 rfl rfl 5 (by decide) (hw _ w_fl_M_23) (fun _ h9 => h9) rfl dM_letters_129 ?_
            refine lv_bipush (v := nI 42) hx hb dM_letters_132 (by decide) ?_
            refine lv_iload hx hb dM_letters_134 (lv_at hl 2 rfl) ?_
            refine zi_mul hx hb dM_letters_136 ?_
            refine lv_iload hx hb dM_letters_137 (lv_at hl 3 rfl) ?_
            refine zi_add hx hb dM_letters_139 ?_
            refine lv_lload_n hx hb dM_letters_140 rfl (lv_at hl 1 rfl) ?_
            refine lv_iconst (v := nI 5) hx hb dM_letters_141 (by decide) ?_
            refine lv_iload hx hb dM_letters_142 (lv_at hl 3 rfl) ?_
            refine lv_bipush (v := nI 12) hx hb dM_letters_144 (by decide) ?_
            refine zi_rem hx hb (by omega) (by omega) (by omega) dM_letters_146 ?_
            refine zi_mul hx hb dM_letters_147 ?_
            refine lv_lshr hx hb dM_letters_148 rfl ?_
            refine lv_ldc2 (v := 31) hx hb hown (hw _ w_k_M_74) dM_letters_149 ?_
            refine zl_c (a := 31) rfl ?_
            refine lv_land hx hb dM_letters_152 ?_
            refine lv_l2i hx hb dM_letters_153 rfl ?_
            refine zi_v (b := nI (lt_ v j)) (and31 _) ?_
            refine za_ist hx hb hK hP hD hS 3 0 rfl rfl (by omega) (by decide) dM_letters_154 (fun H locs hP hD hS => ?_)
            have hP : va_P (dC, dI) vwCl [(n0, .inl (cI, 16, .inl (aN fFI))), (n1, .inl (cI, 16, .inl (aN fMM))), (n2, .inl (cI, 16, .inl (aN fFO))), (e0, .inl (cI, 672, .inl (aN (nup f ((42 * k) + j) (lt_ v j))))), (e1, .inl (cI, 16, .inl (aP (nup g k (lct k n + 1))))), (m0, .inr (4, [.ref n0, .ref n1, .ref n2, .int (nI 0), .int (nI dt), .ref e0, .ref e1, .int (nI rt), .ref e2, .ref e3, .ref e4, .int (nI sz9), .int (nI at9), .int (nI fl), .int pl, .int (nI wr), .ref e5]))] H := hP
            have hD : va_D A [(n0, .inl (cI, 16, .inl (aN fFI))), (n1, .inl (cI, 16, .inl (aN fMM))), (n2, .inl (cI, 16, .inl (aN fFO))), (e0, .inl (cI, 672, .inl (aN (nup f ((42 * k) + j) (lt_ v j))))), (e1, .inl (cI, 16, .inl (aP (nup g k (lct k n + 1))))), (m0, .inr (4, [.ref n0, .ref n1, .ref n2, .int (nI 0), .int (nI dt), .ref e0, .ref e1, .int (nI rt), .ref e2, .ref e3, .ref e4, .int (nI sz9), .int (nI at9), .int (nI fl), .int pl, .int (nI wr), .ref e5]))] := hD
            refine lv_iinc (v := nI (j + 1)) (lv' := [(7, .int (nI (j + 1))), (0, .ref m0), (2, .long v), (5, .int (nI k))]) hx hb dM_letters_155 hl (k := 3) rfl (zi_incr j 1) (by decide) rfl (fun ls hl => ?_)
            refine lv_goto (tgt := 116) hx hb dM_letters_158 (by decide) ?_
            exact ih116 (j + 1) (nup f ((42 * k) + j) (lt_ v j)) (by omega) (by have h9 := hi; rw [show lct k n - j = lct k n - (j + 1) + 1 by omega] at h9; exact h9) (by omega) _ _ _ (lv_sub hl [1, 2, 3, 0] rfl) (hP.sub [0, 1, 2, 3, 4, 5] rfl) (hD.sub [0, 1, 2, 3, 4, 5] (by decide) rfl) hS
      exact lp_116 ((lct k n - 0) + 1) 0 dr (by omega) rfl (Nat.lt_succ_self _) _ _ _ (lv_sub hl [3, 5, 2, 0] rfl) (hP.sub [0, 1, 2, 3, 4, 5] rfl) (hD.sub [0, 1, 2, 3, 4, 5] (by decide) rfl) hS
def rm_c_Mletters_no1 : Room := ({ frames := 1, cells := 0, slots := 0, locals := 23 } : Room)
set_option maxHeartbeats 4000000 in
set_option maxRecDepth 100000 in
theorem c_Mletters_no1 (l : Launch) (dC : Nat → ClassId) (dI : Nat → Nat → Nat) (m0 : Nat) (n0 : Nat) (n1 : Nat) (n2 : Nat) (cd : Nat) (dt : Nat) (e0 : Nat) (e1 : Nat) (rt : Nat) (e2 : Nat) (e3 : Nat) (e4 : Nat) (sz9 : Nat) (at9 : Nat) (fl : Nat) (pl : Int32) (wr : Nat) (e5 : Nat) (cI : ClassId) (cB : ClassId) (x9 : Int32) (v : Int64) (y9 : Int32) (hx9 : ∀ j, j < 16 → nI (fFI j) ≠ x9) (sz : Nat) : Met l yM_letters wsM_letters rm_c_Mletters_no1 (zM (dC, dI) [(cI, .int), (cB, .byte)] [.ref m0, .int x9, .long v, .int y9] [(m0, .inr (4, [.ref n0, .ref n1, .ref n2, .int (nI cd), .int (nI dt), .ref e0, .ref e1, .int (nI rt), .ref e2, .ref e3, .ref e4, .int (nI sz9), .int (nI at9), .int (nI fl), .int pl, .int (nI wr), .ref e5])), (n0, .inl (cI, 16, .inl (aN fFI))), (n1, .inl (cI, 16, .inl (aN fMM))), (n2, .inl (cI, 16, .inl (aN fFO)))] sz) (zMv (dC, dI) [(m0, .inr (4, [.ref n0, .ref n1, .ref n2, .int (nI cd), .int (nI dt), .ref e0, .ref e1, .int (nI rt), .ref e2, .ref e3, .ref e4, .int (nI sz9), .int (nI at9), .int (nI fl), .int pl, .int (nI wr), .ref e5])), (n0, .inl (cI, 16, .inl (aN fFI))), (n1, .inl (cI, 16, .inl (aN fMM))), (n2, .inl (cI, 16, .inl (aN fFO)))] [(m0, .inr (4, [.ref n0, .ref n1, .ref n2, .int (nI 1), .int (nI dt), .ref e0, .ref e1, .int (nI rt), .ref e2, .ref e3, .ref e4, .int (nI sz9), .int (nI at9), .int (nI fl), .int pl, .int (nI wr), .ref e5])), (n0, .inl (cI, 16, .inl (aN fFI))), (n1, .inl (cI, 16, .inl (aN fMM))), (n2, .inl (cI, 16, .inl (aN fFO)))] sz (True)) 0 0 (va_A [(m0, .inr (4, [.ref n0, .ref n1, .ref n2, .int (nI cd), .int (nI dt), .ref e0, .ref e1, .int (nI rt), .ref e2, .ref e3, .ref e4, .int (nI sz9), .int (nI at9), .int (nI fl), .int pl, .int (nI wr), .ref e5])), (n0, .inl (cI, 16, .inl (aN fFI))), (n1, .inl (cI, 16, .inl (aN fMM))), (n2, .inl (cI, 16, .inl (aN fFO)))] sz) := by
  refine Met.ofW (cc := cM_letters) (maxL := 8) (ret := none) (by decide) rfl ?_
  intro p e s m args below meth c s₁ Bd hml hv
  obtain ⟨rfl, hsz, hG, hP, hK, hD0⟩ := hv
  subst hsz
  have hx := Bd.exec
  have hb := Bd.bytes
  have hr := Bd.returns
  have hts := atoms_spec (ws := wsM_letters) Bd.pre
  have hw : ∀ w ∈ BIG, w.before _ s = true := fun w h => hts w (List.mem_cons_of_mem _ h)
  have hown : s.vm.findClass RM = some m.cls := findClass_of_methodNamed Bd.named
  have hlocks := Bd.notSynchronized
  have hD := hD0.self (sz := s.heap.size)
  obtain ⟨A, hAe⟩ : ∃ A, A = va_A [(m0, .inr (4, [.ref n0, .ref n1, .ref n2, .int (nI cd), .int (nI dt), .ref e0, .ref e1, .int (nI rt), .ref e2, .ref e3, .ref e4, .int (nI sz9), .int (nI at9), .int (nI fl), .int pl, .int (nI wr), .ref e5])), (n0, .inl (cI, 16, .inl (aN fFI))), (n1, .inl (cI, 16, .inl (aN fMM))), (n2, .inl (cI, 16, .inl (aN fFO)))] s.heap.size := ⟨_, rfl⟩
  have hA : ∀ q : Nat, s.heap.size ≤ q → A q := fun q h => by rw [hAe]; exact Or.inr h
  rw [← hAe] at hG hD
  have hS : va_S A s.heap s.heap [] := va_S.rf
  have hl := lv_entry ([.ref m0, .int x9, .long v, .int y9]) (n := 8) (Nat.le_of_ble_eq_true rfl)
  rw [lg_entry_eq]
  generalize (lg_sl ([.ref m0, .int x9, .long v, .int y9]) ++ List.replicate (8 - (lg_sl ([.ref m0, .int x9, .long v, .int y9])).length) Slot.unset).toArray = ls at hl ⊢
  have hl : lv_has ls 8 [(0, .ref m0), (1, .int x9), (2, .long v), (4, .int y9)] := hl
  refine zq_name (fun Q hQ => ?_)
  change W p l e rm_c_Mletters_no1 s m _ below meth c _ _ _ _ Q _
  refine lv_aload_n hx hb dM_letters_0 rfl (lv_at hl 0 rfl) ?_
  refine lv_iload_n hx hb dM_letters_1 rfl (lv_at hl 1 rfl) ?_
  refine zc_Ri (va_runV (As := [.int x9]) (rest := []) ⟨hx, hb, hml, hown, hw⟩ (c_fieldOf_no l dC dI m0 n0 n1 n2 cd dt e0 e1 rt e2 e3 e4 sz9 at9 fl pl wr e5 cI cB x9 hx9 s.heap) (cwV 1 hw (gV w_ml_M_66 w_im_M_fieldOf w_se_M_fieldOf w_in_M w_co_M_fieldOf) rfl rfl rfl (by decide +kernel) ⟨Nat.le_of_ble_eq_true rfl, Nat.le_of_ble_eq_true rfl⟩) (zR_V hG hS (hP.sub (ws' := [(m0, .inr (4, [.ref n0, .ref n1, .ref n2, .int (nI cd), .int (nI dt), .ref e0, .ref e1, .int (nI rt), .ref e2, .ref e3, .ref e4, .int (nI sz9), .int (nI at9), .int (nI fl), .int pl, .int (nI wr), .ref e5])), (n0, .inl (cI, 16, .inl (aN fFI)))]) [0, 1] rfl) hK 0 rfl rfl) rfl rfl hl.1 rfl (lv_room (Nat.le_of_ble_eq_true rfl)) dM_letters_2 ⟨Nat.le_of_ble_eq_true rfl, Nat.le_of_ble_eq_true rfl⟩) hS (fun r_1 locs h_2 hS => ?_)
  subst h_2
  refine lv_istore (lv' := [(5, .int (-1)), (0, .ref m0), (1, .int x9), (2, .long v), (4, .int y9)]) hx hb dM_letters_5 hl (by decide) rfl (fun ls hl => ?_)
  refine lv_iload hx hb dM_letters_7 (lv_at hl 0 rfl) ?_
  refine lv_if_lt (tgt := 27) hx hb dM_letters_9 (by decide) (fun c_9 => ?_) (fun q => False.elim (absurd q (by decide)))
  refine lv_iconst (v := nI 0) hx hb dM_letters_27 (by decide) ?_
  refine lv_istore (lv' := [(6, .int (nI 0)), (5, .int (-1)), (0, .ref m0), (1, .int x9), (2, .long v), (4, .int y9)]) hx hb dM_letters_28 hl (by decide) rfl (fun ls hl => ?_)
  refine lv_iload hx hb dM_letters_30 (lv_at hl 0 rfl) ?_
  refine lv_if_eq (tgt := 71) hx hb dM_letters_32 (by decide) (fun c_32 => ?_) (fun q => False.elim (absurd q (by decide)))
  refine lv_iconst (v := nI 0) hx hb dM_letters_71 (by decide) ?_
  refine lv_istore (lv' := [(6, .int (nI 0)), (5, .int (-1)), (0, .ref m0), (1, .int x9), (2, .long v), (4, .int y9)]) hx hb dM_letters_72 hl (by decide) rfl (fun ls hl => ?_)
  refine lv_aload_n hx hb dM_letters_74 rfl (lv_at hl 2 rfl) ?_
  refine lv_iload hx hb dM_letters_75 (lv_at hl 0 rfl) ?_
  have hPc := hP.sub (ws' := [(m0, .inr (4, [.ref n0, .ref n1, .ref n2, .int (nI cd), .int (nI dt), .ref e0, .ref e1, .int (nI rt), .ref e2, .ref e3, .ref e4, .int (nI sz9), .int (nI at9), .int (nI fl), .int pl, .int (nI wr), .ref e5]))]) [0] rfl
  have hDc := hD.sub (ws' := [(m0, .inr (4, [.ref n0, .ref n1, .ref n2, .int (nI cd), .int (nI dt), .ref e0, .ref e1, .int (nI rt), .ref e2, .ref e3, .ref e4, .int (nI sz9), .int (nI at9), .int (nI fl), .int pl, .int (nI wr), .ref e5]))]) [0] (by decide) rfl
  have hFc := va_free (wc := [(m0, .inr (4, [.ref n0, .ref n1, .ref n2, .int (nI cd), .int (nI dt), .ref e0, .ref e1, .int (nI rt), .ref e2, .ref e3, .ref e4, .int (nI sz9), .int (nI at9), .int (nI fl), .int pl, .int (nI wr), .ref e5]))]) hD hS hA [0] rfl
  refine zc_Mi (va_runV (As := [.int (nI 0)]) (rest := []) ⟨hx, hb, hml, hown, hw⟩ (c_goes_0 l dC dI m0 n0 n1 n2 cd dt e0 e1 rt e2 e3 e4 sz9 at9 fl pl wr e5 cI cB s.heap.size) (cwV 1 hw (gV w_ml_M_50 w_im_M_goes w_se_M_goes w_in_M w_co_M_goes) rfl rfl rfl (by decide +kernel) ⟨Nat.le_of_ble_eq_true rfl, Nat.le_of_ble_eq_true rfl⟩) (zM_V hG hS hFc hPc hDc hK 0 rfl rfl) rfl rfl hl.1 rfl (lv_room (Nat.le_of_ble_eq_true rfl)) dM_letters_77 ⟨Nat.le_of_ble_eq_true rfl, Nat.le_of_ble_eq_true rfl⟩) hS hFc (fun r_2 H locs h_77 hP1 hD1 hk1 hS => ?_)
  obtain ⟨hP, hD⟩ := va_join (wr := [(n0, .inl (cI, 16, .inl (aN fFI))), (n1, .inl (cI, 16, .inl (aN fMM))), (n2, .inl (cI, 16, .inl (aN fFO)))]) (w1 := [(m0, .inr (4, [.ref n0, .ref n1, .ref n2, .int (nI 1), .int (nI dt), .ref e0, .ref e1, .int (nI rt), .ref e2, .ref e3, .ref e4, .int (nI sz9), .int (nI at9), .int (nI fl), .int pl, .int (nI wr), .ref e5]))]) hP hD [0] [1, 2, 3] rfl rfl (by decide) (by decide) hk1 hFc hP1 hD1
  have hP : va_P (dC, dI) vwCl [(n0, .inl (cI, 16, .inl (aN fFI))), (n1, .inl (cI, 16, .inl (aN fMM))), (n2, .inl (cI, 16, .inl (aN fFO))), (m0, .inr (4, [.ref n0, .ref n1, .ref n2, .int (nI 1), .int (nI dt), .ref e0, .ref e1, .int (nI rt), .ref e2, .ref e3, .ref e4, .int (nI sz9), .int (nI at9), .int (nI fl), .int pl, .int (nI wr), .ref e5]))] H := hP
  have hD : va_D A [(n0, .inl (cI, 16, .inl (aN fFI))), (n1, .inl (cI, 16, .inl (aN fMM))), (n2, .inl (cI, 16, .inl (aN fFO))), (m0, .inr (4, [.ref n0, .ref n1, .ref n2, .int (nI 1), .int (nI dt), .ref e0, .ref e1, .int (nI rt), .ref e2, .ref e3, .ref e4, .int (nI sz9), .int (nI at9), .int (nI fl), .int pl, .int (nI wr), .ref e5]))] := hD
  subst h_77
  refine lv_if_eq (tgt := 161) hx hb dM_letters_80 (by decide) (fun c_80 => ?_) (fun q => False.elim (absurd q (by decide)))
  subst hAe
  subst hQ
  exact W.vret hx hb hr (fun t ht hW => ⟨⟨(), rfl, trivial, by rw [ht]; exact hP.sub [3, 0, 1, 2] rfl, hD.sub [3, 0, 1, 2] (by decide) rfl⟩, hS.F ht⟩) hS.2.2 dM_letters_161
def rm_c_Mletters_no2 : Room := ({ frames := 1, cells := 0, slots := 0, locals := 23 } : Room)
set_option maxHeartbeats 4000000 in
set_option maxRecDepth 100000 in
theorem c_Mletters_no2 (l : Launch) (dC : Nat → ClassId) (dI : Nat → Nat → Nat) (m0 : Nat) (n0 : Nat) (n1 : Nat) (n2 : Nat) (cd : Nat) (dt : Nat) (e0 : Nat) (e1 : Nat) (rt : Nat) (e2 : Nat) (e3 : Nat) (e4 : Nat) (sz9 : Nat) (at9 : Nat) (fl : Nat) (pl : Int32) (wr : Nat) (e5 : Nat) (cI : ClassId) (cB : ClassId) (k : Nat) (v : Int64) (y9 : Int32) (hk : k < 16) (hh : fHL k = 0) (sz : Nat) : Met l yM_letters wsM_letters rm_c_Mletters_no2 (zM (dC, dI) [(cI, .int), (cB, .byte)] [.ref m0, .int (nI (fFI k)), .long v, .int y9] [(m0, .inr (4, [.ref n0, .ref n1, .ref n2, .int (nI cd), .int (nI dt), .ref e0, .ref e1, .int (nI rt), .ref e2, .ref e3, .ref e4, .int (nI sz9), .int (nI at9), .int (nI fl), .int pl, .int (nI wr), .ref e5])), (n0, .inl (cI, 16, .inl (aN fFI))), (n1, .inl (cI, 16, .inl (aN fMM))), (n2, .inl (cI, 16, .inl (aN fFO)))] sz) (zMv (dC, dI) [(m0, .inr (4, [.ref n0, .ref n1, .ref n2, .int (nI cd), .int (nI dt), .ref e0, .ref e1, .int (nI rt), .ref e2, .ref e3, .ref e4, .int (nI sz9), .int (nI at9), .int (nI fl), .int pl, .int (nI wr), .ref e5])), (n0, .inl (cI, 16, .inl (aN fFI))), (n1, .inl (cI, 16, .inl (aN fMM))), (n2, .inl (cI, 16, .inl (aN fFO)))] [(m0, .inr (4, [.ref n0, .ref n1, .ref n2, .int (nI 1), .int (nI dt), .ref e0, .ref e1, .int (nI rt), .ref e2, .ref e3, .ref e4, .int (nI sz9), .int (nI at9), .int (nI fl), .int pl, .int (nI wr), .ref e5])), (n0, .inl (cI, 16, .inl (aN fFI))), (n1, .inl (cI, 16, .inl (aN fMM))), (n2, .inl (cI, 16, .inl (aN fFO)))] sz (True)) 0 0 (va_A [(m0, .inr (4, [.ref n0, .ref n1, .ref n2, .int (nI cd), .int (nI dt), .ref e0, .ref e1, .int (nI rt), .ref e2, .ref e3, .ref e4, .int (nI sz9), .int (nI at9), .int (nI fl), .int pl, .int (nI wr), .ref e5])), (n0, .inl (cI, 16, .inl (aN fFI))), (n1, .inl (cI, 16, .inl (aN fMM))), (n2, .inl (cI, 16, .inl (aN fFO)))] sz) := by
  refine Met.ofW (cc := cM_letters) (maxL := 8) (ret := none) (by decide) rfl ?_
  intro p e s m args below meth c s₁ Bd hml hv
  obtain ⟨rfl, hsz, hG, hP, hK, hD0⟩ := hv
  subst hsz
  have hx := Bd.exec
  have hb := Bd.bytes
  have hr := Bd.returns
  have hts := atoms_spec (ws := wsM_letters) Bd.pre
  have hw : ∀ w ∈ BIG, w.before _ s = true := fun w h => hts w (List.mem_cons_of_mem _ h)
  have hown : s.vm.findClass RM = some m.cls := findClass_of_methodNamed Bd.named
  have hlocks := Bd.notSynchronized
  have hD := hD0.self (sz := s.heap.size)
  obtain ⟨A, hAe⟩ : ∃ A, A = va_A [(m0, .inr (4, [.ref n0, .ref n1, .ref n2, .int (nI cd), .int (nI dt), .ref e0, .ref e1, .int (nI rt), .ref e2, .ref e3, .ref e4, .int (nI sz9), .int (nI at9), .int (nI fl), .int pl, .int (nI wr), .ref e5])), (n0, .inl (cI, 16, .inl (aN fFI))), (n1, .inl (cI, 16, .inl (aN fMM))), (n2, .inl (cI, 16, .inl (aN fFO)))] s.heap.size := ⟨_, rfl⟩
  have hA : ∀ q : Nat, s.heap.size ≤ q → A q := fun q h => by rw [hAe]; exact Or.inr h
  rw [← hAe] at hG hD
  have hS : va_S A s.heap s.heap [] := va_S.rf
  have hl := lv_entry ([.ref m0, .int (nI (fFI k)), .long v, .int y9]) (n := 8) (Nat.le_of_ble_eq_true rfl)
  rw [lg_entry_eq]
  generalize (lg_sl ([.ref m0, .int (nI (fFI k)), .long v, .int y9]) ++ List.replicate (8 - (lg_sl ([.ref m0, .int (nI (fFI k)), .long v, .int y9])).length) Slot.unset).toArray = ls at hl ⊢
  have hl : lv_has ls 8 [(0, .ref m0), (1, .int (nI (fFI k))), (2, .long v), (4, .int y9)] := hl
  refine zq_name (fun Q hQ => ?_)
  change W p l e rm_c_Mletters_no2 s m _ below meth c _ _ _ _ Q _
  obtain ⟨ho1, ho2, ho3, ho4, ho5⟩ := fFO_b k hk
  have hmm := fMM_b k hk
  have hcd := fCD_b k hk
  refine lv_aload_n hx hb dM_letters_0 rfl (lv_at hl 0 rfl) ?_
  refine lv_iload_n hx hb dM_letters_1 rfl (lv_at hl 1 rfl) ?_
  refine zc_Ri (va_runV (As := [.int (nI (fFI k))]) (rest := []) ⟨hx, hb, hml, hown, hw⟩ (c_fieldOf_ok l dC dI m0 n0 n1 n2 cd dt e0 e1 rt e2 e3 e4 sz9 at9 fl pl wr e5 cI cB k (by omega) s.heap) (cwV 1 hw (gV w_ml_M_66 w_im_M_fieldOf w_se_M_fieldOf w_in_M w_co_M_fieldOf) rfl rfl rfl (by decide +kernel) ⟨Nat.le_of_ble_eq_true rfl, Nat.le_of_ble_eq_true rfl⟩) (zR_V hG hS (hP.sub (ws' := [(m0, .inr (4, [.ref n0, .ref n1, .ref n2, .int (nI cd), .int (nI dt), .ref e0, .ref e1, .int (nI rt), .ref e2, .ref e3, .ref e4, .int (nI sz9), .int (nI at9), .int (nI fl), .int pl, .int (nI wr), .ref e5])), (n0, .inl (cI, 16, .inl (aN fFI)))]) [0, 1] rfl) hK 0 rfl rfl) rfl rfl hl.1 rfl (lv_room (Nat.le_of_ble_eq_true rfl)) dM_letters_2 ⟨Nat.le_of_ble_eq_true rfl, Nat.le_of_ble_eq_true rfl⟩) hS (fun r_1 locs h_2 hS => ?_)
  subst h_2
  refine lv_istore (lv' := [(5, .int (nI k)), (0, .ref m0), (1, .int (nI (fFI k))), (2, .long v), (4, .int y9)]) hx hb dM_letters_5 hl (by decide) rfl (fun ls hl => ?_)
  refine lv_iload hx hb dM_letters_7 (lv_at hl 0 rfl) ?_
  refine zi_lt0 (tgt := 27) hx hb (by omega) dM_letters_9 (by decide) ?_
  refine lv_aload_n hx hb dM_letters_12 rfl (lv_at hl 1 rfl) ?_
  refine va_get (D := (dC, dI)) (ci := 4) (v := .ref n2) (C := RM) (T := TM) (N := 17) hx hb hw inM hown hK hP 0 rfl rfl 2 (by decide) (hw _ w_fl_M_16) (fun _ h9 => h9) rfl dM_letters_13 ?_
  refine lv_iload hx hb dM_letters_16 (lv_at hl 0 rfl) ?_
  refine za_ild hx hb hK hP 3 0 rfl rfl (by omega) (by decide) dM_letters_18 ?_
  refine lv_iconst (v := nI 1) hx hb dM_letters_19 (by decide) ?_
  refine zi_le (tgt := 27) hx hb (by omega) (by omega) dM_letters_20 (by decide) (fun c_20 => ?_) (fun q => False.elim ((by have h9 := ho2.mpr hh; omega)))
  refine lv_iconst (v := nI 0) hx hb dM_letters_27 (by decide) ?_
  refine lv_istore (lv' := [(6, .int (nI 0)), (5, .int (nI k)), (0, .ref m0), (1, .int (nI (fFI k))), (2, .long v), (4, .int y9)]) hx hb dM_letters_28 hl (by decide) rfl (fun ls hl => ?_)
  refine lv_iload hx hb dM_letters_30 (lv_at hl 0 rfl) ?_
  refine lv_if_eq (tgt := 71) hx hb dM_letters_32 (by decide) (fun c_32 => ?_) (fun q => False.elim (absurd q (by decide)))
  refine lv_iconst (v := nI 0) hx hb dM_letters_71 (by decide) ?_
  refine lv_istore (lv' := [(6, .int (nI 0)), (5, .int (nI k)), (0, .ref m0), (1, .int (nI (fFI k))), (2, .long v), (4, .int y9)]) hx hb dM_letters_72 hl (by decide) rfl (fun ls hl => ?_)
  refine lv_aload_n hx hb dM_letters_74 rfl (lv_at hl 2 rfl) ?_
  refine lv_iload hx hb dM_letters_75 (lv_at hl 0 rfl) ?_
  have hPc := hP.sub (ws' := [(m0, .inr (4, [.ref n0, .ref n1, .ref n2, .int (nI cd), .int (nI dt), .ref e0, .ref e1, .int (nI rt), .ref e2, .ref e3, .ref e4, .int (nI sz9), .int (nI at9), .int (nI fl), .int pl, .int (nI wr), .ref e5]))]) [0] rfl
  have hDc := hD.sub (ws' := [(m0, .inr (4, [.ref n0, .ref n1, .ref n2, .int (nI cd), .int (nI dt), .ref e0, .ref e1, .int (nI rt), .ref e2, .ref e3, .ref e4, .int (nI sz9), .int (nI at9), .int (nI fl), .int pl, .int (nI wr), .ref e5]))]) [0] (by decide) rfl
  have hFc := va_free (wc := [(m0, .inr (4, [.ref n0, .ref n1, .ref n2, .int (nI cd), .int (nI dt), .ref e0, .ref e1, .int (nI rt), .ref e2, .ref e3, .ref e4, .int (nI sz9), .int (nI at9), .int (nI fl), .int pl, .int (nI wr), .ref e5]))]) hD hS hA [0] rfl
  refine zc_Mi (va_runV (As := [.int (nI 0)]) (rest := []) ⟨hx, hb, hml, hown, hw⟩ (c_goes_0 l dC dI m0 n0 n1 n2 cd dt e0 e1 rt e2 e3 e4 sz9 at9 fl pl wr e5 cI cB s.heap.size) (cwV 1 hw (gV w_ml_M_50 w_im_M_goes w_se_M_goes w_in_M w_co_M_goes) rfl rfl rfl (by decide +kernel) ⟨Nat.le_of_ble_eq_true rfl, Nat.le_of_ble_eq_true rfl⟩) (zM_V hG hS hFc hPc hDc hK 0 rfl rfl) rfl rfl hl.1 rfl (lv_room (Nat.le_of_ble_eq_true rfl)) dM_letters_77 ⟨Nat.le_of_ble_eq_true rfl, Nat.le_of_ble_eq_true rfl⟩) hS hFc (fun r_2 H locs h_77 hP1 hD1 hk1 hS => ?_)
  obtain ⟨hP, hD⟩ := va_join (wr := [(n0, .inl (cI, 16, .inl (aN fFI))), (n1, .inl (cI, 16, .inl (aN fMM))), (n2, .inl (cI, 16, .inl (aN fFO)))]) (w1 := [(m0, .inr (4, [.ref n0, .ref n1, .ref n2, .int (nI 1), .int (nI dt), .ref e0, .ref e1, .int (nI rt), .ref e2, .ref e3, .ref e4, .int (nI sz9), .int (nI at9), .int (nI fl), .int pl, .int (nI wr), .ref e5]))]) hP hD [0] [1, 2, 3] rfl rfl (by decide) (by decide) hk1 hFc hP1 hD1
  have hP : va_P (dC, dI) vwCl [(n0, .inl (cI, 16, .inl (aN fFI))), (n1, .inl (cI, 16, .inl (aN fMM))), (n2, .inl (cI, 16, .inl (aN fFO))), (m0, .inr (4, [.ref n0, .ref n1, .ref n2, .int (nI 1), .int (nI dt), .ref e0, .ref e1, .int (nI rt), .ref e2, .ref e3, .ref e4, .int (nI sz9), .int (nI at9), .int (nI fl), .int pl, .int (nI wr), .ref e5]))] H := hP
  have hD : va_D A [(n0, .inl (cI, 16, .inl (aN fFI))), (n1, .inl (cI, 16, .inl (aN fMM))), (n2, .inl (cI, 16, .inl (aN fFO))), (m0, .inr (4, [.ref n0, .ref n1, .ref n2, .int (nI 1), .int (nI dt), .ref e0, .ref e1, .int (nI rt), .ref e2, .ref e3, .ref e4, .int (nI sz9), .int (nI at9), .int (nI fl), .int pl, .int (nI wr), .ref e5]))] := hD
  subst h_77
  refine lv_if_eq (tgt := 161) hx hb dM_letters_80 (by decide) (fun c_80 => ?_) (fun q => False.elim (absurd q (by decide)))
  subst hAe
  subst hQ
  exact W.vret hx hb hr (fun t ht hW => ⟨⟨(), rfl, trivial, by rw [ht]; exact hP.sub [3, 0, 1, 2] rfl, hD.sub [3, 0, 1, 2] (by decide) rfl⟩, hS.F ht⟩) hS.2.2 dM_letters_161
def rm_c_Mletters_no3 : Room := ({ frames := 1, cells := 0, slots := 0, locals := 23 } : Room)
set_option maxHeartbeats 4000000 in
set_option maxRecDepth 100000 in
theorem c_Mletters_no3 (l : Launch) (dC : Nat → ClassId) (dI : Nat → Nat → Nat) (m0 : Nat) (n0 : Nat) (n1 : Nat) (n2 : Nat) (cd : Nat) (dt : Nat) (e0 : Nat) (e1 : Nat) (rt : Nat) (e2 : Nat) (e3 : Nat) (e4 : Nat) (sz9 : Nat) (at9 : Nat) (fl : Nat) (pl : Int32) (wr : Nat) (e5 : Nat) (cI : ClassId) (cB : ClassId) (k : Nat) (v : Int64) (y9 : Int32) (hk : k < 16) (hh : fHL k ≠ 0) (hy : (fCD k = 0 ∧ y9 ≠ 0) ∨ (fCD k ≠ 0 ∧ (y9 < nI 1 ∨ nI 40 < y9))) (sz : Nat) : Met l yM_letters wsM_letters rm_c_Mletters_no3 (zM (dC, dI) [(cI, .int), (cB, .byte)] [.ref m0, .int (nI (fFI k)), .long v, .int y9] [(m0, .inr (4, [.ref n0, .ref n1, .ref n2, .int (nI cd), .int (nI dt), .ref e0, .ref e1, .int (nI rt), .ref e2, .ref e3, .ref e4, .int (nI sz9), .int (nI at9), .int (nI fl), .int pl, .int (nI wr), .ref e5])), (n0, .inl (cI, 16, .inl (aN fFI))), (n1, .inl (cI, 16, .inl (aN fMM))), (n2, .inl (cI, 16, .inl (aN fFO)))] sz) (zMv (dC, dI) [(m0, .inr (4, [.ref n0, .ref n1, .ref n2, .int (nI cd), .int (nI dt), .ref e0, .ref e1, .int (nI rt), .ref e2, .ref e3, .ref e4, .int (nI sz9), .int (nI at9), .int (nI fl), .int pl, .int (nI wr), .ref e5])), (n0, .inl (cI, 16, .inl (aN fFI))), (n1, .inl (cI, 16, .inl (aN fMM))), (n2, .inl (cI, 16, .inl (aN fFO)))] [(m0, .inr (4, [.ref n0, .ref n1, .ref n2, .int (nI 1), .int (nI dt), .ref e0, .ref e1, .int (nI rt), .ref e2, .ref e3, .ref e4, .int (nI sz9), .int (nI at9), .int (nI fl), .int pl, .int (nI wr), .ref e5])), (n0, .inl (cI, 16, .inl (aN fFI))), (n1, .inl (cI, 16, .inl (aN fMM))), (n2, .inl (cI, 16, .inl (aN fFO)))] sz (True)) 0 0 (va_A [(m0, .inr (4, [.ref n0, .ref n1, .ref n2, .int (nI cd), .int (nI dt), .ref e0, .ref e1, .int (nI rt), .ref e2, .ref e3, .ref e4, .int (nI sz9), .int (nI at9), .int (nI fl), .int pl, .int (nI wr), .ref e5])), (n0, .inl (cI, 16, .inl (aN fFI))), (n1, .inl (cI, 16, .inl (aN fMM))), (n2, .inl (cI, 16, .inl (aN fFO)))] sz) := by
  refine Met.ofW (cc := cM_letters) (maxL := 8) (ret := none) (by decide) rfl ?_
  intro p e s m args below meth c s₁ Bd hml hv
  obtain ⟨rfl, hsz, hG, hP, hK, hD0⟩ := hv
  subst hsz
  have hx := Bd.exec
  have hb := Bd.bytes
  have hr := Bd.returns
  have hts := atoms_spec (ws := wsM_letters) Bd.pre
  have hw : ∀ w ∈ BIG, w.before _ s = true := fun w h => hts w (List.mem_cons_of_mem _ h)
  have hown : s.vm.findClass RM = some m.cls := findClass_of_methodNamed Bd.named
  have hlocks := Bd.notSynchronized
  have hD := hD0.self (sz := s.heap.size)
  obtain ⟨A, hAe⟩ : ∃ A, A = va_A [(m0, .inr (4, [.ref n0, .ref n1, .ref n2, .int (nI cd), .int (nI dt), .ref e0, .ref e1, .int (nI rt), .ref e2, .ref e3, .ref e4, .int (nI sz9), .int (nI at9), .int (nI fl), .int pl, .int (nI wr), .ref e5])), (n0, .inl (cI, 16, .inl (aN fFI))), (n1, .inl (cI, 16, .inl (aN fMM))), (n2, .inl (cI, 16, .inl (aN fFO)))] s.heap.size := ⟨_, rfl⟩
  have hA : ∀ q : Nat, s.heap.size ≤ q → A q := fun q h => by rw [hAe]; exact Or.inr h
  rw [← hAe] at hG hD
  have hS : va_S A s.heap s.heap [] := va_S.rf
  have hl := lv_entry ([.ref m0, .int (nI (fFI k)), .long v, .int y9]) (n := 8) (Nat.le_of_ble_eq_true rfl)
  rw [lg_entry_eq]
  generalize (lg_sl ([.ref m0, .int (nI (fFI k)), .long v, .int y9]) ++ List.replicate (8 - (lg_sl ([.ref m0, .int (nI (fFI k)), .long v, .int y9])).length) Slot.unset).toArray = ls at hl ⊢
  have hl : lv_has ls 8 [(0, .ref m0), (1, .int (nI (fFI k))), (2, .long v), (4, .int y9)] := hl
  refine zq_name (fun Q hQ => ?_)
  change W p l e rm_c_Mletters_no3 s m _ below meth c _ _ _ _ Q _
  obtain ⟨ho1, ho2, ho3, ho4, ho5⟩ := fFO_b k hk
  have hmm := fMM_b k hk
  have hcd := fCD_b k hk
  refine lv_aload_n hx hb dM_letters_0 rfl (lv_at hl 0 rfl) ?_
  refine lv_iload_n hx hb dM_letters_1 rfl (lv_at hl 1 rfl) ?_
  refine zc_Ri (va_runV (As := [.int (nI (fFI k))]) (rest := []) ⟨hx, hb, hml, hown, hw⟩ (c_fieldOf_ok l dC dI m0 n0 n1 n2 cd dt e0 e1 rt e2 e3 e4 sz9 at9 fl pl wr e5 cI cB k (by omega) s.heap) (cwV 1 hw (gV w_ml_M_66 w_im_M_fieldOf w_se_M_fieldOf w_in_M w_co_M_fieldOf) rfl rfl rfl (by decide +kernel) ⟨Nat.le_of_ble_eq_true rfl, Nat.le_of_ble_eq_true rfl⟩) (zR_V hG hS (hP.sub (ws' := [(m0, .inr (4, [.ref n0, .ref n1, .ref n2, .int (nI cd), .int (nI dt), .ref e0, .ref e1, .int (nI rt), .ref e2, .ref e3, .ref e4, .int (nI sz9), .int (nI at9), .int (nI fl), .int pl, .int (nI wr), .ref e5])), (n0, .inl (cI, 16, .inl (aN fFI)))]) [0, 1] rfl) hK 0 rfl rfl) rfl rfl hl.1 rfl (lv_room (Nat.le_of_ble_eq_true rfl)) dM_letters_2 ⟨Nat.le_of_ble_eq_true rfl, Nat.le_of_ble_eq_true rfl⟩) hS (fun r_1 locs h_2 hS => ?_)
  subst h_2
  refine lv_istore (lv' := [(5, .int (nI k)), (0, .ref m0), (1, .int (nI (fFI k))), (2, .long v), (4, .int y9)]) hx hb dM_letters_5 hl (by decide) rfl (fun ls hl => ?_)
  refine lv_iload hx hb dM_letters_7 (lv_at hl 0 rfl) ?_
  refine zi_lt0 (tgt := 27) hx hb (by omega) dM_letters_9 (by decide) ?_
  refine lv_aload_n hx hb dM_letters_12 rfl (lv_at hl 1 rfl) ?_
  refine va_get (D := (dC, dI)) (ci := 4) (v := .ref n2) (C := RM) (T := TM) (N := 17) hx hb hw inM hown hK hP 0 rfl rfl 2 (by decide) (hw _ w_fl_M_16) (fun _ h9 => h9) rfl dM_letters_13 ?_
  refine lv_iload hx hb dM_letters_16 (lv_at hl 0 rfl) ?_
  refine za_ild hx hb hK hP 3 0 rfl rfl (by omega) (by decide) dM_letters_18 ?_
  refine lv_iconst (v := nI 1) hx hb dM_letters_19 (by decide) ?_
  refine zi_le (tgt := 27) hx hb (by omega) (by omega) dM_letters_20 (by decide) (fun q => False.elim ((by have h9 := mt ho2.mp hh; omega))) (fun c_20 => ?_)
  refine lv_iconst (v := nI 1) hx hb dM_letters_23 (by decide) ?_
  refine lv_goto (tgt := 28) hx hb dM_letters_24 (by decide) ?_
  refine lv_istore (lv' := [(6, .int (nI 1)), (5, .int (nI k)), (0, .ref m0), (1, .int (nI (fFI k))), (2, .long v), (4, .int y9)]) hx hb dM_letters_28 hl (by decide) rfl (fun ls hl => ?_)
  refine lv_iload hx hb dM_letters_30 (lv_at hl 0 rfl) ?_
  refine lv_if_eq (tgt := 71) hx hb dM_letters_32 (by decide) (fun q => False.elim (absurd q (by decide))) (fun c_32 => ?_)
  refine lv_aload_n hx hb dM_letters_35 rfl (lv_at hl 2 rfl) ?_
  refine va_get (D := (dC, dI)) (ci := 4) (v := .ref n2) (C := RM) (T := TM) (N := 17) hx hb hw inM hown hK hP 0 rfl rfl 2 (by decide) (hw _ w_fl_M_16) (fun _ h9 => h9) rfl dM_letters_36 ?_
  refine lv_iload hx hb dM_letters_39 (lv_at hl 1 rfl) ?_
  refine za_ild hx hb hK hP 3 0 rfl rfl (by omega) (by decide) dM_letters_41 ?_
  refine lv_iconst (v := nI 3) hx hb dM_letters_42 (by decide) ?_
  refine zi_ne (tgt := 62) hx hb (by omega) (by omega) dM_letters_43 (by decide) (fun c_43 => ?_) (fun c_43 => ?_)
  · refine lv_iload hx hb dM_letters_62 (lv_at hl 5 rfl) ?_
    refine lv_if_ne (tgt := 71) hx hb dM_letters_64 (by decide) (fun c_64 => ?_) (fun q => False.elim ((by rcases hy with ⟨h1, h2⟩ | ⟨h1, h2⟩; exact h2 q; exact c_43 (ho4.mpr ⟨hh, h1⟩))))
    refine lv_iconst (v := nI 0) hx hb dM_letters_71 (by decide) ?_
    refine lv_istore (lv' := [(6, .int (nI 0)), (5, .int (nI k)), (0, .ref m0), (1, .int (nI (fFI k))), (2, .long v), (4, .int y9)]) hx hb dM_letters_72 hl (by decide) rfl (fun ls hl => ?_)
    refine lv_aload_n hx hb dM_letters_74 rfl (lv_at hl 2 rfl) ?_
    refine lv_iload hx hb dM_letters_75 (lv_at hl 0 rfl) ?_
    have hPc := hP.sub (ws' := [(m0, .inr (4, [.ref n0, .ref n1, .ref n2, .int (nI cd), .int (nI dt), .ref e0, .ref e1, .int (nI rt), .ref e2, .ref e3, .ref e4, .int (nI sz9), .int (nI at9), .int (nI fl), .int pl, .int (nI wr), .ref e5]))]) [0] rfl
    have hDc := hD.sub (ws' := [(m0, .inr (4, [.ref n0, .ref n1, .ref n2, .int (nI cd), .int (nI dt), .ref e0, .ref e1, .int (nI rt), .ref e2, .ref e3, .ref e4, .int (nI sz9), .int (nI at9), .int (nI fl), .int pl, .int (nI wr), .ref e5]))]) [0] (by decide) rfl
    have hFc := va_free (wc := [(m0, .inr (4, [.ref n0, .ref n1, .ref n2, .int (nI cd), .int (nI dt), .ref e0, .ref e1, .int (nI rt), .ref e2, .ref e3, .ref e4, .int (nI sz9), .int (nI at9), .int (nI fl), .int pl, .int (nI wr), .ref e5]))]) hD hS hA [0] rfl
    refine zc_Mi (va_runV (As := [.int (nI 0)]) (rest := []) ⟨hx, hb, hml, hown, hw⟩ (c_goes_0 l dC dI m0 n0 n1 n2 cd dt e0 e1 rt e2 e3 e4 sz9 at9 fl pl wr e5 cI cB s.heap.size) (cwV 1 hw (gV w_ml_M_50 w_im_M_goes w_se_M_goes w_in_M w_co_M_goes) rfl rfl rfl (by decide +kernel) ⟨Nat.le_of_ble_eq_true rfl, Nat.le_of_ble_eq_true rfl⟩) (zM_V hG hS hFc hPc hDc hK 0 rfl rfl) rfl rfl hl.1 rfl (lv_room (Nat.le_of_ble_eq_true rfl)) dM_letters_77 ⟨Nat.le_of_ble_eq_true rfl, Nat.le_of_ble_eq_true rfl⟩) hS hFc (fun r_2 H locs h_77 hP1 hD1 hk1 hS => ?_)
    obtain ⟨hP, hD⟩ := va_join (wr := [(n0, .inl (cI, 16, .inl (aN fFI))), (n1, .inl (cI, 16, .inl (aN fMM))), (n2, .inl (cI, 16, .inl (aN fFO)))]) (w1 := [(m0, .inr (4, [.ref n0, .ref n1, .ref n2, .int (nI 1), .int (nI dt), .ref e0, .ref e1, .int (nI rt), .ref e2, .ref e3, .ref e4, .int (nI sz9), .int (nI at9), .int (nI fl), .int pl, .int (nI wr), .ref e5]))]) hP hD [0] [1, 2, 3] rfl rfl (by decide) (by decide) hk1 hFc hP1 hD1
    have hP : va_P (dC, dI) vwCl [(n0, .inl (cI, 16, .inl (aN fFI))), (n1, .inl (cI, 16, .inl (aN fMM))), (n2, .inl (cI, 16, .inl (aN fFO))), (m0, .inr (4, [.ref n0, .ref n1, .ref n2, .int (nI 1), .int (nI dt), .ref e0, .ref e1, .int (nI rt), .ref e2, .ref e3, .ref e4, .int (nI sz9), .int (nI at9), .int (nI fl), .int pl, .int (nI wr), .ref e5]))] H := hP
    have hD : va_D A [(n0, .inl (cI, 16, .inl (aN fFI))), (n1, .inl (cI, 16, .inl (aN fMM))), (n2, .inl (cI, 16, .inl (aN fFO))), (m0, .inr (4, [.ref n0, .ref n1, .ref n2, .int (nI 1), .int (nI dt), .ref e0, .ref e1, .int (nI rt), .ref e2, .ref e3, .ref e4, .int (nI sz9), .int (nI at9), .int (nI fl), .int pl, .int (nI wr), .ref e5]))] := hD
    subst h_77
    refine lv_if_eq (tgt := 161) hx hb dM_letters_80 (by decide) (fun c_80 => ?_) (fun q => False.elim (absurd q (by decide)))
    subst hAe
    subst hQ
    exact W.vret hx hb hr (fun t ht hW => ⟨⟨(), rfl, trivial, by rw [ht]; exact hP.sub [3, 0, 1, 2] rfl, hD.sub [3, 0, 1, 2] (by decide) rfl⟩, hS.F ht⟩) hS.2.2 dM_letters_161
  · refine lv_iload hx hb dM_letters_46 (lv_at hl 5 rfl) ?_
    refine lv_iconst (v := nI 1) hx hb dM_letters_48 (by decide) ?_
    refine lv_icmp_lt (tgt := 71) hx hb dM_letters_49 (by decide) (fun c_49 => ?_) (fun c_49 => ?_)
    · refine lv_iconst (v := nI 0) hx hb dM_letters_71 (by decide) ?_
      refine lv_istore (lv' := [(6, .int (nI 0)), (5, .int (nI k)), (0, .ref m0), (1, .int (nI (fFI k))), (2, .long v), (4, .int y9)]) hx hb dM_letters_72 hl (by decide) rfl (fun ls hl => ?_)
      refine lv_aload_n hx hb dM_letters_74 rfl (lv_at hl 2 rfl) ?_
      refine lv_iload hx hb dM_letters_75 (lv_at hl 0 rfl) ?_
      have hPc := hP.sub (ws' := [(m0, .inr (4, [.ref n0, .ref n1, .ref n2, .int (nI cd), .int (nI dt), .ref e0, .ref e1, .int (nI rt), .ref e2, .ref e3, .ref e4, .int (nI sz9), .int (nI at9), .int (nI fl), .int pl, .int (nI wr), .ref e5]))]) [0] rfl
      have hDc := hD.sub (ws' := [(m0, .inr (4, [.ref n0, .ref n1, .ref n2, .int (nI cd), .int (nI dt), .ref e0, .ref e1, .int (nI rt), .ref e2, .ref e3, .ref e4, .int (nI sz9), .int (nI at9), .int (nI fl), .int pl, .int (nI wr), .ref e5]))]) [0] (by decide) rfl
      have hFc := va_free (wc := [(m0, .inr (4, [.ref n0, .ref n1, .ref n2, .int (nI cd), .int (nI dt), .ref e0, .ref e1, .int (nI rt), .ref e2, .ref e3, .ref e4, .int (nI sz9), .int (nI at9), .int (nI fl), .int pl, .int (nI wr), .ref e5]))]) hD hS hA [0] rfl
      refine zc_Mi (va_runV (As := [.int (nI 0)]) (rest := []) ⟨hx, hb, hml, hown, hw⟩ (c_goes_0 l dC dI m0 n0 n1 n2 cd dt e0 e1 rt e2 e3 e4 sz9 at9 fl pl wr e5 cI cB s.heap.size) (cwV 1 hw (gV w_ml_M_50 w_im_M_goes w_se_M_goes w_in_M w_co_M_goes) rfl rfl rfl (by decide +kernel) ⟨Nat.le_of_ble_eq_true rfl, Nat.le_of_ble_eq_true rfl⟩) (zM_V hG hS hFc hPc hDc hK 0 rfl rfl) rfl rfl hl.1 rfl (lv_room (Nat.le_of_ble_eq_true rfl)) dM_letters_77 ⟨Nat.le_of_ble_eq_true rfl, Nat.le_of_ble_eq_true rfl⟩) hS hFc (fun r_3 H locs h_77 hP1 hD1 hk1 hS => ?_)
      obtain ⟨hP, hD⟩ := va_join (wr := [(n0, .inl (cI, 16, .inl (aN fFI))), (n1, .inl (cI, 16, .inl (aN fMM))), (n2, .inl (cI, 16, .inl (aN fFO)))]) (w1 := [(m0, .inr (4, [.ref n0, .ref n1, .ref n2, .int (nI 1), .int (nI dt), .ref e0, .ref e1, .int (nI rt), .ref e2, .ref e3, .ref e4, .int (nI sz9), .int (nI at9), .int (nI fl), .int pl, .int (nI wr), .ref e5]))]) hP hD [0] [1, 2, 3] rfl rfl (by decide) (by decide) hk1 hFc hP1 hD1
      have hP : va_P (dC, dI) vwCl [(n0, .inl (cI, 16, .inl (aN fFI))), (n1, .inl (cI, 16, .inl (aN fMM))), (n2, .inl (cI, 16, .inl (aN fFO))), (m0, .inr (4, [.ref n0, .ref n1, .ref n2, .int (nI 1), .int (nI dt), .ref e0, .ref e1, .int (nI rt), .ref e2, .ref e3, .ref e4, .int (nI sz9), .int (nI at9), .int (nI fl), .int pl, .int (nI wr), .ref e5]))] H := hP
      have hD : va_D A [(n0, .inl (cI, 16, .inl (aN fFI))), (n1, .inl (cI, 16, .inl (aN fMM))), (n2, .inl (cI, 16, .inl (aN fFO))), (m0, .inr (4, [.ref n0, .ref n1, .ref n2, .int (nI 1), .int (nI dt), .ref e0, .ref e1, .int (nI rt), .ref e2, .ref e3, .ref e4, .int (nI sz9), .int (nI at9), .int (nI fl), .int pl, .int (nI wr), .ref e5]))] := hD
      subst h_77
      refine lv_if_eq (tgt := 161) hx hb dM_letters_80 (by decide) (fun c_80 => ?_) (fun q => False.elim (absurd q (by decide)))
      subst hAe
      subst hQ
      exact W.vret hx hb hr (fun t ht hW => ⟨⟨(), rfl, trivial, by rw [ht]; exact hP.sub [3, 0, 1, 2] rfl, hD.sub [3, 0, 1, 2] (by decide) rfl⟩, hS.F ht⟩) hS.2.2 dM_letters_161
    · refine lv_iload hx hb dM_letters_52 (lv_at hl 5 rfl) ?_
      refine lv_bipush (v := nI 40) hx hb dM_letters_54 (by decide) ?_
      refine lv_icmp_gt (tgt := 71) hx hb dM_letters_56 (by decide) (fun c_56 => ?_) (fun q => False.elim ((by rcases hy with ⟨h1, h2⟩ | ⟨h1, h2 | h2⟩; exact (ho4.mp c_43).2 h1; exact c_49 h2; exact q h2)))
      refine lv_iconst (v := nI 0) hx hb dM_letters_71 (by decide) ?_
      refine lv_istore (lv' := [(6, .int (nI 0)), (5, .int (nI k)), (0, .ref m0), (1, .int (nI (fFI k))), (2, .long v), (4, .int y9)]) hx hb dM_letters_72 hl (by decide) rfl (fun ls hl => ?_)
      refine lv_aload_n hx hb dM_letters_74 rfl (lv_at hl 2 rfl) ?_
      refine lv_iload hx hb dM_letters_75 (lv_at hl 0 rfl) ?_
      have hPc := hP.sub (ws' := [(m0, .inr (4, [.ref n0, .ref n1, .ref n2, .int (nI cd), .int (nI dt), .ref e0, .ref e1, .int (nI rt), .ref e2, .ref e3, .ref e4, .int (nI sz9), .int (nI at9), .int (nI fl), .int pl, .int (nI wr), .ref e5]))]) [0] rfl
      have hDc := hD.sub (ws' := [(m0, .inr (4, [.ref n0, .ref n1, .ref n2, .int (nI cd), .int (nI dt), .ref e0, .ref e1, .int (nI rt), .ref e2, .ref e3, .ref e4, .int (nI sz9), .int (nI at9), .int (nI fl), .int pl, .int (nI wr), .ref e5]))]) [0] (by decide) rfl
      have hFc := va_free (wc := [(m0, .inr (4, [.ref n0, .ref n1, .ref n2, .int (nI cd), .int (nI dt), .ref e0, .ref e1, .int (nI rt), .ref e2, .ref e3, .ref e4, .int (nI sz9), .int (nI at9), .int (nI fl), .int pl, .int (nI wr), .ref e5]))]) hD hS hA [0] rfl
      refine zc_Mi (va_runV (As := [.int (nI 0)]) (rest := []) ⟨hx, hb, hml, hown, hw⟩ (c_goes_0 l dC dI m0 n0 n1 n2 cd dt e0 e1 rt e2 e3 e4 sz9 at9 fl pl wr e5 cI cB s.heap.size) (cwV 1 hw (gV w_ml_M_50 w_im_M_goes w_se_M_goes w_in_M w_co_M_goes) rfl rfl rfl (by decide +kernel) ⟨Nat.le_of_ble_eq_true rfl, Nat.le_of_ble_eq_true rfl⟩) (zM_V hG hS hFc hPc hDc hK 0 rfl rfl) rfl rfl hl.1 rfl (lv_room (Nat.le_of_ble_eq_true rfl)) dM_letters_77 ⟨Nat.le_of_ble_eq_true rfl, Nat.le_of_ble_eq_true rfl⟩) hS hFc (fun r_4 H locs h_77 hP1 hD1 hk1 hS => ?_)
      obtain ⟨hP, hD⟩ := va_join (wr := [(n0, .inl (cI, 16, .inl (aN fFI))), (n1, .inl (cI, 16, .inl (aN fMM))), (n2, .inl (cI, 16, .inl (aN fFO)))]) (w1 := [(m0, .inr (4, [.ref n0, .ref n1, .ref n2, .int (nI 1), .int (nI dt), .ref e0, .ref e1, .int (nI rt), .ref e2, .ref e3, .ref e4, .int (nI sz9), .int (nI at9), .int (nI fl), .int pl, .int (nI wr), .ref e5]))]) hP hD [0] [1, 2, 3] rfl rfl (by decide) (by decide) hk1 hFc hP1 hD1
      have hP : va_P (dC, dI) vwCl [(n0, .inl (cI, 16, .inl (aN fFI))), (n1, .inl (cI, 16, .inl (aN fMM))), (n2, .inl (cI, 16, .inl (aN fFO))), (m0, .inr (4, [.ref n0, .ref n1, .ref n2, .int (nI 1), .int (nI dt), .ref e0, .ref e1, .int (nI rt), .ref e2, .ref e3, .ref e4, .int (nI sz9), .int (nI at9), .int (nI fl), .int pl, .int (nI wr), .ref e5]))] H := hP
      have hD : va_D A [(n0, .inl (cI, 16, .inl (aN fFI))), (n1, .inl (cI, 16, .inl (aN fMM))), (n2, .inl (cI, 16, .inl (aN fFO))), (m0, .inr (4, [.ref n0, .ref n1, .ref n2, .int (nI 1), .int (nI dt), .ref e0, .ref e1, .int (nI rt), .ref e2, .ref e3, .ref e4, .int (nI sz9), .int (nI at9), .int (nI fl), .int pl, .int (nI wr), .ref e5]))] := hD
      subst h_77
      refine lv_if_eq (tgt := 161) hx hb dM_letters_80 (by decide) (fun c_80 => ?_) (fun q => False.elim (absurd q (by decide)))
      subst hAe
      subst hQ
      exact W.vret hx hb hr (fun t ht hW => ⟨⟨(), rfl, trivial, by rw [ht]; exact hP.sub [3, 0, 1, 2] rfl, hD.sub [3, 0, 1, 2] (by decide) rfl⟩, hS.F ht⟩) hS.2.2 dM_letters_161
def rm_c_M_setOriginal : Room := ({ frames := 1, cells := 0, slots := 0, locals := 27 } : Room)
set_option maxHeartbeats 4000000 in
set_option maxRecDepth 100000 in
theorem c_M_setOriginal (l : Launch) (dC : Nat → ClassId) (dI : Nat → Nat → Nat) (m0 : Nat) (n0 : Nat) (n1 : Nat) (n2 : Nat) (cd : Nat) (dt : Nat) (e0 : Nat) (e1 : Nat) (rt : Nat) (e2 : Nat) (e3 : Nat) (e4 : Nat) (sz9 : Nat) (at9 : Nat) (fl : Nat) (pl : Int32) (wr : Nat) (e5 : Nat) (cI : ClassId) (cB : ClassId) (dr : Nat → Nat) (a1 : Nat) (a2 : Nat) (a3 : Nat) (ha1 : a1 < 2 ^ 31) (ha2 : a2 < 2 ^ 31) (ha3 : a3 < 2 ^ 31) (sz : Nat) : Met l yM_setOriginal wsM_setOriginal rm_c_M_setOriginal (zM (dC, dI) [(cI, .int), (cB, .byte)] [.ref m0, .ref e0, .int (nI a1), .int (nI a2), .int (nI a3)] [(m0, .inr (4, [.ref n0, .ref n1, .ref n2, .int (nI cd), .int (nI dt), .ref e0, .ref e1, .int (nI rt), .ref e2, .ref e3, .ref e4, .int (nI sz9), .int (nI at9), .int (nI fl), .int pl, .int (nI wr), .ref e5])), (e0, .inl (cI, 672, .inl (aN dr)))] sz) (zMv (dC, dI) [(m0, .inr (4, [.ref n0, .ref n1, .ref n2, .int (nI cd), .int (nI dt), .ref e0, .ref e1, .int (nI rt), .ref e2, .ref e3, .ref e4, .int (nI sz9), .int (nI at9), .int (nI fl), .int pl, .int (nI wr), .ref e5])), (e0, .inl (cI, 672, .inl (aN dr)))] [(m0, .inr (4, [.ref n0, .ref n1, .ref n2, .int (nI cd), .int (nI dt), .ref e0, .ref e1, .int (nI rt), .ref e2, .ref e3, .ref e4, .int (nI sz9), .int (nI at9), .int (nI fl), .int pl, .int (nI wr), .ref e5])), (e0, .inl (cI, 672, .inl (aN (ds (ds (ds (ds dr 588 4 a1) (588 + 4) 6 a2) (588 + 10) 21 a3) (588 + 31) 11 0))))] sz (True)) 0 0 (va_A [(m0, .inr (4, [.ref n0, .ref n1, .ref n2, .int (nI cd), .int (nI dt), .ref e0, .ref e1, .int (nI rt), .ref e2, .ref e3, .ref e4, .int (nI sz9), .int (nI at9), .int (nI fl), .int pl, .int (nI wr), .ref e5])), (e0, .inl (cI, 672, .inl (aN dr)))] sz) := by
  refine Met.ofW (cc := cM_setOriginal) (maxL := 6) (ret := none) (by decide) rfl ?_
  intro p e s m args below meth c s₁ Bd hml hv
  obtain ⟨rfl, hsz, hG, hP, hK, hD0⟩ := hv
  subst hsz
  have hx := Bd.exec
  have hb := Bd.bytes
  have hr := Bd.returns
  have hts := atoms_spec (ws := wsM_setOriginal) Bd.pre
  have hw : ∀ w ∈ BIG, w.before _ s = true := fun w h => hts w (List.mem_cons_of_mem _ h)
  have hown : s.vm.findClass RM = some m.cls := findClass_of_methodNamed Bd.named
  have hlocks := Bd.notSynchronized
  have hD := hD0.self (sz := s.heap.size)
  obtain ⟨A, hAe⟩ : ∃ A, A = va_A [(m0, .inr (4, [.ref n0, .ref n1, .ref n2, .int (nI cd), .int (nI dt), .ref e0, .ref e1, .int (nI rt), .ref e2, .ref e3, .ref e4, .int (nI sz9), .int (nI at9), .int (nI fl), .int pl, .int (nI wr), .ref e5])), (e0, .inl (cI, 672, .inl (aN dr)))] s.heap.size := ⟨_, rfl⟩
  have hA : ∀ q : Nat, s.heap.size ≤ q → A q := fun q h => by rw [hAe]; exact Or.inr h
  rw [← hAe] at hG hD
  have hS : va_S A s.heap s.heap [] := va_S.rf
  have hl := lv_entry ([.ref m0, .ref e0, .int (nI a1), .int (nI a2), .int (nI a3)]) (n := 6) (Nat.le_of_ble_eq_true rfl)
  rw [lg_entry_eq]
  generalize (lg_sl ([.ref m0, .ref e0, .int (nI a1), .int (nI a2), .int (nI a3)]) ++ List.replicate (6 - (lg_sl ([.ref m0, .ref e0, .int (nI a1), .int (nI a2), .int (nI a3)])).length) Slot.unset).toArray = ls at hl ⊢
  have hl : lv_has ls 6 [(0, .ref m0), (1, .ref e0), (2, .int (nI a1)), (3, .int (nI a2)), (4, .int (nI a3))] := hl
  refine zq_name (fun Q hQ => ?_)
  change W p l e rm_c_M_setOriginal s m _ below meth c _ _ _ _ Q _
  refine lv_sipush (v := nI 588) hx hb dM_setOriginal_0 (by decide) ?_
  refine lv_istore (lv' := [(5, .int (nI 588)), (0, .ref m0), (1, .ref e0), (2, .int (nI a1)), (3, .int (nI a2)), (4, .int (nI a3))]) hx hb dM_setOriginal_3 hl (by decide) rfl (fun ls hl => ?_)
  refine lv_aload_n hx hb dM_setOriginal_5 rfl (lv_at hl 2 rfl) ?_
  refine lv_iload hx hb dM_setOriginal_6 (lv_at hl 0 rfl) ?_
  refine lv_iload_n hx hb dM_setOriginal_8 rfl (lv_at hl 3 rfl) ?_
  refine zi_l hx hb (by omega) dM_setOriginal_9 ?_
  refine lv_iconst (v := nI 4) hx hb dM_setOriginal_10 (by decide) ?_
  have hPc := hP.sub (ws' := [(e0, .inl (cI, 672, .inl (aN dr)))]) [1] rfl
  have hDc := hD.sub (ws' := [(e0, .inl (cI, 672, .inl (aN dr)))]) [1] (by decide) rfl
  have hFc := va_free (wc := [(e0, .inl (cI, 672, .inl (aN dr)))]) hD hS hA [1] rfl
  refine zc_Mv (va_runS (As := [.ref e0, .int (nI 588), .long (lN a1), .int (nI 4)]) (rest := []) ⟨hx, hb, hml, hown, hw⟩ (c_M_setDigits l dC dI e0 cI cB 672 dr 588 a1 4 (by omega) (by omega) (by omega) s.heap.size) (va_cwS 4 hw (gSt w_ml_M_62 w_st_M_setDigits w_in_M w_co_M_setDigits) rfl rfl rfl (by decide +kernel) ⟨Nat.le_of_ble_eq_true rfl, Nat.le_of_ble_eq_true rfl⟩) (zM_S hG hS hFc hPc hDc hK) rfl rfl hl.1 rfl (lv_room (Nat.le_of_ble_eq_true rfl)) dM_setOriginal_11 ⟨Nat.le_of_ble_eq_true rfl, Nat.le_of_ble_eq_true rfl⟩) hS hFc (fun H locs h_11 hP1 hD1 hk1 hS => ?_)
  obtain ⟨hP, hD⟩ := va_join (wr := [(m0, .inr (4, [.ref n0, .ref n1, .ref n2, .int (nI cd), .int (nI dt), .ref e0, .ref e1, .int (nI rt), .ref e2, .ref e3, .ref e4, .int (nI sz9), .int (nI at9), .int (nI fl), .int pl, .int (nI wr), .ref e5]))]) (w1 := [(e0, .inl (cI, 672, .inl (aN (ds dr 588 4 a1))))]) hP hD [1] [0] rfl rfl (by decide) (by decide) hk1 hFc hP1 hD1
  have hP : va_P (dC, dI) vwCl [(m0, .inr (4, [.ref n0, .ref n1, .ref n2, .int (nI cd), .int (nI dt), .ref e0, .ref e1, .int (nI rt), .ref e2, .ref e3, .ref e4, .int (nI sz9), .int (nI at9), .int (nI fl), .int pl, .int (nI wr), .ref e5])), (e0, .inl (cI, 672, .inl (aN (ds dr 588 4 a1))))] H := hP
  have hD : va_D A [(m0, .inr (4, [.ref n0, .ref n1, .ref n2, .int (nI cd), .int (nI dt), .ref e0, .ref e1, .int (nI rt), .ref e2, .ref e3, .ref e4, .int (nI sz9), .int (nI at9), .int (nI fl), .int pl, .int (nI wr), .ref e5])), (e0, .inl (cI, 672, .inl (aN (ds dr 588 4 a1))))] := hD
  refine lv_aload_n hx hb dM_setOriginal_14 rfl (lv_at hl 2 rfl) ?_
  refine lv_iload hx hb dM_setOriginal_15 (lv_at hl 0 rfl) ?_
  refine lv_iconst (v := nI 4) hx hb dM_setOriginal_17 (by decide) ?_
  refine lv_iadd hx hb dM_setOriginal_18 ?_
  refine zi_v (b := nI 592) (by decide) ?_
  refine lv_iload_n hx hb dM_setOriginal_19 rfl (lv_at hl 4 rfl) ?_
  refine zi_l hx hb (by omega) dM_setOriginal_20 ?_
  refine lv_bipush (v := nI 6) hx hb dM_setOriginal_21 (by decide) ?_
  have hPc := hP.sub (ws' := [(e0, .inl (cI, 672, .inl (aN (ds dr 588 4 a1))))]) [1] rfl
  have hDc := hD.sub (ws' := [(e0, .inl (cI, 672, .inl (aN (ds dr 588 4 a1))))]) [1] (by decide) rfl
  have hFc := va_free (wc := [(e0, .inl (cI, 672, .inl (aN (ds dr 588 4 a1))))]) hD hS hA [1] rfl
  refine zc_Mv (va_runS (As := [.ref e0, .int (nI 592), .long (lN a2), .int (nI 6)]) (rest := []) ⟨hx, hb, hml, hown, hw⟩ (c_M_setDigits l dC dI e0 cI cB 672 (ds dr 588 4 a1) 592 a2 6 (by omega) (by omega) (by omega) H.size) (va_cwS 4 hw (gSt w_ml_M_62 w_st_M_setDigits w_in_M w_co_M_setDigits) rfl rfl rfl (by decide +kernel) ⟨Nat.le_of_ble_eq_true rfl, Nat.le_of_ble_eq_true rfl⟩) (zM_S hG hS hFc hPc hDc hK) rfl rfl hl.1 rfl (lv_room (Nat.le_of_ble_eq_true rfl)) dM_setOriginal_23 ⟨Nat.le_of_ble_eq_true rfl, Nat.le_of_ble_eq_true rfl⟩) hS hFc (fun H locs h_23 hP1 hD1 hk1 hS => ?_)
  obtain ⟨hP, hD⟩ := va_join (wr := [(m0, .inr (4, [.ref n0, .ref n1, .ref n2, .int (nI cd), .int (nI dt), .ref e0, .ref e1, .int (nI rt), .ref e2, .ref e3, .ref e4, .int (nI sz9), .int (nI at9), .int (nI fl), .int pl, .int (nI wr), .ref e5]))]) (w1 := [(e0, .inl (cI, 672, .inl (aN (ds (ds dr 588 4 a1) 592 6 a2))))]) hP hD [1] [0] rfl rfl (by decide) (by decide) hk1 hFc hP1 hD1
  have hP : va_P (dC, dI) vwCl [(m0, .inr (4, [.ref n0, .ref n1, .ref n2, .int (nI cd), .int (nI dt), .ref e0, .ref e1, .int (nI rt), .ref e2, .ref e3, .ref e4, .int (nI sz9), .int (nI at9), .int (nI fl), .int pl, .int (nI wr), .ref e5])), (e0, .inl (cI, 672, .inl (aN (ds (ds dr 588 4 a1) 592 6 a2))))] H := hP
  have hD : va_D A [(m0, .inr (4, [.ref n0, .ref n1, .ref n2, .int (nI cd), .int (nI dt), .ref e0, .ref e1, .int (nI rt), .ref e2, .ref e3, .ref e4, .int (nI sz9), .int (nI at9), .int (nI fl), .int pl, .int (nI wr), .ref e5])), (e0, .inl (cI, 672, .inl (aN (ds (ds dr 588 4 a1) 592 6 a2))))] := hD
  refine lv_aload_n hx hb dM_setOriginal_26 rfl (lv_at hl 2 rfl) ?_
  refine lv_iload hx hb dM_setOriginal_27 (lv_at hl 0 rfl) ?_
  refine lv_bipush (v := nI 10) hx hb dM_setOriginal_29 (by decide) ?_
  refine lv_iadd hx hb dM_setOriginal_31 ?_
  refine zi_v (b := nI 598) (by decide) ?_
  refine lv_iload hx hb dM_setOriginal_32 (lv_at hl 5 rfl) ?_
  refine zi_l hx hb (by omega) dM_setOriginal_34 ?_
  refine lv_bipush (v := nI 21) hx hb dM_setOriginal_35 (by decide) ?_
  have hPc := hP.sub (ws' := [(e0, .inl (cI, 672, .inl (aN (ds (ds dr 588 4 a1) 592 6 a2))))]) [1] rfl
  have hDc := hD.sub (ws' := [(e0, .inl (cI, 672, .inl (aN (ds (ds dr 588 4 a1) 592 6 a2))))]) [1] (by decide) rfl
  have hFc := va_free (wc := [(e0, .inl (cI, 672, .inl (aN (ds (ds dr 588 4 a1) 592 6 a2))))]) hD hS hA [1] rfl
  refine zc_Mv (va_runS (As := [.ref e0, .int (nI 598), .long (lN a3), .int (nI 21)]) (rest := []) ⟨hx, hb, hml, hown, hw⟩ (c_M_setDigits l dC dI e0 cI cB 672 (ds (ds dr 588 4 a1) 592 6 a2) 598 a3 21 (by omega) (by omega) (by omega) H.size) (va_cwS 4 hw (gSt w_ml_M_62 w_st_M_setDigits w_in_M w_co_M_setDigits) rfl rfl rfl (by decide +kernel) ⟨Nat.le_of_ble_eq_true rfl, Nat.le_of_ble_eq_true rfl⟩) (zM_S hG hS hFc hPc hDc hK) rfl rfl hl.1 rfl (lv_room (Nat.le_of_ble_eq_true rfl)) dM_setOriginal_37 ⟨Nat.le_of_ble_eq_true rfl, Nat.le_of_ble_eq_true rfl⟩) hS hFc (fun H locs h_37 hP1 hD1 hk1 hS => ?_)
  obtain ⟨hP, hD⟩ := va_join (wr := [(m0, .inr (4, [.ref n0, .ref n1, .ref n2, .int (nI cd), .int (nI dt), .ref e0, .ref e1, .int (nI rt), .ref e2, .ref e3, .ref e4, .int (nI sz9), .int (nI at9), .int (nI fl), .int pl, .int (nI wr), .ref e5]))]) (w1 := [(e0, .inl (cI, 672, .inl (aN (ds (ds (ds dr 588 4 a1) 592 6 a2) 598 21 a3))))]) hP hD [1] [0] rfl rfl (by decide) (by decide) hk1 hFc hP1 hD1
  have hP : va_P (dC, dI) vwCl [(m0, .inr (4, [.ref n0, .ref n1, .ref n2, .int (nI cd), .int (nI dt), .ref e0, .ref e1, .int (nI rt), .ref e2, .ref e3, .ref e4, .int (nI sz9), .int (nI at9), .int (nI fl), .int pl, .int (nI wr), .ref e5])), (e0, .inl (cI, 672, .inl (aN (ds (ds (ds dr 588 4 a1) 592 6 a2) 598 21 a3))))] H := hP
  have hD : va_D A [(m0, .inr (4, [.ref n0, .ref n1, .ref n2, .int (nI cd), .int (nI dt), .ref e0, .ref e1, .int (nI rt), .ref e2, .ref e3, .ref e4, .int (nI sz9), .int (nI at9), .int (nI fl), .int pl, .int (nI wr), .ref e5])), (e0, .inl (cI, 672, .inl (aN (ds (ds (ds dr 588 4 a1) 592 6 a2) 598 21 a3))))] := hD
  refine lv_aload_n hx hb dM_setOriginal_40 rfl (lv_at hl 2 rfl) ?_
  refine lv_iload hx hb dM_setOriginal_41 (lv_at hl 0 rfl) ?_
  refine lv_bipush (v := nI 31) hx hb dM_setOriginal_43 (by decide) ?_
  refine lv_iadd hx hb dM_setOriginal_45 ?_
  refine zi_v (b := nI 619) (by decide) ?_
  refine lv_lconst (v := lN 0) hx hb dM_setOriginal_46 (by decide) ?_
  refine lv_bipush (v := nI 11) hx hb dM_setOriginal_47 (by decide) ?_
  have hPc := hP.sub (ws' := [(e0, .inl (cI, 672, .inl (aN (ds (ds (ds dr 588 4 a1) 592 6 a2) 598 21 a3))))]) [1] rfl
  have hDc := hD.sub (ws' := [(e0, .inl (cI, 672, .inl (aN (ds (ds (ds dr 588 4 a1) 592 6 a2) 598 21 a3))))]) [1] (by decide) rfl
  have hFc := va_free (wc := [(e0, .inl (cI, 672, .inl (aN (ds (ds (ds dr 588 4 a1) 592 6 a2) 598 21 a3))))]) hD hS hA [1] rfl
  refine zc_Mv (va_runS (As := [.ref e0, .int (nI 619), .long (lN 0), .int (nI 11)]) (rest := []) ⟨hx, hb, hml, hown, hw⟩ (c_M_setDigits l dC dI e0 cI cB 672 (ds (ds (ds dr 588 4 a1) 592 6 a2) 598 21 a3) 619 0 11 (by omega) (by omega) (by omega) H.size) (va_cwS 4 hw (gSt w_ml_M_62 w_st_M_setDigits w_in_M w_co_M_setDigits) rfl rfl rfl (by decide +kernel) ⟨Nat.le_of_ble_eq_true rfl, Nat.le_of_ble_eq_true rfl⟩) (zM_S hG hS hFc hPc hDc hK) rfl rfl hl.1 rfl (lv_room (Nat.le_of_ble_eq_true rfl)) dM_setOriginal_49 ⟨Nat.le_of_ble_eq_true rfl, Nat.le_of_ble_eq_true rfl⟩) hS hFc (fun H locs h_49 hP1 hD1 hk1 hS => ?_)
  obtain ⟨hP, hD⟩ := va_join (wr := [(m0, .inr (4, [.ref n0, .ref n1, .ref n2, .int (nI cd), .int (nI dt), .ref e0, .ref e1, .int (nI rt), .ref e2, .ref e3, .ref e4, .int (nI sz9), .int (nI at9), .int (nI fl), .int pl, .int (nI wr), .ref e5]))]) (w1 := [(e0, .inl (cI, 672, .inl (aN (ds (ds (ds (ds dr 588 4 a1) 592 6 a2) 598 21 a3) 619 11 0))))]) hP hD [1] [0] rfl rfl (by decide) (by decide) hk1 hFc hP1 hD1
  have hP : va_P (dC, dI) vwCl [(m0, .inr (4, [.ref n0, .ref n1, .ref n2, .int (nI cd), .int (nI dt), .ref e0, .ref e1, .int (nI rt), .ref e2, .ref e3, .ref e4, .int (nI sz9), .int (nI at9), .int (nI fl), .int pl, .int (nI wr), .ref e5])), (e0, .inl (cI, 672, .inl (aN (ds (ds (ds (ds dr 588 4 a1) 592 6 a2) 598 21 a3) 619 11 0))))] H := hP
  have hD : va_D A [(m0, .inr (4, [.ref n0, .ref n1, .ref n2, .int (nI cd), .int (nI dt), .ref e0, .ref e1, .int (nI rt), .ref e2, .ref e3, .ref e4, .int (nI sz9), .int (nI at9), .int (nI fl), .int pl, .int (nI wr), .ref e5])), (e0, .inl (cI, 672, .inl (aN (ds (ds (ds (ds dr 588 4 a1) 592 6 a2) 598 21 a3) 619 11 0))))] := hD
  subst hAe
  subst hQ
  exact W.vret hx hb hr (fun t ht hW => ⟨⟨(), rfl, trivial, by rw [ht]; exact hP.sub [0, 1] rfl, hD.sub [0, 1] (by decide) rfl⟩, hS.F ht⟩) hS.2.2 dM_setOriginal_52
def rm_c_Moriginal_ok : Room := ({ frames := 2, cells := 0, slots := 0, locals := 52 } : Room)
set_option maxHeartbeats 4000000 in
set_option maxRecDepth 100000 in
theorem c_Moriginal_ok (l : Launch) (dC : Nat → ClassId) (dI : Nat → Nat → Nat) (m0 : Nat) (n0 : Nat) (n1 : Nat) (n2 : Nat) (cd : Nat) (dt : Nat) (e0 : Nat) (e1 : Nat) (rt : Nat) (e2 : Nat) (e3 : Nat) (e4 : Nat) (sz9 : Nat) (at9 : Nat) (fl : Nat) (pl : Int32) (wr : Nat) (e5 : Nat) (cI : ClassId) (cB : ClassId) (dr : Nat → Nat) (g : Nat → Nat) (a1 : Nat) (a2 : Nat) (a3 : Nat) (ha1 : a1 ≤ 9999) (ha2 : a2 ≤ 999999) (ha3 : a3 ≤ 99999) (sz : Nat) : Met l yM_original wsM_original rm_c_Moriginal_ok (zM (dC, dI) [(cI, .int), (cB, .byte)] [.ref m0, .int (nI a1), .int (nI a2), .int (nI a3)] [(m0, .inr (4, [.ref n0, .ref n1, .ref n2, .int (nI cd), .int (nI dt), .ref e0, .ref e1, .int (nI rt), .ref e2, .ref e3, .ref e4, .int (nI sz9), .int (nI at9), .int (nI fl), .int pl, .int (nI wr), .ref e5])), (e0, .inl (cI, 672, .inl (aN dr))), (e1, .inl (cI, 16, .inl (aP g)))] sz) (zMv (dC, dI) [(m0, .inr (4, [.ref n0, .ref n1, .ref n2, .int (nI cd), .int (nI dt), .ref e0, .ref e1, .int (nI rt), .ref e2, .ref e3, .ref e4, .int (nI sz9), .int (nI at9), .int (nI fl), .int pl, .int (nI wr), .ref e5])), (e0, .inl (cI, 672, .inl (aN dr))), (e1, .inl (cI, 16, .inl (aP g)))] [(m0, .inr (4, [.ref n0, .ref n1, .ref n2, .int (nI 0), .int (nI dt), .ref e0, .ref e1, .int (nI rt), .ref e2, .ref e3, .ref e4, .int (nI sz9), .int (nI at9), .int (nI fl), .int pl, .int (nI wr), .ref e5])), (e0, .inl (cI, 672, .inl (aN (ds (ds (ds (ds dr 588 4 a1) (588 + 4) 6 a2) (588 + 10) 21 a3) (588 + 31) 11 0)))), (e1, .inl (cI, 16, .inl (aP (nup g 14 (42 + 1)))))] sz (True)) 0 0 (va_A [(m0, .inr (4, [.ref n0, .ref n1, .ref n2, .int (nI cd), .int (nI dt), .ref e0, .ref e1, .int (nI rt), .ref e2, .ref e3, .ref e4, .int (nI sz9), .int (nI at9), .int (nI fl), .int pl, .int (nI wr), .ref e5])), (e0, .inl (cI, 672, .inl (aN dr))), (e1, .inl (cI, 16, .inl (aP g)))] sz) := by
  refine Met.ofW (cc := cM_original) (maxL := 4) (ret := none) (by decide) rfl ?_
  intro p e s m args below meth c s₁ Bd hml hv
  obtain ⟨rfl, hsz, hG, hP, hK, hD0⟩ := hv
  subst hsz
  have hx := Bd.exec
  have hb := Bd.bytes
  have hr := Bd.returns
  have hts := atoms_spec (ws := wsM_original) Bd.pre
  have hw : ∀ w ∈ BIG, w.before _ s = true := fun w h => hts w (List.mem_cons_of_mem _ h)
  have hown : s.vm.findClass RM = some m.cls := findClass_of_methodNamed Bd.named
  have hlocks := Bd.notSynchronized
  have hD := hD0.self (sz := s.heap.size)
  obtain ⟨A, hAe⟩ : ∃ A, A = va_A [(m0, .inr (4, [.ref n0, .ref n1, .ref n2, .int (nI cd), .int (nI dt), .ref e0, .ref e1, .int (nI rt), .ref e2, .ref e3, .ref e4, .int (nI sz9), .int (nI at9), .int (nI fl), .int pl, .int (nI wr), .ref e5])), (e0, .inl (cI, 672, .inl (aN dr))), (e1, .inl (cI, 16, .inl (aP g)))] s.heap.size := ⟨_, rfl⟩
  have hA : ∀ q : Nat, s.heap.size ≤ q → A q := fun q h => by rw [hAe]; exact Or.inr h
  rw [← hAe] at hG hD
  have hS : va_S A s.heap s.heap [] := va_S.rf
  have hl := lv_entry ([.ref m0, .int (nI a1), .int (nI a2), .int (nI a3)]) (n := 4) (Nat.le_of_ble_eq_true rfl)
  rw [lg_entry_eq]
  generalize (lg_sl ([.ref m0, .int (nI a1), .int (nI a2), .int (nI a3)]) ++ List.replicate (4 - (lg_sl ([.ref m0, .int (nI a1), .int (nI a2), .int (nI a3)])).length) Slot.unset).toArray = ls at hl ⊢
  have hl : lv_has ls 4 [(0, .ref m0), (1, .int (nI a1)), (2, .int (nI a2)), (3, .int (nI a3))] := hl
  refine zq_name (fun Q hQ => ?_)
  change W p l e rm_c_Moriginal_ok s m _ below meth c _ _ _ _ Q _
  refine lv_aload_n hx hb dM_original_0 rfl (lv_at hl 0 rfl) ?_
  refine lv_iload_n hx hb dM_original_1 rfl (lv_at hl 1 rfl) ?_
  refine zi_lt0 (tgt := 36) hx hb (by omega) dM_original_2 (by decide) ?_
  refine lv_iload_n hx hb dM_original_5 rfl (lv_at hl 1 rfl) ?_
  refine lv_sipush (v := nI 9999) hx hb dM_original_6 (by decide) ?_
  refine zi_gt (tgt := 36) hx hb (by omega) (by omega) dM_original_9 (by decide) (fun q => False.elim ((by omega))) (fun c_9 => ?_)
  refine lv_iload_n hx hb dM_original_12 rfl (lv_at hl 2 rfl) ?_
  refine zi_lt0 (tgt := 36) hx hb (by omega) dM_original_13 (by decide) ?_
  refine lv_iload_n hx hb dM_original_16 rfl (lv_at hl 2 rfl) ?_
  refine lv_ldc (v := 999999) hx hb hown (hw _ w_k_M_76) dM_original_17 ?_
  refine zi_c (a := 999999) rfl ?_
  refine zi_gt (tgt := 36) hx hb (by omega) (by omega) dM_original_19 (by decide) (fun q => False.elim ((by omega))) (fun c_19 => ?_)
  refine lv_iload_n hx hb dM_original_22 rfl (lv_at hl 3 rfl) ?_
  refine zi_lt0 (tgt := 36) hx hb (by omega) dM_original_23 (by decide) ?_
  refine lv_iload_n hx hb dM_original_26 rfl (lv_at hl 3 rfl) ?_
  refine lv_ldc (v := 99999) hx hb hown (hw _ w_k_M_77) dM_original_27 ?_
  refine zi_c (a := 99999) rfl ?_
  refine zi_gt (tgt := 36) hx hb (by omega) (by omega) dM_original_29 (by decide) (fun q => False.elim ((by omega))) (fun c_29 => ?_)
  refine lv_iconst (v := nI 1) hx hb dM_original_32 (by decide) ?_
  refine lv_goto (tgt := 37) hx hb dM_original_33 (by decide) ?_
  have hPc := hP.sub (ws' := [(m0, .inr (4, [.ref n0, .ref n1, .ref n2, .int (nI cd), .int (nI dt), .ref e0, .ref e1, .int (nI rt), .ref e2, .ref e3, .ref e4, .int (nI sz9), .int (nI at9), .int (nI fl), .int pl, .int (nI wr), .ref e5]))]) [0] rfl
  have hDc := hD.sub (ws' := [(m0, .inr (4, [.ref n0, .ref n1, .ref n2, .int (nI cd), .int (nI dt), .ref e0, .ref e1, .int (nI rt), .ref e2, .ref e3, .ref e4, .int (nI sz9), .int (nI at9), .int (nI fl), .int pl, .int (nI wr), .ref e5]))]) [0] (by decide) rfl
  have hFc := va_free (wc := [(m0, .inr (4, [.ref n0, .ref n1, .ref n2, .int (nI cd), .int (nI dt), .ref e0, .ref e1, .int (nI rt), .ref e2, .ref e3, .ref e4, .int (nI sz9), .int (nI at9), .int (nI fl), .int pl, .int (nI wr), .ref e5]))]) hD hS hA [0] rfl
  refine zc_Mi (va_runV (As := [.int (nI 1)]) (rest := []) ⟨hx, hb, hml, hown, hw⟩ (c_goes_1 l dC dI m0 n0 n1 n2 cd dt e0 e1 rt e2 e3 e4 sz9 at9 fl pl wr e5 cI cB s.heap.size) (cwV 1 hw (gV w_ml_M_50 w_im_M_goes w_se_M_goes w_in_M w_co_M_goes) rfl rfl rfl (by decide +kernel) ⟨Nat.le_of_ble_eq_true rfl, Nat.le_of_ble_eq_true rfl⟩) (zM_V hG hS hFc hPc hDc hK 0 rfl rfl) rfl rfl hl.1 rfl (lv_room (Nat.le_of_ble_eq_true rfl)) dM_original_37 ⟨Nat.le_of_ble_eq_true rfl, Nat.le_of_ble_eq_true rfl⟩) hS hFc (fun r_1 H locs h_37 hP1 hD1 hk1 hS => ?_)
  obtain ⟨hP, hD⟩ := va_join (wr := [(e0, .inl (cI, 672, .inl (aN dr))), (e1, .inl (cI, 16, .inl (aP g)))]) (w1 := [(m0, .inr (4, [.ref n0, .ref n1, .ref n2, .int (nI 0), .int (nI dt), .ref e0, .ref e1, .int (nI rt), .ref e2, .ref e3, .ref e4, .int (nI sz9), .int (nI at9), .int (nI fl), .int pl, .int (nI wr), .ref e5]))]) hP hD [0] [1, 2] rfl rfl (by decide) (by decide) hk1 hFc hP1 hD1
  have hP : va_P (dC, dI) vwCl [(e0, .inl (cI, 672, .inl (aN dr))), (e1, .inl (cI, 16, .inl (aP g))), (m0, .inr (4, [.ref n0, .ref n1, .ref n2, .int (nI 0), .int (nI dt), .ref e0, .ref e1, .int (nI rt), .ref e2, .ref e3, .ref e4, .int (nI sz9), .int (nI at9), .int (nI fl), .int pl, .int (nI wr), .ref e5]))] H := hP
  have hD : va_D A [(e0, .inl (cI, 672, .inl (aN dr))), (e1, .inl (cI, 16, .inl (aP g))), (m0, .inr (4, [.ref n0, .ref n1, .ref n2, .int (nI 0), .int (nI dt), .ref e0, .ref e1, .int (nI rt), .ref e2, .ref e3, .ref e4, .int (nI sz9), .int (nI at9), .int (nI fl), .int pl, .int (nI wr), .ref e5]))] := hD
  subst h_37
  refine lv_if_eq (tgt := 63) hx hb dM_original_40 (by decide) (fun q => False.elim (absurd q (by decide))) (fun c_40 => ?_)
  refine lv_aload_n hx hb dM_original_43 rfl (lv_at hl 0 rfl) ?_
  refine va_get (D := (dC, dI)) (ci := 4) (v := .ref e1) (C := RM) (T := TM) (N := 17) hx hb hw inM hown hK hP 2 rfl rfl 6 (by decide) (hw _ w_fl_M_26) (fun _ h9 => h9) rfl dM_original_44 ?_
  refine lv_bipush (v := nI 14) hx hb dM_original_47 (by decide) ?_
  refine lv_bipush (v := nI 42) hx hb dM_original_49 (by decide) ?_
  refine zi_v (b := pm (42 + 1)) (pm_s _).symm ?_
  refine za_pst hx hb hK hP hD hS 1 0 rfl rfl (by omega) (by decide) dM_original_51 (fun H locs hP hD hS => ?_)
  have hP : va_P (dC, dI) vwCl [(e0, .inl (cI, 672, .inl (aN dr))), (e1, .inl (cI, 16, .inl (aP (nup g 14 (42 + 1))))), (m0, .inr (4, [.ref n0, .ref n1, .ref n2, .int (nI 0), .int (nI dt), .ref e0, .ref e1, .int (nI rt), .ref e2, .ref e3, .ref e4, .int (nI sz9), .int (nI at9), .int (nI fl), .int pl, .int (nI wr), .ref e5]))] H := hP
  have hD : va_D A [(e0, .inl (cI, 672, .inl (aN dr))), (e1, .inl (cI, 16, .inl (aP (nup g 14 (42 + 1))))), (m0, .inr (4, [.ref n0, .ref n1, .ref n2, .int (nI 0), .int (nI dt), .ref e0, .ref e1, .int (nI rt), .ref e2, .ref e3, .ref e4, .int (nI sz9), .int (nI at9), .int (nI fl), .int pl, .int (nI wr), .ref e5]))] := hD
  refine lv_aload_n hx hb dM_original_52 rfl (lv_at hl 0 rfl) ?_
  refine lv_aload_n hx hb dM_original_53 rfl (lv_at hl 0 rfl) ?_
  refine va_get (D := (dC, dI)) (ci := 4) (v := .ref e0) (C := RM) (T := TM) (N := 17) hx hb hw inM hown hK hP 2 rfl rfl 5 (by decide) (hw _ w_fl_M_23) (fun _ h9 => h9) rfl dM_original_54 ?_
  refine lv_iload_n hx hb dM_original_57 rfl (lv_at hl 1 rfl) ?_
  refine lv_iload_n hx hb dM_original_58 rfl (lv_at hl 2 rfl) ?_
  refine lv_iload_n hx hb dM_original_59 rfl (lv_at hl 3 rfl) ?_
  have hPc := hP.sub (ws' := [(m0, .inr (4, [.ref n0, .ref n1, .ref n2, .int (nI 0), .int (nI dt), .ref e0, .ref e1, .int (nI rt), .ref e2, .ref e3, .ref e4, .int (nI sz9), .int (nI at9), .int (nI fl), .int pl, .int (nI wr), .ref e5])), (e0, .inl (cI, 672, .inl (aN dr)))]) [2, 0] rfl
  have hDc := hD.sub (ws' := [(m0, .inr (4, [.ref n0, .ref n1, .ref n2, .int (nI 0), .int (nI dt), .ref e0, .ref e1, .int (nI rt), .ref e2, .ref e3, .ref e4, .int (nI sz9), .int (nI at9), .int (nI fl), .int pl, .int (nI wr), .ref e5])), (e0, .inl (cI, 672, .inl (aN dr)))]) [2, 0] (by decide) rfl
  have hFc := va_free (wc := [(m0, .inr (4, [.ref n0, .ref n1, .ref n2, .int (nI 0), .int (nI dt), .ref e0, .ref e1, .int (nI rt), .ref e2, .ref e3, .ref e4, .int (nI sz9), .int (nI at9), .int (nI fl), .int pl, .int (nI wr), .ref e5])), (e0, .inl (cI, 672, .inl (aN dr)))]) hD hS hA [2, 0] rfl
  refine zc_Mv (va_runV (As := [.ref e0, .int (nI a1), .int (nI a2), .int (nI a3)]) (rest := []) ⟨hx, hb, hml, hown, hw⟩ (c_M_setOriginal l dC dI m0 n0 n1 n2 0 dt e0 e1 rt e2 e3 e4 sz9 at9 fl pl wr e5 cI cB dr a1 a2 a3 (by omega) (by omega) (by omega) H.size) (cwV 4 hw (gV w_ml_M_78 w_im_M_setOriginal w_se_M_setOriginal w_in_M w_co_M_setOriginal) rfl rfl rfl (by decide +kernel) ⟨Nat.le_of_ble_eq_true rfl, Nat.le_of_ble_eq_true rfl⟩) (zM_V hG hS hFc hPc hDc hK 0 rfl rfl) rfl rfl hl.1 rfl (lv_room (Nat.le_of_ble_eq_true rfl)) dM_original_60 ⟨Nat.le_of_ble_eq_true rfl, Nat.le_of_ble_eq_true rfl⟩) hS hFc (fun H locs h_60 hP1 hD1 hk1 hS => ?_)
  obtain ⟨hP, hD⟩ := va_join (wr := [(e1, .inl (cI, 16, .inl (aP (nup g 14 (42 + 1)))))]) (w1 := [(m0, .inr (4, [.ref n0, .ref n1, .ref n2, .int (nI 0), .int (nI dt), .ref e0, .ref e1, .int (nI rt), .ref e2, .ref e3, .ref e4, .int (nI sz9), .int (nI at9), .int (nI fl), .int pl, .int (nI wr), .ref e5])), (e0, .inl (cI, 672, .inl (aN (ds (ds (ds (ds dr 588 4 a1) (588 + 4) 6 a2) (588 + 10) 21 a3) (588 + 31) 11 0))))]) hP hD [2, 0] [1] rfl rfl (by decide) (by decide) hk1 hFc hP1 hD1
  have hP : va_P (dC, dI) vwCl [(e1, .inl (cI, 16, .inl (aP (nup g 14 (42 + 1))))), (m0, .inr (4, [.ref n0, .ref n1, .ref n2, .int (nI 0), .int (nI dt), .ref e0, .ref e1, .int (nI rt), .ref e2, .ref e3, .ref e4, .int (nI sz9), .int (nI at9), .int (nI fl), .int pl, .int (nI wr), .ref e5])), (e0, .inl (cI, 672, .inl (aN (ds (ds (ds (ds dr 588 4 a1) (588 + 4) 6 a2) (588 + 10) 21 a3) (588 + 31) 11 0))))] H := hP
  have hD : va_D A [(e1, .inl (cI, 16, .inl (aP (nup g 14 (42 + 1))))), (m0, .inr (4, [.ref n0, .ref n1, .ref n2, .int (nI 0), .int (nI dt), .ref e0, .ref e1, .int (nI rt), .ref e2, .ref e3, .ref e4, .int (nI sz9), .int (nI at9), .int (nI fl), .int pl, .int (nI wr), .ref e5])), (e0, .inl (cI, 672, .inl (aN (ds (ds (ds (ds dr 588 4 a1) (588 + 4) 6 a2) (588 + 10) 21 a3) (588 + 31) 11 0))))] := hD
  subst hAe
  subst hQ
  exact W.vret hx hb hr (fun t ht hW => ⟨⟨(), rfl, trivial, by rw [ht]; exact hP.sub [1, 2, 0] rfl, hD.sub [1, 2, 0] (by decide) rfl⟩, hS.F ht⟩) hS.2.2 dM_original_63
def rm_c_Moriginal_no : Room := ({ frames := 2, cells := 0, slots := 0, locals := 52 } : Room)
set_option maxHeartbeats 4000000 in
set_option maxRecDepth 100000 in
theorem c_Moriginal_no (l : Launch) (dC : Nat → ClassId) (dI : Nat → Nat → Nat) (m0 : Nat) (n0 : Nat) (n1 : Nat) (n2 : Nat) (cd : Nat) (dt : Nat) (e0 : Nat) (e1 : Nat) (rt : Nat) (e2 : Nat) (e3 : Nat) (e4 : Nat) (sz9 : Nat) (at9 : Nat) (fl : Nat) (pl : Int32) (wr : Nat) (e5 : Nat) (cI : ClassId) (cB : ClassId) (x1 : Int32) (x2 : Int32) (x3 : Int32) (hx9 : x1 < 0 ∨ nI 9999 < x1 ∨ x2 < 0 ∨ nI 999999 < x2 ∨ x3 < 0 ∨ nI 99999 < x3) (sz : Nat) : Met l yM_original wsM_original rm_c_Moriginal_no (zM (dC, dI) [(cI, .int), (cB, .byte)] [.ref m0, .int x1, .int x2, .int x3] [(m0, .inr (4, [.ref n0, .ref n1, .ref n2, .int (nI cd), .int (nI dt), .ref e0, .ref e1, .int (nI rt), .ref e2, .ref e3, .ref e4, .int (nI sz9), .int (nI at9), .int (nI fl), .int pl, .int (nI wr), .ref e5]))] sz) (zMv (dC, dI) [(m0, .inr (4, [.ref n0, .ref n1, .ref n2, .int (nI cd), .int (nI dt), .ref e0, .ref e1, .int (nI rt), .ref e2, .ref e3, .ref e4, .int (nI sz9), .int (nI at9), .int (nI fl), .int pl, .int (nI wr), .ref e5]))] [(m0, .inr (4, [.ref n0, .ref n1, .ref n2, .int (nI 1), .int (nI dt), .ref e0, .ref e1, .int (nI rt), .ref e2, .ref e3, .ref e4, .int (nI sz9), .int (nI at9), .int (nI fl), .int pl, .int (nI wr), .ref e5]))] sz (True)) 0 0 (va_A [(m0, .inr (4, [.ref n0, .ref n1, .ref n2, .int (nI cd), .int (nI dt), .ref e0, .ref e1, .int (nI rt), .ref e2, .ref e3, .ref e4, .int (nI sz9), .int (nI at9), .int (nI fl), .int pl, .int (nI wr), .ref e5]))] sz) := by
  refine Met.ofW (cc := cM_original) (maxL := 4) (ret := none) (by decide) rfl ?_
  intro p e s m args below meth c s₁ Bd hml hv
  obtain ⟨rfl, hsz, hG, hP, hK, hD0⟩ := hv
  subst hsz
  have hx := Bd.exec
  have hb := Bd.bytes
  have hr := Bd.returns
  have hts := atoms_spec (ws := wsM_original) Bd.pre
  have hw : ∀ w ∈ BIG, w.before _ s = true := fun w h => hts w (List.mem_cons_of_mem _ h)
  have hown : s.vm.findClass RM = some m.cls := findClass_of_methodNamed Bd.named
  have hlocks := Bd.notSynchronized
  have hD := hD0.self (sz := s.heap.size)
  obtain ⟨A, hAe⟩ : ∃ A, A = va_A [(m0, .inr (4, [.ref n0, .ref n1, .ref n2, .int (nI cd), .int (nI dt), .ref e0, .ref e1, .int (nI rt), .ref e2, .ref e3, .ref e4, .int (nI sz9), .int (nI at9), .int (nI fl), .int pl, .int (nI wr), .ref e5]))] s.heap.size := ⟨_, rfl⟩
  have hA : ∀ q : Nat, s.heap.size ≤ q → A q := fun q h => by rw [hAe]; exact Or.inr h
  rw [← hAe] at hG hD
  have hS : va_S A s.heap s.heap [] := va_S.rf
  have hl := lv_entry ([.ref m0, .int x1, .int x2, .int x3]) (n := 4) (Nat.le_of_ble_eq_true rfl)
  rw [lg_entry_eq]
  generalize (lg_sl ([.ref m0, .int x1, .int x2, .int x3]) ++ List.replicate (4 - (lg_sl ([.ref m0, .int x1, .int x2, .int x3])).length) Slot.unset).toArray = ls at hl ⊢
  have hl : lv_has ls 4 [(0, .ref m0), (1, .int x1), (2, .int x2), (3, .int x3)] := hl
  refine zq_name (fun Q hQ => ?_)
  change W p l e rm_c_Moriginal_no s m _ below meth c _ _ _ _ Q _
  refine lv_aload_n hx hb dM_original_0 rfl (lv_at hl 0 rfl) ?_
  refine lv_iload_n hx hb dM_original_1 rfl (lv_at hl 1 rfl) ?_
  refine lv_if_lt (tgt := 36) hx hb dM_original_2 (by decide) (fun c_2 => ?_) (fun c_2 => ?_)
  · refine lv_iconst (v := nI 0) hx hb dM_original_36 (by decide) ?_
    have hPc := hP.sub (ws' := [(m0, .inr (4, [.ref n0, .ref n1, .ref n2, .int (nI cd), .int (nI dt), .ref e0, .ref e1, .int (nI rt), .ref e2, .ref e3, .ref e4, .int (nI sz9), .int (nI at9), .int (nI fl), .int pl, .int (nI wr), .ref e5]))]) [0] rfl
    have hDc := hD.sub (ws' := [(m0, .inr (4, [.ref n0, .ref n1, .ref n2, .int (nI cd), .int (nI dt), .ref e0, .ref e1, .int (nI rt), .ref e2, .ref e3, .ref e4, .int (nI sz9), .int (nI at9), .int (nI fl), .int pl, .int (nI wr), .ref e5]))]) [0] (by decide) rfl
    have hFc := va_free (wc := [(m0, .inr (4, [.ref n0, .ref n1, .ref n2, .int (nI cd), .int (nI dt), .ref e0, .ref e1, .int (nI rt), .ref e2, .ref e3, .ref e4, .int (nI sz9), .int (nI at9), .int (nI fl), .int pl, .int (nI wr), .ref e5]))]) hD hS hA [0] rfl
    refine zc_Mi (va_runV (As := [.int (nI 0)]) (rest := []) ⟨hx, hb, hml, hown, hw⟩ (c_goes_0 l dC dI m0 n0 n1 n2 cd dt e0 e1 rt e2 e3 e4 sz9 at9 fl pl wr e5 cI cB s.heap.size) (cwV 1 hw (gV w_ml_M_50 w_im_M_goes w_se_M_goes w_in_M w_co_M_goes) rfl rfl rfl (by decide +kernel) ⟨Nat.le_of_ble_eq_true rfl, Nat.le_of_ble_eq_true rfl⟩) (zM_V hG hS hFc hPc hDc hK 0 rfl rfl) rfl rfl hl.1 rfl (lv_room (Nat.le_of_ble_eq_true rfl)) dM_original_37 ⟨Nat.le_of_ble_eq_true rfl, Nat.le_of_ble_eq_true rfl⟩) hS hFc (fun r_1 H locs h_37 hP1 hD1 hk1 hS => ?_)
    obtain ⟨hP, hD⟩ := va_join (wr := []) (w1 := [(m0, .inr (4, [.ref n0, .ref n1, .ref n2, .int (nI 1), .int (nI dt), .ref e0, .ref e1, .int (nI rt), .ref e2, .ref e3, .ref e4, .int (nI sz9), .int (nI at9), .int (nI fl), .int pl, .int (nI wr), .ref e5]))]) hP hD [0] [] rfl rfl (by decide) (by decide) hk1 hFc hP1 hD1
    have hP : va_P (dC, dI) vwCl [(m0, .inr (4, [.ref n0, .ref n1, .ref n2, .int (nI 1), .int (nI dt), .ref e0, .ref e1, .int (nI rt), .ref e2, .ref e3, .ref e4, .int (nI sz9), .int (nI at9), .int (nI fl), .int pl, .int (nI wr), .ref e5]))] H := hP
    have hD : va_D A [(m0, .inr (4, [.ref n0, .ref n1, .ref n2, .int (nI 1), .int (nI dt), .ref e0, .ref e1, .int (nI rt), .ref e2, .ref e3, .ref e4, .int (nI sz9), .int (nI at9), .int (nI fl), .int pl, .int (nI wr), .ref e5]))] := hD
    subst h_37
    refine lv_if_eq (tgt := 63) hx hb dM_original_40 (by decide) (fun c_40 => ?_) (fun q => False.elim (absurd q (by decide)))
    subst hAe
    subst hQ
    exact W.vret hx hb hr (fun t ht hW => ⟨⟨(), rfl, trivial, by rw [ht]; exact hP.sub [0] rfl, hD.sub [0] (by decide) rfl⟩, hS.F ht⟩) hS.2.2 dM_original_63
  · refine lv_iload_n hx hb dM_original_5 rfl (lv_at hl 1 rfl) ?_
    refine lv_sipush (v := nI 9999) hx hb dM_original_6 (by decide) ?_
    refine lv_icmp_gt (tgt := 36) hx hb dM_original_9 (by decide) (fun c_9 => ?_) (fun c_9 => ?_)
    · refine lv_iconst (v := nI 0) hx hb dM_original_36 (by decide) ?_
      have hPc := hP.sub (ws' := [(m0, .inr (4, [.ref n0, .ref n1, .ref n2, .int (nI cd), .int (nI dt), .ref e0, .ref e1, .int (nI rt), .ref e2, .ref e3, .ref e4, .int (nI sz9), .int (nI at9), .int (nI fl), .int pl, .int (nI wr), .ref e5]))]) [0] rfl
      have hDc := hD.sub (ws' := [(m0, .inr (4, [.ref n0, .ref n1, .ref n2, .int (nI cd), .int (nI dt), .ref e0, .ref e1, .int (nI rt), .ref e2, .ref e3, .ref e4, .int (nI sz9), .int (nI at9), .int (nI fl), .int pl, .int (nI wr), .ref e5]))]) [0] (by decide) rfl
      have hFc := va_free (wc := [(m0, .inr (4, [.ref n0, .ref n1, .ref n2, .int (nI cd), .int (nI dt), .ref e0, .ref e1, .int (nI rt), .ref e2, .ref e3, .ref e4, .int (nI sz9), .int (nI at9), .int (nI fl), .int pl, .int (nI wr), .ref e5]))]) hD hS hA [0] rfl
      refine zc_Mi (va_runV (As := [.int (nI 0)]) (rest := []) ⟨hx, hb, hml, hown, hw⟩ (c_goes_0 l dC dI m0 n0 n1 n2 cd dt e0 e1 rt e2 e3 e4 sz9 at9 fl pl wr e5 cI cB s.heap.size) (cwV 1 hw (gV w_ml_M_50 w_im_M_goes w_se_M_goes w_in_M w_co_M_goes) rfl rfl rfl (by decide +kernel) ⟨Nat.le_of_ble_eq_true rfl, Nat.le_of_ble_eq_true rfl⟩) (zM_V hG hS hFc hPc hDc hK 0 rfl rfl) rfl rfl hl.1 rfl (lv_room (Nat.le_of_ble_eq_true rfl)) dM_original_37 ⟨Nat.le_of_ble_eq_true rfl, Nat.le_of_ble_eq_true rfl⟩) hS hFc (fun r_2 H locs h_37 hP1 hD1 hk1 hS => ?_)
      obtain ⟨hP, hD⟩ := va_join (wr := []) (w1 := [(m0, .inr (4, [.ref n0, .ref n1, .ref n2, .int (nI 1), .int (nI dt), .ref e0, .ref e1, .int (nI rt), .ref e2, .ref e3, .ref e4, .int (nI sz9), .int (nI at9), .int (nI fl), .int pl, .int (nI wr), .ref e5]))]) hP hD [0] [] rfl rfl (by decide) (by decide) hk1 hFc hP1 hD1
      have hP : va_P (dC, dI) vwCl [(m0, .inr (4, [.ref n0, .ref n1, .ref n2, .int (nI 1), .int (nI dt), .ref e0, .ref e1, .int (nI rt), .ref e2, .ref e3, .ref e4, .int (nI sz9), .int (nI at9), .int (nI fl), .int pl, .int (nI wr), .ref e5]))] H := hP
      have hD : va_D A [(m0, .inr (4, [.ref n0, .ref n1, .ref n2, .int (nI 1), .int (nI dt), .ref e0, .ref e1, .int (nI rt), .ref e2, .ref e3, .ref e4, .int (nI sz9), .int (nI at9), .int (nI fl), .int pl, .int (nI wr), .ref e5]))] := hD
      subst h_37
      refine lv_if_eq (tgt := 63) hx hb dM_original_40 (by decide) (fun c_40 => ?_) (fun q => False.elim (absurd q (by decide)))
      subst hAe
      subst hQ
      exact W.vret hx hb hr (fun t ht hW => ⟨⟨(), rfl, trivial, by rw [ht]; exact hP.sub [0] rfl, hD.sub [0] (by decide) rfl⟩, hS.F ht⟩) hS.2.2 dM_original_63
    · refine lv_iload_n hx hb dM_original_12 rfl (lv_at hl 2 rfl) ?_
      refine lv_if_lt (tgt := 36) hx hb dM_original_13 (by decide) (fun c_13 => ?_) (fun c_13 => ?_)
      · refine lv_iconst (v := nI 0) hx hb dM_original_36 (by decide) ?_
        have hPc := hP.sub (ws' := [(m0, .inr (4, [.ref n0, .ref n1, .ref n2, .int (nI cd), .int (nI dt), .ref e0, .ref e1, .int (nI rt), .ref e2, .ref e3, .ref e4, .int (nI sz9), .int (nI at9), .int (nI fl), .int pl, .int (nI wr), .ref e5]))]) [0] rfl
        have hDc := hD.sub (ws' := [(m0, .inr (4, [.ref n0, .ref n1, .ref n2, .int (nI cd), .int (nI dt), .ref e0, .ref e1, .int (nI rt), .ref e2, .ref e3, .ref e4, .int (nI sz9), .int (nI at9), .int (nI fl), .int pl, .int (nI wr), .ref e5]))]) [0] (by decide) rfl
        have hFc := va_free (wc := [(m0, .inr (4, [.ref n0, .ref n1, .ref n2, .int (nI cd), .int (nI dt), .ref e0, .ref e1, .int (nI rt), .ref e2, .ref e3, .ref e4, .int (nI sz9), .int (nI at9), .int (nI fl), .int pl, .int (nI wr), .ref e5]))]) hD hS hA [0] rfl
        refine zc_Mi (va_runV (As := [.int (nI 0)]) (rest := []) ⟨hx, hb, hml, hown, hw⟩ (c_goes_0 l dC dI m0 n0 n1 n2 cd dt e0 e1 rt e2 e3 e4 sz9 at9 fl pl wr e5 cI cB s.heap.size) (cwV 1 hw (gV w_ml_M_50 w_im_M_goes w_se_M_goes w_in_M w_co_M_goes) rfl rfl rfl (by decide +kernel) ⟨Nat.le_of_ble_eq_true rfl, Nat.le_of_ble_eq_true rfl⟩) (zM_V hG hS hFc hPc hDc hK 0 rfl rfl) rfl rfl hl.1 rfl (lv_room (Nat.le_of_ble_eq_true rfl)) dM_original_37 ⟨Nat.le_of_ble_eq_true rfl, Nat.le_of_ble_eq_true rfl⟩) hS hFc (fun r_3 H locs h_37 hP1 hD1 hk1 hS => ?_)
        obtain ⟨hP, hD⟩ := va_join (wr := []) (w1 := [(m0, .inr (4, [.ref n0, .ref n1, .ref n2, .int (nI 1), .int (nI dt), .ref e0, .ref e1, .int (nI rt), .ref e2, .ref e3, .ref e4, .int (nI sz9), .int (nI at9), .int (nI fl), .int pl, .int (nI wr), .ref e5]))]) hP hD [0] [] rfl rfl (by decide) (by decide) hk1 hFc hP1 hD1
        have hP : va_P (dC, dI) vwCl [(m0, .inr (4, [.ref n0, .ref n1, .ref n2, .int (nI 1), .int (nI dt), .ref e0, .ref e1, .int (nI rt), .ref e2, .ref e3, .ref e4, .int (nI sz9), .int (nI at9), .int (nI fl), .int pl, .int (nI wr), .ref e5]))] H := hP
        have hD : va_D A [(m0, .inr (4, [.ref n0, .ref n1, .ref n2, .int (nI 1), .int (nI dt), .ref e0, .ref e1, .int (nI rt), .ref e2, .ref e3, .ref e4, .int (nI sz9), .int (nI at9), .int (nI fl), .int pl, .int (nI wr), .ref e5]))] := hD
        subst h_37
        refine lv_if_eq (tgt := 63) hx hb dM_original_40 (by decide) (fun c_40 => ?_) (fun q => False.elim (absurd q (by decide)))
        subst hAe
        subst hQ
        exact W.vret hx hb hr (fun t ht hW => ⟨⟨(), rfl, trivial, by rw [ht]; exact hP.sub [0] rfl, hD.sub [0] (by decide) rfl⟩, hS.F ht⟩) hS.2.2 dM_original_63
      · refine lv_iload_n hx hb dM_original_16 rfl (lv_at hl 2 rfl) ?_
        refine lv_ldc (v := 999999) hx hb hown (hw _ w_k_M_76) dM_original_17 ?_
        refine zi_c (a := 999999) rfl ?_
        refine lv_icmp_gt (tgt := 36) hx hb dM_original_19 (by decide) (fun c_19 => ?_) (fun c_19 => ?_)
        · refine lv_iconst (v := nI 0) hx hb dM_original_36 (by decide) ?_
          have hPc := hP.sub (ws' := [(m0, .inr (4, [.ref n0, .ref n1, .ref n2, .int (nI cd), .int (nI dt), .ref e0, .ref e1, .int (nI rt), .ref e2, .ref e3, .ref e4, .int (nI sz9), .int (nI at9), .int (nI fl), .int pl, .int (nI wr), .ref e5]))]) [0] rfl
          have hDc := hD.sub (ws' := [(m0, .inr (4, [.ref n0, .ref n1, .ref n2, .int (nI cd), .int (nI dt), .ref e0, .ref e1, .int (nI rt), .ref e2, .ref e3, .ref e4, .int (nI sz9), .int (nI at9), .int (nI fl), .int pl, .int (nI wr), .ref e5]))]) [0] (by decide) rfl
          have hFc := va_free (wc := [(m0, .inr (4, [.ref n0, .ref n1, .ref n2, .int (nI cd), .int (nI dt), .ref e0, .ref e1, .int (nI rt), .ref e2, .ref e3, .ref e4, .int (nI sz9), .int (nI at9), .int (nI fl), .int pl, .int (nI wr), .ref e5]))]) hD hS hA [0] rfl
          refine zc_Mi (va_runV (As := [.int (nI 0)]) (rest := []) ⟨hx, hb, hml, hown, hw⟩ (c_goes_0 l dC dI m0 n0 n1 n2 cd dt e0 e1 rt e2 e3 e4 sz9 at9 fl pl wr e5 cI cB s.heap.size) (cwV 1 hw (gV w_ml_M_50 w_im_M_goes w_se_M_goes w_in_M w_co_M_goes) rfl rfl rfl (by decide +kernel) ⟨Nat.le_of_ble_eq_true rfl, Nat.le_of_ble_eq_true rfl⟩) (zM_V hG hS hFc hPc hDc hK 0 rfl rfl) rfl rfl hl.1 rfl (lv_room (Nat.le_of_ble_eq_true rfl)) dM_original_37 ⟨Nat.le_of_ble_eq_true rfl, Nat.le_of_ble_eq_true rfl⟩) hS hFc (fun r_4 H locs h_37 hP1 hD1 hk1 hS => ?_)
          obtain ⟨hP, hD⟩ := va_join (wr := []) (w1 := [(m0, .inr (4, [.ref n0, .ref n1, .ref n2, .int (nI 1), .int (nI dt), .ref e0, .ref e1, .int (nI rt), .ref e2, .ref e3, .ref e4, .int (nI sz9), .int (nI at9), .int (nI fl), .int pl, .int (nI wr), .ref e5]))]) hP hD [0] [] rfl rfl (by decide) (by decide) hk1 hFc hP1 hD1
          have hP : va_P (dC, dI) vwCl [(m0, .inr (4, [.ref n0, .ref n1, .ref n2, .int (nI 1), .int (nI dt), .ref e0, .ref e1, .int (nI rt), .ref e2, .ref e3, .ref e4, .int (nI sz9), .int (nI at9), .int (nI fl), .int pl, .int (nI wr), .ref e5]))] H := hP
          have hD : va_D A [(m0, .inr (4, [.ref n0, .ref n1, .ref n2, .int (nI 1), .int (nI dt), .ref e0, .ref e1, .int (nI rt), .ref e2, .ref e3, .ref e4, .int (nI sz9), .int (nI at9), .int (nI fl), .int pl, .int (nI wr), .ref e5]))] := hD
          subst h_37
          refine lv_if_eq (tgt := 63) hx hb dM_original_40 (by decide) (fun c_40 => ?_) (fun q => False.elim (absurd q (by decide)))
          subst hAe
          subst hQ
          exact W.vret hx hb hr (fun t ht hW => ⟨⟨(), rfl, trivial, by rw [ht]; exact hP.sub [0] rfl, hD.sub [0] (by decide) rfl⟩, hS.F ht⟩) hS.2.2 dM_original_63
        · refine lv_iload_n hx hb dM_original_22 rfl (lv_at hl 3 rfl) ?_
          refine lv_if_lt (tgt := 36) hx hb dM_original_23 (by decide) (fun c_23 => ?_) (fun c_23 => ?_)
          · refine lv_iconst (v := nI 0) hx hb dM_original_36 (by decide) ?_
            have hPc := hP.sub (ws' := [(m0, .inr (4, [.ref n0, .ref n1, .ref n2, .int (nI cd), .int (nI dt), .ref e0, .ref e1, .int (nI rt), .ref e2, .ref e3, .ref e4, .int (nI sz9), .int (nI at9), .int (nI fl), .int pl, .int (nI wr), .ref e5]))]) [0] rfl
            have hDc := hD.sub (ws' := [(m0, .inr (4, [.ref n0, .ref n1, .ref n2, .int (nI cd), .int (nI dt), .ref e0, .ref e1, .int (nI rt), .ref e2, .ref e3, .ref e4, .int (nI sz9), .int (nI at9), .int (nI fl), .int pl, .int (nI wr), .ref e5]))]) [0] (by decide) rfl
            have hFc := va_free (wc := [(m0, .inr (4, [.ref n0, .ref n1, .ref n2, .int (nI cd), .int (nI dt), .ref e0, .ref e1, .int (nI rt), .ref e2, .ref e3, .ref e4, .int (nI sz9), .int (nI at9), .int (nI fl), .int pl, .int (nI wr), .ref e5]))]) hD hS hA [0] rfl
            refine zc_Mi (va_runV (As := [.int (nI 0)]) (rest := []) ⟨hx, hb, hml, hown, hw⟩ (c_goes_0 l dC dI m0 n0 n1 n2 cd dt e0 e1 rt e2 e3 e4 sz9 at9 fl pl wr e5 cI cB s.heap.size) (cwV 1 hw (gV w_ml_M_50 w_im_M_goes w_se_M_goes w_in_M w_co_M_goes) rfl rfl rfl (by decide +kernel) ⟨Nat.le_of_ble_eq_true rfl, Nat.le_of_ble_eq_true rfl⟩) (zM_V hG hS hFc hPc hDc hK 0 rfl rfl) rfl rfl hl.1 rfl (lv_room (Nat.le_of_ble_eq_true rfl)) dM_original_37 ⟨Nat.le_of_ble_eq_true rfl, Nat.le_of_ble_eq_true rfl⟩) hS hFc (fun r_5 H locs h_37 hP1 hD1 hk1 hS => ?_)
            obtain ⟨hP, hD⟩ := va_join (wr := []) (w1 := [(m0, .inr (4, [.ref n0, .ref n1, .ref n2, .int (nI 1), .int (nI dt), .ref e0, .ref e1, .int (nI rt), .ref e2, .ref e3, .ref e4, .int (nI sz9), .int (nI at9), .int (nI fl), .int pl, .int (nI wr), .ref e5]))]) hP hD [0] [] rfl rfl (by decide) (by decide) hk1 hFc hP1 hD1
            have hP : va_P (dC, dI) vwCl [(m0, .inr (4, [.ref n0, .ref n1, .ref n2, .int (nI 1), .int (nI dt), .ref e0, .ref e1, .int (nI rt), .ref e2, .ref e3, .ref e4, .int (nI sz9), .int (nI at9), .int (nI fl), .int pl, .int (nI wr), .ref e5]))] H := hP
            have hD : va_D A [(m0, .inr (4, [.ref n0, .ref n1, .ref n2, .int (nI 1), .int (nI dt), .ref e0, .ref e1, .int (nI rt), .ref e2, .ref e3, .ref e4, .int (nI sz9), .int (nI at9), .int (nI fl), .int pl, .int (nI wr), .ref e5]))] := hD
            subst h_37
            refine lv_if_eq (tgt := 63) hx hb dM_original_40 (by decide) (fun c_40 => ?_) (fun q => False.elim (absurd q (by decide)))
            subst hAe
            subst hQ
            exact W.vret hx hb hr (fun t ht hW => ⟨⟨(), rfl, trivial, by rw [ht]; exact hP.sub [0] rfl, hD.sub [0] (by decide) rfl⟩, hS.F ht⟩) hS.2.2 dM_original_63
          · refine lv_iload_n hx hb dM_original_26 rfl (lv_at hl 3 rfl) ?_
            refine lv_ldc (v := 99999) hx hb hown (hw _ w_k_M_77) dM_original_27 ?_
            refine zi_c (a := 99999) rfl ?_
            refine lv_icmp_gt (tgt := 36) hx hb dM_original_29 (by decide) (fun c_29 => ?_) (fun q => False.elim ((by rcases hx9 with h | h | h | h | h | h <;> contradiction)))
            refine lv_iconst (v := nI 0) hx hb dM_original_36 (by decide) ?_
            have hPc := hP.sub (ws' := [(m0, .inr (4, [.ref n0, .ref n1, .ref n2, .int (nI cd), .int (nI dt), .ref e0, .ref e1, .int (nI rt), .ref e2, .ref e3, .ref e4, .int (nI sz9), .int (nI at9), .int (nI fl), .int pl, .int (nI wr), .ref e5]))]) [0] rfl
            have hDc := hD.sub (ws' := [(m0, .inr (4, [.ref n0, .ref n1, .ref n2, .int (nI cd), .int (nI dt), .ref e0, .ref e1, .int (nI rt), .ref e2, .ref e3, .ref e4, .int (nI sz9), .int (nI at9), .int (nI fl), .int pl, .int (nI wr), .ref e5]))]) [0] (by decide) rfl
            have hFc := va_free (wc := [(m0, .inr (4, [.ref n0, .ref n1, .ref n2, .int (nI cd), .int (nI dt), .ref e0, .ref e1, .int (nI rt), .ref e2, .ref e3, .ref e4, .int (nI sz9), .int (nI at9), .int (nI fl), .int pl, .int (nI wr), .ref e5]))]) hD hS hA [0] rfl
            refine zc_Mi (va_runV (As := [.int (nI 0)]) (rest := []) ⟨hx, hb, hml, hown, hw⟩ (c_goes_0 l dC dI m0 n0 n1 n2 cd dt e0 e1 rt e2 e3 e4 sz9 at9 fl pl wr e5 cI cB s.heap.size) (cwV 1 hw (gV w_ml_M_50 w_im_M_goes w_se_M_goes w_in_M w_co_M_goes) rfl rfl rfl (by decide +kernel) ⟨Nat.le_of_ble_eq_true rfl, Nat.le_of_ble_eq_true rfl⟩) (zM_V hG hS hFc hPc hDc hK 0 rfl rfl) rfl rfl hl.1 rfl (lv_room (Nat.le_of_ble_eq_true rfl)) dM_original_37 ⟨Nat.le_of_ble_eq_true rfl, Nat.le_of_ble_eq_true rfl⟩) hS hFc (fun r_6 H locs h_37 hP1 hD1 hk1 hS => ?_)
            obtain ⟨hP, hD⟩ := va_join (wr := []) (w1 := [(m0, .inr (4, [.ref n0, .ref n1, .ref n2, .int (nI 1), .int (nI dt), .ref e0, .ref e1, .int (nI rt), .ref e2, .ref e3, .ref e4, .int (nI sz9), .int (nI at9), .int (nI fl), .int pl, .int (nI wr), .ref e5]))]) hP hD [0] [] rfl rfl (by decide) (by decide) hk1 hFc hP1 hD1
            have hP : va_P (dC, dI) vwCl [(m0, .inr (4, [.ref n0, .ref n1, .ref n2, .int (nI 1), .int (nI dt), .ref e0, .ref e1, .int (nI rt), .ref e2, .ref e3, .ref e4, .int (nI sz9), .int (nI at9), .int (nI fl), .int pl, .int (nI wr), .ref e5]))] H := hP
            have hD : va_D A [(m0, .inr (4, [.ref n0, .ref n1, .ref n2, .int (nI 1), .int (nI dt), .ref e0, .ref e1, .int (nI rt), .ref e2, .ref e3, .ref e4, .int (nI sz9), .int (nI at9), .int (nI fl), .int pl, .int (nI wr), .ref e5]))] := hD
            subst h_37
            refine lv_if_eq (tgt := 63) hx hb dM_original_40 (by decide) (fun c_40 => ?_) (fun q => False.elim (absurd q (by decide)))
            subst hAe
            subst hQ
            exact W.vret hx hb hr (fun t ht hW => ⟨⟨(), rfl, trivial, by rw [ht]; exact hP.sub [0] rfl, hD.sub [0] (by decide) rfl⟩, hS.F ht⟩) hS.2.2 dM_original_63
def rm_c_Momit_ok : Room := ({ frames := 1, cells := 0, slots := 0, locals := 23 } : Room)
set_option maxHeartbeats 4000000 in
set_option maxRecDepth 100000 in
theorem c_Momit_ok (l : Launch) (dC : Nat → ClassId) (dI : Nat → Nat → Nat) (m0 : Nat) (n0 : Nat) (n1 : Nat) (n2 : Nat) (cd : Nat) (dt : Nat) (e0 : Nat) (e1 : Nat) (rt : Nat) (e2 : Nat) (e3 : Nat) (e4 : Nat) (sz9 : Nat) (at9 : Nat) (fl : Nat) (pl : Int32) (wr : Nat) (e5 : Nat) (cI : ClassId) (cB : ClassId) (g : Nat → Nat) (k : Nat) (hk : k < 16) (hg : ∀ j, j < 16 → g j < 100) (sz : Nat) : Met l yM_omit wsM_omit rm_c_Momit_ok (zM (dC, dI) [(cI, .int), (cB, .byte)] [.ref m0, .int (nI (fFI k))] [(m0, .inr (4, [.ref n0, .ref n1, .ref n2, .int (nI cd), .int (nI dt), .ref e0, .ref e1, .int (nI rt), .ref e2, .ref e3, .ref e4, .int (nI sz9), .int (nI at9), .int (nI fl), .int pl, .int (nI wr), .ref e5])), (n0, .inl (cI, 16, .inl (aN fFI))), (e1, .inl (cI, 16, .inl (aP g)))] sz) (zMi (dC, dI) [(m0, .inr (4, [.ref n0, .ref n1, .ref n2, .int (nI cd), .int (nI dt), .ref e0, .ref e1, .int (nI rt), .ref e2, .ref e3, .ref e4, .int (nI sz9), .int (nI at9), .int (nI fl), .int pl, .int (nI wr), .ref e5])), (n0, .inl (cI, 16, .inl (aN fFI))), (e1, .inl (cI, 16, .inl (aP g)))] [(m0, .inr (4, [.ref n0, .ref n1, .ref n2, .int (nI 0), .int (nI dt), .ref e0, .ref e1, .int (nI rt), .ref e2, .ref e3, .ref e4, .int (nI sz9), .int (nI at9), .int (nI fl), .int pl, .int (nI wr), .ref e5])), (n0, .inl (cI, 16, .inl (aN fFI))), (e1, .inl (cI, 16, .inl (aP (nup g k 0))))] sz (fun r => r = nI (hz (g k)))) 0 0 (va_A [(m0, .inr (4, [.ref n0, .ref n1, .ref n2, .int (nI cd), .int (nI dt), .ref e0, .ref e1, .int (nI rt), .ref e2, .ref e3, .ref e4, .int (nI sz9), .int (nI at9), .int (nI fl), .int pl, .int (nI wr), .ref e5])), (n0, .inl (cI, 16, .inl (aN fFI))), (e1, .inl (cI, 16, .inl (aP g)))] sz) := by
  refine Met.ofW (cc := cM_omit) (maxL := 4) (ret := (some .boolean)) (by decide) rfl ?_
  intro p e s m args below meth c s₁ Bd hml hv
  obtain ⟨rfl, hsz, hG, hP, hK, hD0⟩ := hv
  subst hsz
  have hx := Bd.exec
  have hb := Bd.bytes
  have hr := Bd.returns
  have hts := atoms_spec (ws := wsM_omit) Bd.pre
  have hw : ∀ w ∈ BIG, w.before _ s = true := fun w h => hts w (List.mem_cons_of_mem _ h)
  have hown : s.vm.findClass RM = some m.cls := findClass_of_methodNamed Bd.named
  have hlocks := Bd.notSynchronized
  have hD := hD0.self (sz := s.heap.size)
  obtain ⟨A, hAe⟩ : ∃ A, A = va_A [(m0, .inr (4, [.ref n0, .ref n1, .ref n2, .int (nI cd), .int (nI dt), .ref e0, .ref e1, .int (nI rt), .ref e2, .ref e3, .ref e4, .int (nI sz9), .int (nI at9), .int (nI fl), .int pl, .int (nI wr), .ref e5])), (n0, .inl (cI, 16, .inl (aN fFI))), (e1, .inl (cI, 16, .inl (aP g)))] s.heap.size := ⟨_, rfl⟩
  have hA : ∀ q : Nat, s.heap.size ≤ q → A q := fun q h => by rw [hAe]; exact Or.inr h
  rw [← hAe] at hG hD
  have hS : va_S A s.heap s.heap [] := va_S.rf
  have hl := lv_entry ([.ref m0, .int (nI (fFI k))]) (n := 4) (Nat.le_of_ble_eq_true rfl)
  rw [lg_entry_eq]
  generalize (lg_sl ([.ref m0, .int (nI (fFI k))]) ++ List.replicate (4 - (lg_sl ([.ref m0, .int (nI (fFI k))])).length) Slot.unset).toArray = ls at hl ⊢
  have hl : lv_has ls 4 [(0, .ref m0), (1, .int (nI (fFI k)))] := hl
  refine zq_name (fun Q hQ => ?_)
  change W p l e rm_c_Momit_ok s m _ below meth c _ _ _ _ Q _
  have hgk := hg k hk
  refine lv_aload_n hx hb dM_omit_0 rfl (lv_at hl 0 rfl) ?_
  refine lv_iload_n hx hb dM_omit_1 rfl (lv_at hl 1 rfl) ?_
  refine zc_Ri (va_runV (As := [.int (nI (fFI k))]) (rest := []) ⟨hx, hb, hml, hown, hw⟩ (c_fieldOf_ok l dC dI m0 n0 n1 n2 cd dt e0 e1 rt e2 e3 e4 sz9 at9 fl pl wr e5 cI cB k (by omega) s.heap) (cwV 1 hw (gV w_ml_M_66 w_im_M_fieldOf w_se_M_fieldOf w_in_M w_co_M_fieldOf) rfl rfl rfl (by decide +kernel) ⟨Nat.le_of_ble_eq_true rfl, Nat.le_of_ble_eq_true rfl⟩) (zR_V hG hS (hP.sub (ws' := [(m0, .inr (4, [.ref n0, .ref n1, .ref n2, .int (nI cd), .int (nI dt), .ref e0, .ref e1, .int (nI rt), .ref e2, .ref e3, .ref e4, .int (nI sz9), .int (nI at9), .int (nI fl), .int pl, .int (nI wr), .ref e5])), (n0, .inl (cI, 16, .inl (aN fFI)))]) [0, 1] rfl) hK 0 rfl rfl) rfl rfl hl.1 rfl (lv_room (Nat.le_of_ble_eq_true rfl)) dM_omit_2 ⟨Nat.le_of_ble_eq_true rfl, Nat.le_of_ble_eq_true rfl⟩) hS (fun r_1 locs h_2 hS => ?_)
  subst h_2
  refine lv_istore_n (lv' := [(2, .int (nI k)), (0, .ref m0), (1, .int (nI (fFI k)))]) hx hb dM_omit_5 rfl hl (by decide) rfl (fun ls hl => ?_)
  refine lv_aload_n hx hb dM_omit_6 rfl (lv_at hl 1 rfl) ?_
  refine lv_iload_n hx hb dM_omit_7 rfl (lv_at hl 0 rfl) ?_
  refine zi_lt0 (tgt := 15) hx hb (by omega) dM_omit_8 (by decide) ?_
  refine lv_iconst (v := nI 1) hx hb dM_omit_11 (by decide) ?_
  refine lv_goto (tgt := 16) hx hb dM_omit_12 (by decide) ?_
  have hPc := hP.sub (ws' := [(m0, .inr (4, [.ref n0, .ref n1, .ref n2, .int (nI cd), .int (nI dt), .ref e0, .ref e1, .int (nI rt), .ref e2, .ref e3, .ref e4, .int (nI sz9), .int (nI at9), .int (nI fl), .int pl, .int (nI wr), .ref e5]))]) [0] rfl
  have hDc := hD.sub (ws' := [(m0, .inr (4, [.ref n0, .ref n1, .ref n2, .int (nI cd), .int (nI dt), .ref e0, .ref e1, .int (nI rt), .ref e2, .ref e3, .ref e4, .int (nI sz9), .int (nI at9), .int (nI fl), .int pl, .int (nI wr), .ref e5]))]) [0] (by decide) rfl
  have hFc := va_free (wc := [(m0, .inr (4, [.ref n0, .ref n1, .ref n2, .int (nI cd), .int (nI dt), .ref e0, .ref e1, .int (nI rt), .ref e2, .ref e3, .ref e4, .int (nI sz9), .int (nI at9), .int (nI fl), .int pl, .int (nI wr), .ref e5]))]) hD hS hA [0] rfl
  refine zc_Mi (va_runV (As := [.int (nI 1)]) (rest := []) ⟨hx, hb, hml, hown, hw⟩ (c_goes_1 l dC dI m0 n0 n1 n2 cd dt e0 e1 rt e2 e3 e4 sz9 at9 fl pl wr e5 cI cB s.heap.size) (cwV 1 hw (gV w_ml_M_50 w_im_M_goes w_se_M_goes w_in_M w_co_M_goes) rfl rfl rfl (by decide +kernel) ⟨Nat.le_of_ble_eq_true rfl, Nat.le_of_ble_eq_true rfl⟩) (zM_V hG hS hFc hPc hDc hK 0 rfl rfl) rfl rfl hl.1 rfl (lv_room (Nat.le_of_ble_eq_true rfl)) dM_omit_16 ⟨Nat.le_of_ble_eq_true rfl, Nat.le_of_ble_eq_true rfl⟩) hS hFc (fun r_2 H locs h_16 hP1 hD1 hk1 hS => ?_)
  obtain ⟨hP, hD⟩ := va_join (wr := [(n0, .inl (cI, 16, .inl (aN fFI))), (e1, .inl (cI, 16, .inl (aP g)))]) (w1 := [(m0, .inr (4, [.ref n0, .ref n1, .ref n2, .int (nI 0), .int (nI dt), .ref e0, .ref e1, .int (nI rt), .ref e2, .ref e3, .ref e4, .int (nI sz9), .int (nI at9), .int (nI fl), .int pl, .int (nI wr), .ref e5]))]) hP hD [0] [1, 2] rfl rfl (by decide) (by decide) hk1 hFc hP1 hD1
  have hP : va_P (dC, dI) vwCl [(n0, .inl (cI, 16, .inl (aN fFI))), (e1, .inl (cI, 16, .inl (aP g))), (m0, .inr (4, [.ref n0, .ref n1, .ref n2, .int (nI 0), .int (nI dt), .ref e0, .ref e1, .int (nI rt), .ref e2, .ref e3, .ref e4, .int (nI sz9), .int (nI at9), .int (nI fl), .int pl, .int (nI wr), .ref e5]))] H := hP
  have hD : va_D A [(n0, .inl (cI, 16, .inl (aN fFI))), (e1, .inl (cI, 16, .inl (aP g))), (m0, .inr (4, [.ref n0, .ref n1, .ref n2, .int (nI 0), .int (nI dt), .ref e0, .ref e1, .int (nI rt), .ref e2, .ref e3, .ref e4, .int (nI sz9), .int (nI at9), .int (nI fl), .int pl, .int (nI wr), .ref e5]))] := hD
  subst h_16
  refine lv_if_ne (tgt := 24) hx hb dM_omit_19 (by decide) (fun c_19 => ?_) (fun q => False.elim (absurd q (by decide)))
  refine lv_aload_n hx hb dM_omit_24 rfl (lv_at hl 1 rfl) ?_
  refine va_get (D := (dC, dI)) (ci := 4) (v := .ref e1) (C := RM) (T := TM) (N := 17) hx hb hw inM hown hK hP 2 rfl rfl 6 (by decide) (hw _ w_fl_M_26) (fun _ h9 => h9) rfl dM_omit_25 ?_
  refine lv_iload_n hx hb dM_omit_28 rfl (lv_at hl 0 rfl) ?_
  refine za_pld hx hb hK hP 1 0 rfl rfl (by omega) (by decide) dM_omit_29 ?_
  refine zp_lt0 (tgt := 37) hx hb (by omega) dM_omit_30 (by decide) (fun c_30 => ?_) (fun c_30 => ?_)
  · refine lv_iconst (v := nI 0) hx hb dM_omit_37 (by decide) ?_
    refine zi_v (b := nI (hz (g k))) (by unfold hz; rw [if_pos c_30]) ?_
    refine lv_istore_n (lv' := [(3, .int (nI (hz (g k)))), (2, .int (nI k)), (0, .ref m0), (1, .int (nI (fFI k)))]) hx hb dM_omit_38 rfl hl (by decide) rfl (fun ls hl => ?_)
    refine lv_aload_n hx hb dM_omit_39 rfl (lv_at hl 2 rfl) ?_
    refine va_get (D := (dC, dI)) (ci := 4) (v := .ref e1) (C := RM) (T := TM) (N := 17) hx hb hw inM hown hK hP 2 rfl rfl 6 (by decide) (hw _ w_fl_M_26) (fun _ h9 => h9) rfl dM_omit_40 ?_
    refine lv_iload_n hx hb dM_omit_43 rfl (lv_at hl 1 rfl) ?_
    refine lv_iconst (v := (-1)) hx hb dM_omit_44 (by decide) ?_
    refine zi_v (b := pm 0) (by decide) ?_
    refine za_pst hx hb hK hP hD hS 1 0 rfl rfl (by omega) (by decide) dM_omit_45 (fun H locs hP hD hS => ?_)
    have hP : va_P (dC, dI) vwCl [(n0, .inl (cI, 16, .inl (aN fFI))), (e1, .inl (cI, 16, .inl (aP (nup g k 0)))), (m0, .inr (4, [.ref n0, .ref n1, .ref n2, .int (nI 0), .int (nI dt), .ref e0, .ref e1, .int (nI rt), .ref e2, .ref e3, .ref e4, .int (nI sz9), .int (nI at9), .int (nI fl), .int pl, .int (nI wr), .ref e5]))] H := hP
    have hD : va_D A [(n0, .inl (cI, 16, .inl (aN fFI))), (e1, .inl (cI, 16, .inl (aP (nup g k 0)))), (m0, .inr (4, [.ref n0, .ref n1, .ref n2, .int (nI 0), .int (nI dt), .ref e0, .ref e1, .int (nI rt), .ref e2, .ref e3, .ref e4, .int (nI sz9), .int (nI at9), .int (nI fl), .int pl, .int (nI wr), .ref e5]))] := hD
    refine lv_iload_n hx hb dM_omit_46 rfl (lv_at hl 0 rfl) ?_
    subst hAe
    subst hQ
    exact W.zret (v := nI (hz (g k))) hx hb hr (hz_nar _) (fun t ht hW => ⟨⟨nI (hz (g k)), (), rfl, rfl, by rw [ht]; exact hP.sub [2, 0, 1] rfl, hD.sub [2, 0, 1] (by decide) rfl⟩, hS.F ht⟩) hS.2.2 dM_omit_47
  · refine lv_iconst (v := nI 1) hx hb dM_omit_33 (by decide) ?_
    refine lv_goto (tgt := 38) hx hb dM_omit_34 (by decide) ?_
    refine zi_v (b := nI (hz (g k))) (by unfold hz; rw [if_neg (by omega)]) ?_
    refine lv_istore_n (lv' := [(3, .int (nI (hz (g k)))), (2, .int (nI k)), (0, .ref m0), (1, .int (nI (fFI k)))]) hx hb dM_omit_38 rfl hl (by decide) rfl (fun ls hl => ?_)
    refine lv_aload_n hx hb dM_omit_39 rfl (lv_at hl 2 rfl) ?_
    refine va_get (D := (dC, dI)) (ci := 4) (v := .ref e1) (C := RM) (T := TM) (N := 17) hx hb hw inM hown hK hP 2 rfl rfl 6 (by decide) (hw _ w_fl_M_26) (fun _ h9 => h9) rfl dM_omit_40 ?_
    refine lv_iload_n hx hb dM_omit_43 rfl (lv_at hl 1 rfl) ?_
    refine lv_iconst (v := (-1)) hx hb dM_omit_44 (by decide) ?_
    refine zi_v (b := pm 0) (by decide) ?_
    refine za_pst hx hb hK hP hD hS 1 0 rfl rfl (by omega) (by decide) dM_omit_45 (fun H locs hP hD hS => ?_)
    have hP : va_P (dC, dI) vwCl [(n0, .inl (cI, 16, .inl (aN fFI))), (e1, .inl (cI, 16, .inl (aP (nup g k 0)))), (m0, .inr (4, [.ref n0, .ref n1, .ref n2, .int (nI 0), .int (nI dt), .ref e0, .ref e1, .int (nI rt), .ref e2, .ref e3, .ref e4, .int (nI sz9), .int (nI at9), .int (nI fl), .int pl, .int (nI wr), .ref e5]))] H := hP
    have hD : va_D A [(n0, .inl (cI, 16, .inl (aN fFI))), (e1, .inl (cI, 16, .inl (aP (nup g k 0)))), (m0, .inr (4, [.ref n0, .ref n1, .ref n2, .int (nI 0), .int (nI dt), .ref e0, .ref e1, .int (nI rt), .ref e2, .ref e3, .ref e4, .int (nI sz9), .int (nI at9), .int (nI fl), .int pl, .int (nI wr), .ref e5]))] := hD
    refine lv_iload_n hx hb dM_omit_46 rfl (lv_at hl 0 rfl) ?_
    subst hAe
    subst hQ
    exact W.zret (v := nI (hz (g k))) hx hb hr (hz_nar _) (fun t ht hW => ⟨⟨nI (hz (g k)), (), rfl, rfl, by rw [ht]; exact hP.sub [2, 0, 1] rfl, hD.sub [2, 0, 1] (by decide) rfl⟩, hS.F ht⟩) hS.2.2 dM_omit_47
def rm_c_Momit_no : Room := ({ frames := 1, cells := 0, slots := 0, locals := 23 } : Room)
set_option maxHeartbeats 4000000 in
set_option maxRecDepth 100000 in
theorem c_Momit_no (l : Launch) (dC : Nat → ClassId) (dI : Nat → Nat → Nat) (m0 : Nat) (n0 : Nat) (n1 : Nat) (n2 : Nat) (cd : Nat) (dt : Nat) (e0 : Nat) (e1 : Nat) (rt : Nat) (e2 : Nat) (e3 : Nat) (e4 : Nat) (sz9 : Nat) (at9 : Nat) (fl : Nat) (pl : Int32) (wr : Nat) (e5 : Nat) (cI : ClassId) (cB : ClassId) (x9 : Int32) (hx9 : ∀ j, j < 16 → nI (fFI j) ≠ x9) (sz : Nat) : Met l yM_omit wsM_omit rm_c_Momit_no (zM (dC, dI) [(cI, .int), (cB, .byte)] [.ref m0, .int x9] [(m0, .inr (4, [.ref n0, .ref n1, .ref n2, .int (nI cd), .int (nI dt), .ref e0, .ref e1, .int (nI rt), .ref e2, .ref e3, .ref e4, .int (nI sz9), .int (nI at9), .int (nI fl), .int pl, .int (nI wr), .ref e5])), (n0, .inl (cI, 16, .inl (aN fFI)))] sz) (zMi (dC, dI) [(m0, .inr (4, [.ref n0, .ref n1, .ref n2, .int (nI cd), .int (nI dt), .ref e0, .ref e1, .int (nI rt), .ref e2, .ref e3, .ref e4, .int (nI sz9), .int (nI at9), .int (nI fl), .int pl, .int (nI wr), .ref e5])), (n0, .inl (cI, 16, .inl (aN fFI)))] [(m0, .inr (4, [.ref n0, .ref n1, .ref n2, .int (nI 1), .int (nI dt), .ref e0, .ref e1, .int (nI rt), .ref e2, .ref e3, .ref e4, .int (nI sz9), .int (nI at9), .int (nI fl), .int pl, .int (nI wr), .ref e5])), (n0, .inl (cI, 16, .inl (aN fFI)))] sz (fun r => r = nI 0)) 0 0 (va_A [(m0, .inr (4, [.ref n0, .ref n1, .ref n2, .int (nI cd), .int (nI dt), .ref e0, .ref e1, .int (nI rt), .ref e2, .ref e3, .ref e4, .int (nI sz9), .int (nI at9), .int (nI fl), .int pl, .int (nI wr), .ref e5])), (n0, .inl (cI, 16, .inl (aN fFI)))] sz) := by
  refine Met.ofW (cc := cM_omit) (maxL := 4) (ret := (some .boolean)) (by decide) rfl ?_
  intro p e s m args below meth c s₁ Bd hml hv
  obtain ⟨rfl, hsz, hG, hP, hK, hD0⟩ := hv
  subst hsz
  have hx := Bd.exec
  have hb := Bd.bytes
  have hr := Bd.returns
  have hts := atoms_spec (ws := wsM_omit) Bd.pre
  have hw : ∀ w ∈ BIG, w.before _ s = true := fun w h => hts w (List.mem_cons_of_mem _ h)
  have hown : s.vm.findClass RM = some m.cls := findClass_of_methodNamed Bd.named
  have hlocks := Bd.notSynchronized
  have hD := hD0.self (sz := s.heap.size)
  obtain ⟨A, hAe⟩ : ∃ A, A = va_A [(m0, .inr (4, [.ref n0, .ref n1, .ref n2, .int (nI cd), .int (nI dt), .ref e0, .ref e1, .int (nI rt), .ref e2, .ref e3, .ref e4, .int (nI sz9), .int (nI at9), .int (nI fl), .int pl, .int (nI wr), .ref e5])), (n0, .inl (cI, 16, .inl (aN fFI)))] s.heap.size := ⟨_, rfl⟩
  have hA : ∀ q : Nat, s.heap.size ≤ q → A q := fun q h => by rw [hAe]; exact Or.inr h
  rw [← hAe] at hG hD
  have hS : va_S A s.heap s.heap [] := va_S.rf
  have hl := lv_entry ([.ref m0, .int x9]) (n := 4) (Nat.le_of_ble_eq_true rfl)
  rw [lg_entry_eq]
  generalize (lg_sl ([.ref m0, .int x9]) ++ List.replicate (4 - (lg_sl ([.ref m0, .int x9])).length) Slot.unset).toArray = ls at hl ⊢
  have hl : lv_has ls 4 [(0, .ref m0), (1, .int x9)] := hl
  refine zq_name (fun Q hQ => ?_)
  change W p l e rm_c_Momit_no s m _ below meth c _ _ _ _ Q _
  refine lv_aload_n hx hb dM_omit_0 rfl (lv_at hl 0 rfl) ?_
  refine lv_iload_n hx hb dM_omit_1 rfl (lv_at hl 1 rfl) ?_
  refine zc_Ri (va_runV (As := [.int x9]) (rest := []) ⟨hx, hb, hml, hown, hw⟩ (c_fieldOf_no l dC dI m0 n0 n1 n2 cd dt e0 e1 rt e2 e3 e4 sz9 at9 fl pl wr e5 cI cB x9 hx9 s.heap) (cwV 1 hw (gV w_ml_M_66 w_im_M_fieldOf w_se_M_fieldOf w_in_M w_co_M_fieldOf) rfl rfl rfl (by decide +kernel) ⟨Nat.le_of_ble_eq_true rfl, Nat.le_of_ble_eq_true rfl⟩) (zR_V hG hS (hP.sub (ws' := [(m0, .inr (4, [.ref n0, .ref n1, .ref n2, .int (nI cd), .int (nI dt), .ref e0, .ref e1, .int (nI rt), .ref e2, .ref e3, .ref e4, .int (nI sz9), .int (nI at9), .int (nI fl), .int pl, .int (nI wr), .ref e5])), (n0, .inl (cI, 16, .inl (aN fFI)))]) [0, 1] rfl) hK 0 rfl rfl) rfl rfl hl.1 rfl (lv_room (Nat.le_of_ble_eq_true rfl)) dM_omit_2 ⟨Nat.le_of_ble_eq_true rfl, Nat.le_of_ble_eq_true rfl⟩) hS (fun r_1 locs h_2 hS => ?_)
  subst h_2
  refine lv_istore_n (lv' := [(2, .int (-1)), (0, .ref m0), (1, .int x9)]) hx hb dM_omit_5 rfl hl (by decide) rfl (fun ls hl => ?_)
  refine lv_aload_n hx hb dM_omit_6 rfl (lv_at hl 1 rfl) ?_
  refine lv_iload_n hx hb dM_omit_7 rfl (lv_at hl 0 rfl) ?_
  refine lv_if_lt (tgt := 15) hx hb dM_omit_8 (by decide) (fun c_8 => ?_) (fun q => False.elim (absurd q (by decide)))
  refine lv_iconst (v := nI 0) hx hb dM_omit_15 (by decide) ?_
  have hPc := hP.sub (ws' := [(m0, .inr (4, [.ref n0, .ref n1, .ref n2, .int (nI cd), .int (nI dt), .ref e0, .ref e1, .int (nI rt), .ref e2, .ref e3, .ref e4, .int (nI sz9), .int (nI at9), .int (nI fl), .int pl, .int (nI wr), .ref e5]))]) [0] rfl
  have hDc := hD.sub (ws' := [(m0, .inr (4, [.ref n0, .ref n1, .ref n2, .int (nI cd), .int (nI dt), .ref e0, .ref e1, .int (nI rt), .ref e2, .ref e3, .ref e4, .int (nI sz9), .int (nI at9), .int (nI fl), .int pl, .int (nI wr), .ref e5]))]) [0] (by decide) rfl
  have hFc := va_free (wc := [(m0, .inr (4, [.ref n0, .ref n1, .ref n2, .int (nI cd), .int (nI dt), .ref e0, .ref e1, .int (nI rt), .ref e2, .ref e3, .ref e4, .int (nI sz9), .int (nI at9), .int (nI fl), .int pl, .int (nI wr), .ref e5]))]) hD hS hA [0] rfl
  refine zc_Mi (va_runV (As := [.int (nI 0)]) (rest := []) ⟨hx, hb, hml, hown, hw⟩ (c_goes_0 l dC dI m0 n0 n1 n2 cd dt e0 e1 rt e2 e3 e4 sz9 at9 fl pl wr e5 cI cB s.heap.size) (cwV 1 hw (gV w_ml_M_50 w_im_M_goes w_se_M_goes w_in_M w_co_M_goes) rfl rfl rfl (by decide +kernel) ⟨Nat.le_of_ble_eq_true rfl, Nat.le_of_ble_eq_true rfl⟩) (zM_V hG hS hFc hPc hDc hK 0 rfl rfl) rfl rfl hl.1 rfl (lv_room (Nat.le_of_ble_eq_true rfl)) dM_omit_16 ⟨Nat.le_of_ble_eq_true rfl, Nat.le_of_ble_eq_true rfl⟩) hS hFc (fun r_2 H locs h_16 hP1 hD1 hk1 hS => ?_)
  obtain ⟨hP, hD⟩ := va_join (wr := [(n0, .inl (cI, 16, .inl (aN fFI)))]) (w1 := [(m0, .inr (4, [.ref n0, .ref n1, .ref n2, .int (nI 1), .int (nI dt), .ref e0, .ref e1, .int (nI rt), .ref e2, .ref e3, .ref e4, .int (nI sz9), .int (nI at9), .int (nI fl), .int pl, .int (nI wr), .ref e5]))]) hP hD [0] [1] rfl rfl (by decide) (by decide) hk1 hFc hP1 hD1
  have hP : va_P (dC, dI) vwCl [(n0, .inl (cI, 16, .inl (aN fFI))), (m0, .inr (4, [.ref n0, .ref n1, .ref n2, .int (nI 1), .int (nI dt), .ref e0, .ref e1, .int (nI rt), .ref e2, .ref e3, .ref e4, .int (nI sz9), .int (nI at9), .int (nI fl), .int pl, .int (nI wr), .ref e5]))] H := hP
  have hD : va_D A [(n0, .inl (cI, 16, .inl (aN fFI))), (m0, .inr (4, [.ref n0, .ref n1, .ref n2, .int (nI 1), .int (nI dt), .ref e0, .ref e1, .int (nI rt), .ref e2, .ref e3, .ref e4, .int (nI sz9), .int (nI at9), .int (nI fl), .int pl, .int (nI wr), .ref e5]))] := hD
  subst h_16
  refine lv_if_ne (tgt := 24) hx hb dM_omit_19 (by decide) (fun q => False.elim (absurd q (by decide))) (fun c_19 => ?_)
  refine lv_iconst (v := nI 0) hx hb dM_omit_22 (by decide) ?_
  subst hAe
  subst hQ
  exact W.zret (v := nI 0) hx hb hr (by decide) (fun t ht hW => ⟨⟨nI 0, (), rfl, rfl, by rw [ht]; exact hP.sub [1, 0] rfl, hD.sub [1, 0] (by decide) rfl⟩, hS.F ht⟩) hS.2.2 dM_omit_23
def rm_c_Mtype : Room := ({ frames := 0, cells := 0, slots := 0, locals := 0 } : Room)
set_option maxHeartbeats 4000000 in
set_option maxRecDepth 100000 in
theorem c_Mtype (l : Launch) (dC : Nat → ClassId) (dI : Nat → Nat → Nat) (m0 : Nat) (n0 : Nat) (n1 : Nat) (n2 : Nat) (cd : Nat) (dt : Nat) (e0 : Nat) (e1 : Nat) (rt : Nat) (e2 : Nat) (e3 : Nat) (e4 : Nat) (sz9 : Nat) (at9 : Nat) (fl : Nat) (pl : Int32) (wr : Nat) (e5 : Nat) (cI : ClassId) (cB : ClassId) (sz : Nat) : Met l yM_type wsM_type rm_c_Mtype (zM (dC, dI) [(cI, .int), (cB, .byte)] [.ref m0] [(m0, .inr (4, [.ref n0, .ref n1, .ref n2, .int (nI cd), .int (nI dt), .ref e0, .ref e1, .int (nI rt), .ref e2, .ref e3, .ref e4, .int (nI sz9), .int (nI at9), .int (nI fl), .int pl, .int (nI wr), .ref e5]))] sz) (zMi (dC, dI) [(m0, .inr (4, [.ref n0, .ref n1, .ref n2, .int (nI cd), .int (nI dt), .ref e0, .ref e1, .int (nI rt), .ref e2, .ref e3, .ref e4, .int (nI sz9), .int (nI at9), .int (nI fl), .int pl, .int (nI wr), .ref e5]))] [(m0, .inr (4, [.ref n0, .ref n1, .ref n2, .int (nI 0), .int (nI dt), .ref e0, .ref e1, .int (nI rt), .ref e2, .ref e3, .ref e4, .int (nI sz9), .int (nI at9), .int (nI fl), .int pl, .int (nI wr), .ref e5]))] sz (fun r => r = nI dt)) 0 0 (va_A [(m0, .inr (4, [.ref n0, .ref n1, .ref n2, .int (nI cd), .int (nI dt), .ref e0, .ref e1, .int (nI rt), .ref e2, .ref e3, .ref e4, .int (nI sz9), .int (nI at9), .int (nI fl), .int pl, .int (nI wr), .ref e5]))] sz) := by
  refine Met.ofW (cc := cM_type) (maxL := 1) (ret := (some .int)) (by decide) rfl ?_
  intro p e s m args below meth c s₁ Bd hml hv
  obtain ⟨rfl, hsz, hG, hP, hK, hD0⟩ := hv
  subst hsz
  have hx := Bd.exec
  have hb := Bd.bytes
  have hr := Bd.returns
  have hts := atoms_spec (ws := wsM_type) Bd.pre
  have hw : ∀ w ∈ BIG, w.before _ s = true := fun w h => hts w (List.mem_cons_of_mem _ h)
  have hown : s.vm.findClass RM = some m.cls := findClass_of_methodNamed Bd.named
  have hlocks := Bd.notSynchronized
  have hD := hD0.self (sz := s.heap.size)
  obtain ⟨A, hAe⟩ : ∃ A, A = va_A [(m0, .inr (4, [.ref n0, .ref n1, .ref n2, .int (nI cd), .int (nI dt), .ref e0, .ref e1, .int (nI rt), .ref e2, .ref e3, .ref e4, .int (nI sz9), .int (nI at9), .int (nI fl), .int pl, .int (nI wr), .ref e5]))] s.heap.size := ⟨_, rfl⟩
  have hA : ∀ q : Nat, s.heap.size ≤ q → A q := fun q h => by rw [hAe]; exact Or.inr h
  rw [← hAe] at hG hD
  have hS : va_S A s.heap s.heap [] := va_S.rf
  have hl := lv_entry ([.ref m0]) (n := 1) (Nat.le_of_ble_eq_true rfl)
  rw [lg_entry_eq]
  generalize (lg_sl ([.ref m0]) ++ List.replicate (1 - (lg_sl ([.ref m0])).length) Slot.unset).toArray = ls at hl ⊢
  have hl : lv_has ls 1 [(0, .ref m0)] := hl
  refine zq_name (fun Q hQ => ?_)
  change W p l e rm_c_Mtype s m _ below meth c _ _ _ _ Q _
  refine lv_aload_n hx hb dM_type_0 rfl (lv_at hl 0 rfl) ?_
  refine lv_iconst (v := nI 0) hx hb dM_type_1 (by decide) ?_
  refine va_put (D := (dC, dI)) (ci := 4) (v := .int (nI 0)) (ty := .int) (C := RM) (T := TM) (N := 17) hx hb hw inM tyM tyM_ok nmM hown hK hP hD hS 0 rfl rfl 3 (by decide) (hw _ w_fl_M_45) (fun _ h9 => h9) rfl (by decide +kernel) rfl rfl (Nat.le_of_ble_eq_true rfl) dM_type_2 (fun H locs hP hD hS => ?_)
  have hP : va_P (dC, dI) vwCl [(m0, .inr (4, [.ref n0, .ref n1, .ref n2, .int (nI 0), .int (nI dt), .ref e0, .ref e1, .int (nI rt), .ref e2, .ref e3, .ref e4, .int (nI sz9), .int (nI at9), .int (nI fl), .int pl, .int (nI wr), .ref e5]))] H := hP
  have hD : va_D A [(m0, .inr (4, [.ref n0, .ref n1, .ref n2, .int (nI 0), .int (nI dt), .ref e0, .ref e1, .int (nI rt), .ref e2, .ref e3, .ref e4, .int (nI sz9), .int (nI at9), .int (nI fl), .int pl, .int (nI wr), .ref e5]))] := hD
  refine lv_aload_n hx hb dM_type_5 rfl (lv_at hl 0 rfl) ?_
  refine va_get (D := (dC, dI)) (ci := 4) (v := .int (nI dt)) (C := RM) (T := TM) (N := 17) hx hb hw inM hown hK hP 0 rfl rfl 4 (by decide) (hw _ w_fl_M_19) (fun _ h9 => h9) rfl dM_type_6 ?_
  subst hAe
  subst hQ
  exact W.iret (v := nI dt) hx hb hr (fun t ht hW => ⟨⟨nI dt, (), rfl, rfl, by rw [ht]; exact hP.sub [0] rfl, hD.sub [0] (by decide) rfl⟩, hS.F ht⟩) hS.2.2 dM_type_9
def rm_c_Msize_ok : Room := ({ frames := 1, cells := 0, slots := 0, locals := 23 } : Room)
set_option maxHeartbeats 4000000 in
set_option maxRecDepth 100000 in
theorem c_Msize_ok (l : Launch) (dC : Nat → ClassId) (dI : Nat → Nat → Nat) (m0 : Nat) (n0 : Nat) (n1 : Nat) (n2 : Nat) (cd : Nat) (dt : Nat) (e0 : Nat) (e1 : Nat) (rt : Nat) (e2 : Nat) (e3 : Nat) (e4 : Nat) (sz9 : Nat) (at9 : Nat) (fl : Nat) (pl : Int32) (wr : Nat) (e5 : Nat) (cI : ClassId) (cB : ClassId) (g : Nat → Nat) (k : Nat) (hk : k < 16) (sz : Nat) : Met l yM_size wsM_size rm_c_Msize_ok (zM (dC, dI) [(cI, .int), (cB, .byte)] [.ref m0, .int (nI (fFI k))] [(m0, .inr (4, [.ref n0, .ref n1, .ref n2, .int (nI cd), .int (nI dt), .ref e0, .ref e1, .int (nI rt), .ref e2, .ref e3, .ref e4, .int (nI sz9), .int (nI at9), .int (nI fl), .int pl, .int (nI wr), .ref e5])), (n0, .inl (cI, 16, .inl (aN fFI))), (e1, .inl (cI, 16, .inl (aP g)))] sz) (zMi (dC, dI) [(m0, .inr (4, [.ref n0, .ref n1, .ref n2, .int (nI cd), .int (nI dt), .ref e0, .ref e1, .int (nI rt), .ref e2, .ref e3, .ref e4, .int (nI sz9), .int (nI at9), .int (nI fl), .int pl, .int (nI wr), .ref e5])), (n0, .inl (cI, 16, .inl (aN fFI))), (e1, .inl (cI, 16, .inl (aP g)))] [(m0, .inr (4, [.ref n0, .ref n1, .ref n2, .int (nI 0), .int (nI dt), .ref e0, .ref e1, .int (nI rt), .ref e2, .ref e3, .ref e4, .int (nI sz9), .int (nI at9), .int (nI fl), .int pl, .int (nI wr), .ref e5])), (n0, .inl (cI, 16, .inl (aN fFI))), (e1, .inl (cI, 16, .inl (aP g)))] sz (fun r => r = pm (g k))) 0 0 (va_A [(m0, .inr (4, [.ref n0, .ref n1, .ref n2, .int (nI cd), .int (nI dt), .ref e0, .ref e1, .int (nI rt), .ref e2, .ref e3, .ref e4, .int (nI sz9), .int (nI at9), .int (nI fl), .int pl, .int (nI wr), .ref e5])), (n0, .inl (cI, 16, .inl (aN fFI))), (e1, .inl (cI, 16, .inl (aP g)))] sz) := by
  refine Met.ofW (cc := cM_size) (maxL := 3) (ret := (some .int)) (by decide) rfl ?_
  intro p e s m args below meth c s₁ Bd hml hv
  obtain ⟨rfl, hsz, hG, hP, hK, hD0⟩ := hv
  subst hsz
  have hx := Bd.exec
  have hb := Bd.bytes
  have hr := Bd.returns
  have hts := atoms_spec (ws := wsM_size) Bd.pre
  have hw : ∀ w ∈ BIG, w.before _ s = true := fun w h => hts w (List.mem_cons_of_mem _ h)
  have hown : s.vm.findClass RM = some m.cls := findClass_of_methodNamed Bd.named
  have hlocks := Bd.notSynchronized
  have hD := hD0.self (sz := s.heap.size)
  obtain ⟨A, hAe⟩ : ∃ A, A = va_A [(m0, .inr (4, [.ref n0, .ref n1, .ref n2, .int (nI cd), .int (nI dt), .ref e0, .ref e1, .int (nI rt), .ref e2, .ref e3, .ref e4, .int (nI sz9), .int (nI at9), .int (nI fl), .int pl, .int (nI wr), .ref e5])), (n0, .inl (cI, 16, .inl (aN fFI))), (e1, .inl (cI, 16, .inl (aP g)))] s.heap.size := ⟨_, rfl⟩
  have hA : ∀ q : Nat, s.heap.size ≤ q → A q := fun q h => by rw [hAe]; exact Or.inr h
  rw [← hAe] at hG hD
  have hS : va_S A s.heap s.heap [] := va_S.rf
  have hl := lv_entry ([.ref m0, .int (nI (fFI k))]) (n := 3) (Nat.le_of_ble_eq_true rfl)
  rw [lg_entry_eq]
  generalize (lg_sl ([.ref m0, .int (nI (fFI k))]) ++ List.replicate (3 - (lg_sl ([.ref m0, .int (nI (fFI k))])).length) Slot.unset).toArray = ls at hl ⊢
  have hl : lv_has ls 3 [(0, .ref m0), (1, .int (nI (fFI k)))] := hl
  refine zq_name (fun Q hQ => ?_)
  change W p l e rm_c_Msize_ok s m _ below meth c _ _ _ _ Q _
  refine lv_aload_n hx hb dM_size_0 rfl (lv_at hl 0 rfl) ?_
  refine lv_iload_n hx hb dM_size_1 rfl (lv_at hl 1 rfl) ?_
  refine zc_Ri (va_runV (As := [.int (nI (fFI k))]) (rest := []) ⟨hx, hb, hml, hown, hw⟩ (c_fieldOf_ok l dC dI m0 n0 n1 n2 cd dt e0 e1 rt e2 e3 e4 sz9 at9 fl pl wr e5 cI cB k (by omega) s.heap) (cwV 1 hw (gV w_ml_M_66 w_im_M_fieldOf w_se_M_fieldOf w_in_M w_co_M_fieldOf) rfl rfl rfl (by decide +kernel) ⟨Nat.le_of_ble_eq_true rfl, Nat.le_of_ble_eq_true rfl⟩) (zR_V hG hS (hP.sub (ws' := [(m0, .inr (4, [.ref n0, .ref n1, .ref n2, .int (nI cd), .int (nI dt), .ref e0, .ref e1, .int (nI rt), .ref e2, .ref e3, .ref e4, .int (nI sz9), .int (nI at9), .int (nI fl), .int pl, .int (nI wr), .ref e5])), (n0, .inl (cI, 16, .inl (aN fFI)))]) [0, 1] rfl) hK 0 rfl rfl) rfl rfl hl.1 rfl (lv_room (Nat.le_of_ble_eq_true rfl)) dM_size_2 ⟨Nat.le_of_ble_eq_true rfl, Nat.le_of_ble_eq_true rfl⟩) hS (fun r_1 locs h_2 hS => ?_)
  subst h_2
  refine lv_istore_n (lv' := [(2, .int (nI k)), (0, .ref m0), (1, .int (nI (fFI k)))]) hx hb dM_size_5 rfl hl (by decide) rfl (fun ls hl => ?_)
  refine lv_aload_n hx hb dM_size_6 rfl (lv_at hl 1 rfl) ?_
  refine lv_iload_n hx hb dM_size_7 rfl (lv_at hl 0 rfl) ?_
  refine zi_lt0 (tgt := 15) hx hb (by omega) dM_size_8 (by decide) ?_
  refine lv_iconst (v := nI 1) hx hb dM_size_11 (by decide) ?_
  refine lv_goto (tgt := 16) hx hb dM_size_12 (by decide) ?_
  have hPc := hP.sub (ws' := [(m0, .inr (4, [.ref n0, .ref n1, .ref n2, .int (nI cd), .int (nI dt), .ref e0, .ref e1, .int (nI rt), .ref e2, .ref e3, .ref e4, .int (nI sz9), .int (nI at9), .int (nI fl), .int pl, .int (nI wr), .ref e5]))]) [0] rfl
  have hDc := hD.sub (ws' := [(m0, .inr (4, [.ref n0, .ref n1, .ref n2, .int (nI cd), .int (nI dt), .ref e0, .ref e1, .int (nI rt), .ref e2, .ref e3, .ref e4, .int (nI sz9), .int (nI at9), .int (nI fl), .int pl, .int (nI wr), .ref e5]))]) [0] (by decide) rfl
  have hFc := va_free (wc := [(m0, .inr (4, [.ref n0, .ref n1, .ref n2, .int (nI cd), .int (nI dt), .ref e0, .ref e1, .int (nI rt), .ref e2, .ref e3, .ref e4, .int (nI sz9), .int (nI at9), .int (nI fl), .int pl, .int (nI wr), .ref e5]))]) hD hS hA [0] rfl
  refine zc_Mi (va_runV (As := [.int (nI 1)]) (rest := []) ⟨hx, hb, hml, hown, hw⟩ (c_goes_1 l dC dI m0 n0 n1 n2 cd dt e0 e1 rt e2 e3 e4 sz9 at9 fl pl wr e5 cI cB s.heap.size) (cwV 1 hw (gV w_ml_M_50 w_im_M_goes w_se_M_goes w_in_M w_co_M_goes) rfl rfl rfl (by decide +kernel) ⟨Nat.le_of_ble_eq_true rfl, Nat.le_of_ble_eq_true rfl⟩) (zM_V hG hS hFc hPc hDc hK 0 rfl rfl) rfl rfl hl.1 rfl (lv_room (Nat.le_of_ble_eq_true rfl)) dM_size_16 ⟨Nat.le_of_ble_eq_true rfl, Nat.le_of_ble_eq_true rfl⟩) hS hFc (fun r_2 H locs h_16 hP1 hD1 hk1 hS => ?_)
  obtain ⟨hP, hD⟩ := va_join (wr := [(n0, .inl (cI, 16, .inl (aN fFI))), (e1, .inl (cI, 16, .inl (aP g)))]) (w1 := [(m0, .inr (4, [.ref n0, .ref n1, .ref n2, .int (nI 0), .int (nI dt), .ref e0, .ref e1, .int (nI rt), .ref e2, .ref e3, .ref e4, .int (nI sz9), .int (nI at9), .int (nI fl), .int pl, .int (nI wr), .ref e5]))]) hP hD [0] [1, 2] rfl rfl (by decide) (by decide) hk1 hFc hP1 hD1
  have hP : va_P (dC, dI) vwCl [(n0, .inl (cI, 16, .inl (aN fFI))), (e1, .inl (cI, 16, .inl (aP g))), (m0, .inr (4, [.ref n0, .ref n1, .ref n2, .int (nI 0), .int (nI dt), .ref e0, .ref e1, .int (nI rt), .ref e2, .ref e3, .ref e4, .int (nI sz9), .int (nI at9), .int (nI fl), .int pl, .int (nI wr), .ref e5]))] H := hP
  have hD : va_D A [(n0, .inl (cI, 16, .inl (aN fFI))), (e1, .inl (cI, 16, .inl (aP g))), (m0, .inr (4, [.ref n0, .ref n1, .ref n2, .int (nI 0), .int (nI dt), .ref e0, .ref e1, .int (nI rt), .ref e2, .ref e3, .ref e4, .int (nI sz9), .int (nI at9), .int (nI fl), .int pl, .int (nI wr), .ref e5]))] := hD
  subst h_16
  refine lv_if_eq (tgt := 31) hx hb dM_size_19 (by decide) (fun q => False.elim (absurd q (by decide))) (fun c_19 => ?_)
  refine lv_aload_n hx hb dM_size_22 rfl (lv_at hl 1 rfl) ?_
  refine va_get (D := (dC, dI)) (ci := 4) (v := .ref e1) (C := RM) (T := TM) (N := 17) hx hb hw inM hown hK hP 2 rfl rfl 6 (by decide) (hw _ w_fl_M_26) (fun _ h9 => h9) rfl dM_size_23 ?_
  refine lv_iload_n hx hb dM_size_26 rfl (lv_at hl 0 rfl) ?_
  refine za_pld hx hb hK hP 1 0 rfl rfl (by omega) (by decide) dM_size_27 ?_
  refine lv_goto (tgt := 32) hx hb dM_size_28 (by decide) ?_
  subst hAe
  subst hQ
  exact W.iret (v := pm (g k)) hx hb hr (fun t ht hW => ⟨⟨pm (g k), (), rfl, rfl, by rw [ht]; exact hP.sub [2, 0, 1] rfl, hD.sub [2, 0, 1] (by decide) rfl⟩, hS.F ht⟩) hS.2.2 dM_size_32
def rm_c_Msize_no : Room := ({ frames := 1, cells := 0, slots := 0, locals := 23 } : Room)
set_option maxHeartbeats 4000000 in
set_option maxRecDepth 100000 in
theorem c_Msize_no (l : Launch) (dC : Nat → ClassId) (dI : Nat → Nat → Nat) (m0 : Nat) (n0 : Nat) (n1 : Nat) (n2 : Nat) (cd : Nat) (dt : Nat) (e0 : Nat) (e1 : Nat) (rt : Nat) (e2 : Nat) (e3 : Nat) (e4 : Nat) (sz9 : Nat) (at9 : Nat) (fl : Nat) (pl : Int32) (wr : Nat) (e5 : Nat) (cI : ClassId) (cB : ClassId) (x9 : Int32) (hx9 : ∀ j, j < 16 → nI (fFI j) ≠ x9) (sz : Nat) : Met l yM_size wsM_size rm_c_Msize_no (zM (dC, dI) [(cI, .int), (cB, .byte)] [.ref m0, .int x9] [(m0, .inr (4, [.ref n0, .ref n1, .ref n2, .int (nI cd), .int (nI dt), .ref e0, .ref e1, .int (nI rt), .ref e2, .ref e3, .ref e4, .int (nI sz9), .int (nI at9), .int (nI fl), .int pl, .int (nI wr), .ref e5])), (n0, .inl (cI, 16, .inl (aN fFI)))] sz) (zMi (dC, dI) [(m0, .inr (4, [.ref n0, .ref n1, .ref n2, .int (nI cd), .int (nI dt), .ref e0, .ref e1, .int (nI rt), .ref e2, .ref e3, .ref e4, .int (nI sz9), .int (nI at9), .int (nI fl), .int pl, .int (nI wr), .ref e5])), (n0, .inl (cI, 16, .inl (aN fFI)))] [(m0, .inr (4, [.ref n0, .ref n1, .ref n2, .int (nI 1), .int (nI dt), .ref e0, .ref e1, .int (nI rt), .ref e2, .ref e3, .ref e4, .int (nI sz9), .int (nI at9), .int (nI fl), .int pl, .int (nI wr), .ref e5])), (n0, .inl (cI, 16, .inl (aN fFI)))] sz (fun r => r = nI 0)) 0 0 (va_A [(m0, .inr (4, [.ref n0, .ref n1, .ref n2, .int (nI cd), .int (nI dt), .ref e0, .ref e1, .int (nI rt), .ref e2, .ref e3, .ref e4, .int (nI sz9), .int (nI at9), .int (nI fl), .int pl, .int (nI wr), .ref e5])), (n0, .inl (cI, 16, .inl (aN fFI)))] sz) := by
  refine Met.ofW (cc := cM_size) (maxL := 3) (ret := (some .int)) (by decide) rfl ?_
  intro p e s m args below meth c s₁ Bd hml hv
  obtain ⟨rfl, hsz, hG, hP, hK, hD0⟩ := hv
  subst hsz
  have hx := Bd.exec
  have hb := Bd.bytes
  have hr := Bd.returns
  have hts := atoms_spec (ws := wsM_size) Bd.pre
  have hw : ∀ w ∈ BIG, w.before _ s = true := fun w h => hts w (List.mem_cons_of_mem _ h)
  have hown : s.vm.findClass RM = some m.cls := findClass_of_methodNamed Bd.named
  have hlocks := Bd.notSynchronized
  have hD := hD0.self (sz := s.heap.size)
  obtain ⟨A, hAe⟩ : ∃ A, A = va_A [(m0, .inr (4, [.ref n0, .ref n1, .ref n2, .int (nI cd), .int (nI dt), .ref e0, .ref e1, .int (nI rt), .ref e2, .ref e3, .ref e4, .int (nI sz9), .int (nI at9), .int (nI fl), .int pl, .int (nI wr), .ref e5])), (n0, .inl (cI, 16, .inl (aN fFI)))] s.heap.size := ⟨_, rfl⟩
  have hA : ∀ q : Nat, s.heap.size ≤ q → A q := fun q h => by rw [hAe]; exact Or.inr h
  rw [← hAe] at hG hD
  have hS : va_S A s.heap s.heap [] := va_S.rf
  have hl := lv_entry ([.ref m0, .int x9]) (n := 3) (Nat.le_of_ble_eq_true rfl)
  rw [lg_entry_eq]
  generalize (lg_sl ([.ref m0, .int x9]) ++ List.replicate (3 - (lg_sl ([.ref m0, .int x9])).length) Slot.unset).toArray = ls at hl ⊢
  have hl : lv_has ls 3 [(0, .ref m0), (1, .int x9)] := hl
  refine zq_name (fun Q hQ => ?_)
  change W p l e rm_c_Msize_no s m _ below meth c _ _ _ _ Q _
  refine lv_aload_n hx hb dM_size_0 rfl (lv_at hl 0 rfl) ?_
  refine lv_iload_n hx hb dM_size_1 rfl (lv_at hl 1 rfl) ?_
  refine zc_Ri (va_runV (As := [.int x9]) (rest := []) ⟨hx, hb, hml, hown, hw⟩ (c_fieldOf_no l dC dI m0 n0 n1 n2 cd dt e0 e1 rt e2 e3 e4 sz9 at9 fl pl wr e5 cI cB x9 hx9 s.heap) (cwV 1 hw (gV w_ml_M_66 w_im_M_fieldOf w_se_M_fieldOf w_in_M w_co_M_fieldOf) rfl rfl rfl (by decide +kernel) ⟨Nat.le_of_ble_eq_true rfl, Nat.le_of_ble_eq_true rfl⟩) (zR_V hG hS (hP.sub (ws' := [(m0, .inr (4, [.ref n0, .ref n1, .ref n2, .int (nI cd), .int (nI dt), .ref e0, .ref e1, .int (nI rt), .ref e2, .ref e3, .ref e4, .int (nI sz9), .int (nI at9), .int (nI fl), .int pl, .int (nI wr), .ref e5])), (n0, .inl (cI, 16, .inl (aN fFI)))]) [0, 1] rfl) hK 0 rfl rfl) rfl rfl hl.1 rfl (lv_room (Nat.le_of_ble_eq_true rfl)) dM_size_2 ⟨Nat.le_of_ble_eq_true rfl, Nat.le_of_ble_eq_true rfl⟩) hS (fun r_1 locs h_2 hS => ?_)
  subst h_2
  refine lv_istore_n (lv' := [(2, .int (-1)), (0, .ref m0), (1, .int x9)]) hx hb dM_size_5 rfl hl (by decide) rfl (fun ls hl => ?_)
  refine lv_aload_n hx hb dM_size_6 rfl (lv_at hl 1 rfl) ?_
  refine lv_iload_n hx hb dM_size_7 rfl (lv_at hl 0 rfl) ?_
  refine lv_if_lt (tgt := 15) hx hb dM_size_8 (by decide) (fun c_8 => ?_) (fun q => False.elim (absurd q (by decide)))
  refine lv_iconst (v := nI 0) hx hb dM_size_15 (by decide) ?_
  have hPc := hP.sub (ws' := [(m0, .inr (4, [.ref n0, .ref n1, .ref n2, .int (nI cd), .int (nI dt), .ref e0, .ref e1, .int (nI rt), .ref e2, .ref e3, .ref e4, .int (nI sz9), .int (nI at9), .int (nI fl), .int pl, .int (nI wr), .ref e5]))]) [0] rfl
  have hDc := hD.sub (ws' := [(m0, .inr (4, [.ref n0, .ref n1, .ref n2, .int (nI cd), .int (nI dt), .ref e0, .ref e1, .int (nI rt), .ref e2, .ref e3, .ref e4, .int (nI sz9), .int (nI at9), .int (nI fl), .int pl, .int (nI wr), .ref e5]))]) [0] (by decide) rfl
  have hFc := va_free (wc := [(m0, .inr (4, [.ref n0, .ref n1, .ref n2, .int (nI cd), .int (nI dt), .ref e0, .ref e1, .int (nI rt), .ref e2, .ref e3, .ref e4, .int (nI sz9), .int (nI at9), .int (nI fl), .int pl, .int (nI wr), .ref e5]))]) hD hS hA [0] rfl
  refine zc_Mi (va_runV (As := [.int (nI 0)]) (rest := []) ⟨hx, hb, hml, hown, hw⟩ (c_goes_0 l dC dI m0 n0 n1 n2 cd dt e0 e1 rt e2 e3 e4 sz9 at9 fl pl wr e5 cI cB s.heap.size) (cwV 1 hw (gV w_ml_M_50 w_im_M_goes w_se_M_goes w_in_M w_co_M_goes) rfl rfl rfl (by decide +kernel) ⟨Nat.le_of_ble_eq_true rfl, Nat.le_of_ble_eq_true rfl⟩) (zM_V hG hS hFc hPc hDc hK 0 rfl rfl) rfl rfl hl.1 rfl (lv_room (Nat.le_of_ble_eq_true rfl)) dM_size_16 ⟨Nat.le_of_ble_eq_true rfl, Nat.le_of_ble_eq_true rfl⟩) hS hFc (fun r_2 H locs h_16 hP1 hD1 hk1 hS => ?_)
  obtain ⟨hP, hD⟩ := va_join (wr := [(n0, .inl (cI, 16, .inl (aN fFI)))]) (w1 := [(m0, .inr (4, [.ref n0, .ref n1, .ref n2, .int (nI 1), .int (nI dt), .ref e0, .ref e1, .int (nI rt), .ref e2, .ref e3, .ref e4, .int (nI sz9), .int (nI at9), .int (nI fl), .int pl, .int (nI wr), .ref e5]))]) hP hD [0] [1] rfl rfl (by decide) (by decide) hk1 hFc hP1 hD1
  have hP : va_P (dC, dI) vwCl [(n0, .inl (cI, 16, .inl (aN fFI))), (m0, .inr (4, [.ref n0, .ref n1, .ref n2, .int (nI 1), .int (nI dt), .ref e0, .ref e1, .int (nI rt), .ref e2, .ref e3, .ref e4, .int (nI sz9), .int (nI at9), .int (nI fl), .int pl, .int (nI wr), .ref e5]))] H := hP
  have hD : va_D A [(n0, .inl (cI, 16, .inl (aN fFI))), (m0, .inr (4, [.ref n0, .ref n1, .ref n2, .int (nI 1), .int (nI dt), .ref e0, .ref e1, .int (nI rt), .ref e2, .ref e3, .ref e4, .int (nI sz9), .int (nI at9), .int (nI fl), .int pl, .int (nI wr), .ref e5]))] := hD
  subst h_16
  refine lv_if_eq (tgt := 31) hx hb dM_size_19 (by decide) (fun c_19 => ?_) (fun q => False.elim (absurd q (by decide)))
  refine lv_iconst (v := nI 0) hx hb dM_size_31 (by decide) ?_
  subst hAe
  subst hQ
  exact W.iret (v := nI 0) hx hb hr (fun t ht hW => ⟨⟨nI 0, (), rfl, rfl, by rw [ht]; exact hP.sub [1, 0] rfl, hD.sub [1, 0] (by decide) rfl⟩, hS.F ht⟩) hS.2.2 dM_size_32
def rm_c_Mat_ok : Room := ({ frames := 1, cells := 0, slots := 0, locals := 23 } : Room)
set_option maxHeartbeats 4000000 in
set_option maxRecDepth 100000 in
theorem c_Mat_ok (l : Launch) (dC : Nat → ClassId) (dI : Nat → Nat → Nat) (m0 : Nat) (n0 : Nat) (n1 : Nat) (n2 : Nat) (cd : Nat) (dt : Nat) (e0 : Nat) (e1 : Nat) (rt : Nat) (e2 : Nat) (e3 : Nat) (e4 : Nat) (sz9 : Nat) (at9 : Nat) (fl : Nat) (pl : Int32) (wr : Nat) (e5 : Nat) (cI : ClassId) (cB : ClassId) (dr : Nat → Nat) (g : Nat → Nat) (k : Nat) (j : Nat) (hk : k < 16) (hj : j + 1 < g k) (hgk : g k ≤ 43) (hd9 : dr (42 * k + j) < 2 ^ 31) (sz : Nat) : Met l yM_at wsM_at rm_c_Mat_ok (zM (dC, dI) [(cI, .int), (cB, .byte)] [.ref m0, .int (nI (fFI k)), .int (nI j)] [(m0, .inr (4, [.ref n0, .ref n1, .ref n2, .int (nI cd), .int (nI dt), .ref e0, .ref e1, .int (nI rt), .ref e2, .ref e3, .ref e4, .int (nI sz9), .int (nI at9), .int (nI fl), .int pl, .int (nI wr), .ref e5])), (n0, .inl (cI, 16, .inl (aN fFI))), (n2, .inl (cI, 16, .inl (aN fFO))), (e0, .inl (cI, 672, .inl (aN dr))), (e1, .inl (cI, 16, .inl (aP g)))] sz) (zMi (dC, dI) [(m0, .inr (4, [.ref n0, .ref n1, .ref n2, .int (nI cd), .int (nI dt), .ref e0, .ref e1, .int (nI rt), .ref e2, .ref e3, .ref e4, .int (nI sz9), .int (nI at9), .int (nI fl), .int pl, .int (nI wr), .ref e5])), (n0, .inl (cI, 16, .inl (aN fFI))), (n2, .inl (cI, 16, .inl (aN fFO))), (e0, .inl (cI, 672, .inl (aN dr))), (e1, .inl (cI, 16, .inl (aP g)))] [(m0, .inr (4, [.ref n0, .ref n1, .ref n2, .int (nI 0), .int (nI dt), .ref e0, .ref e1, .int (nI rt), .ref e2, .ref e3, .ref e4, .int (nI sz9), .int (nI at9), .int (nI fl), .int pl, .int (nI wr), .ref e5])), (n0, .inl (cI, 16, .inl (aN fFI))), (n2, .inl (cI, 16, .inl (aN fFO))), (e0, .inl (cI, 672, .inl (aN dr))), (e1, .inl (cI, 16, .inl (aP g)))] sz (fun r => r = nI (mka dr k j))) 0 0 (va_A [(m0, .inr (4, [.ref n0, .ref n1, .ref n2, .int (nI cd), .int (nI dt), .ref e0, .ref e1, .int (nI rt), .ref e2, .ref e3, .ref e4, .int (nI sz9), .int (nI at9), .int (nI fl), .int pl, .int (nI wr), .ref e5])), (n0, .inl (cI, 16, .inl (aN fFI))), (n2, .inl (cI, 16, .inl (aN fFO))), (e0, .inl (cI, 672, .inl (aN dr))), (e1, .inl (cI, 16, .inl (aP g)))] sz) := by
  refine Met.ofW (cc := cM_at) (maxL := 5) (ret := (some .int)) (by decide) rfl ?_
  intro p e s m args below meth c s₁ Bd hml hv
  obtain ⟨rfl, hsz, hG, hP, hK, hD0⟩ := hv
  subst hsz
  have hx := Bd.exec
  have hb := Bd.bytes
  have hr := Bd.returns
  have hts := atoms_spec (ws := wsM_at) Bd.pre
  have hw : ∀ w ∈ BIG, w.before _ s = true := fun w h => hts w (List.mem_cons_of_mem _ h)
  have hown : s.vm.findClass RM = some m.cls := findClass_of_methodNamed Bd.named
  have hlocks := Bd.notSynchronized
  have hD := hD0.self (sz := s.heap.size)
  obtain ⟨A, hAe⟩ : ∃ A, A = va_A [(m0, .inr (4, [.ref n0, .ref n1, .ref n2, .int (nI cd), .int (nI dt), .ref e0, .ref e1, .int (nI rt), .ref e2, .ref e3, .ref e4, .int (nI sz9), .int (nI at9), .int (nI fl), .int pl, .int (nI wr), .ref e5])), (n0, .inl (cI, 16, .inl (aN fFI))), (n2, .inl (cI, 16, .inl (aN fFO))), (e0, .inl (cI, 672, .inl (aN dr))), (e1, .inl (cI, 16, .inl (aP g)))] s.heap.size := ⟨_, rfl⟩
  have hA : ∀ q : Nat, s.heap.size ≤ q → A q := fun q h => by rw [hAe]; exact Or.inr h
  rw [← hAe] at hG hD
  have hS : va_S A s.heap s.heap [] := va_S.rf
  have hl := lv_entry ([.ref m0, .int (nI (fFI k)), .int (nI j)]) (n := 5) (Nat.le_of_ble_eq_true rfl)
  rw [lg_entry_eq]
  generalize (lg_sl ([.ref m0, .int (nI (fFI k)), .int (nI j)]) ++ List.replicate (5 - (lg_sl ([.ref m0, .int (nI (fFI k)), .int (nI j)])).length) Slot.unset).toArray = ls at hl ⊢
  have hl : lv_has ls 5 [(0, .ref m0), (1, .int (nI (fFI k))), (2, .int (nI j))] := hl
  refine zq_name (fun Q hQ => ?_)
  change W p l e rm_c_Mat_ok s m _ below meth c _ _ _ _ Q _
  obtain ⟨ho1, ho2, ho3, ho4, ho5⟩ := fFO_b k hk
  have hmm := fMM_b k hk
  have hcd := fCD_b k hk
  refine lv_aload_n hx hb dM_at_0 rfl (lv_at hl 0 rfl) ?_
  refine lv_iload_n hx hb dM_at_1 rfl (lv_at hl 1 rfl) ?_
  refine zc_Ri (va_runV (As := [.int (nI (fFI k))]) (rest := []) ⟨hx, hb, hml, hown, hw⟩ (c_fieldOf_ok l dC dI m0 n0 n1 n2 cd dt e0 e1 rt e2 e3 e4 sz9 at9 fl pl wr e5 cI cB k (by omega) s.heap) (cwV 1 hw (gV w_ml_M_66 w_im_M_fieldOf w_se_M_fieldOf w_in_M w_co_M_fieldOf) rfl rfl rfl (by decide +kernel) ⟨Nat.le_of_ble_eq_true rfl, Nat.le_of_ble_eq_true rfl⟩) (zR_V hG hS (hP.sub (ws' := [(m0, .inr (4, [.ref n0, .ref n1, .ref n2, .int (nI cd), .int (nI dt), .ref e0, .ref e1, .int (nI rt), .ref e2, .ref e3, .ref e4, .int (nI sz9), .int (nI at9), .int (nI fl), .int pl, .int (nI wr), .ref e5])), (n0, .inl (cI, 16, .inl (aN fFI)))]) [0, 1] rfl) hK 0 rfl rfl) rfl rfl hl.1 rfl (lv_room (Nat.le_of_ble_eq_true rfl)) dM_at_2 ⟨Nat.le_of_ble_eq_true rfl, Nat.le_of_ble_eq_true rfl⟩) hS (fun r_1 locs h_2 hS => ?_)
  subst h_2
  refine lv_istore_n (lv' := [(3, .int (nI k)), (0, .ref m0), (1, .int (nI (fFI k))), (2, .int (nI j))]) hx hb dM_at_5 rfl hl (by decide) rfl (fun ls hl => ?_)
  refine lv_aload_n hx hb dM_at_6 rfl (lv_at hl 1 rfl) ?_
  refine lv_iload_n hx hb dM_at_7 rfl (lv_at hl 0 rfl) ?_
  refine zi_lt0 (tgt := 29) hx hb (by omega) dM_at_8 (by decide) ?_
  refine lv_iload_n hx hb dM_at_11 rfl (lv_at hl 3 rfl) ?_
  refine zi_lt0 (tgt := 29) hx hb (by omega) dM_at_12 (by decide) ?_
  refine lv_iload_n hx hb dM_at_15 rfl (lv_at hl 3 rfl) ?_
  refine lv_aload_n hx hb dM_at_16 rfl (lv_at hl 1 rfl) ?_
  refine va_get (D := (dC, dI)) (ci := 4) (v := .ref e1) (C := RM) (T := TM) (N := 17) hx hb hw inM hown hK hP 0 rfl rfl 6 (by decide) (hw _ w_fl_M_26) (fun _ h9 => h9) rfl dM_at_17 ?_
  refine lv_iload_n hx hb dM_at_20 rfl (lv_at hl 0 rfl) ?_
  refine za_pld hx hb hK hP 4 0 rfl rfl (by omega) (by decide) dM_at_21 ?_
  refine zp_ge (tgt := 29) hx hb (by omega) (by omega) dM_at_22 (by decide) (fun q => False.elim ((by omega))) (fun c_22 => ?_)
  refine lv_iconst (v := nI 1) hx hb dM_at_25 (by decide) ?_
  refine lv_goto (tgt := 30) hx hb dM_at_26 (by decide) ?_
  have hPc := hP.sub (ws' := [(m0, .inr (4, [.ref n0, .ref n1, .ref n2, .int (nI cd), .int (nI dt), .ref e0, .ref e1, .int (nI rt), .ref e2, .ref e3, .ref e4, .int (nI sz9), .int (nI at9), .int (nI fl), .int pl, .int (nI wr), .ref e5]))]) [0] rfl
  have hDc := hD.sub (ws' := [(m0, .inr (4, [.ref n0, .ref n1, .ref n2, .int (nI cd), .int (nI dt), .ref e0, .ref e1, .int (nI rt), .ref e2, .ref e3, .ref e4, .int (nI sz9), .int (nI at9), .int (nI fl), .int pl, .int (nI wr), .ref e5]))]) [0] (by decide) rfl
  have hFc := va_free (wc := [(m0, .inr (4, [.ref n0, .ref n1, .ref n2, .int (nI cd), .int (nI dt), .ref e0, .ref e1, .int (nI rt), .ref e2, .ref e3, .ref e4, .int (nI sz9), .int (nI at9), .int (nI fl), .int pl, .int (nI wr), .ref e5]))]) hD hS hA [0] rfl
  refine zc_Mi (va_runV (As := [.int (nI 1)]) (rest := []) ⟨hx, hb, hml, hown, hw⟩ (c_goes_1 l dC dI m0 n0 n1 n2 cd dt e0 e1 rt e2 e3 e4 sz9 at9 fl pl wr e5 cI cB s.heap.size) (cwV 1 hw (gV w_ml_M_50 w_im_M_goes w_se_M_goes w_in_M w_co_M_goes) rfl rfl rfl (by decide +kernel) ⟨Nat.le_of_ble_eq_true rfl, Nat.le_of_ble_eq_true rfl⟩) (zM_V hG hS hFc hPc hDc hK 0 rfl rfl) rfl rfl hl.1 rfl (lv_room (Nat.le_of_ble_eq_true rfl)) dM_at_30 ⟨Nat.le_of_ble_eq_true rfl, Nat.le_of_ble_eq_true rfl⟩) hS hFc (fun r_2 H locs h_30 hP1 hD1 hk1 hS => ?_)
  obtain ⟨hP, hD⟩ := va_join (wr := [(n0, .inl (cI, 16, .inl (aN fFI))), (n2, .inl (cI, 16, .inl (aN fFO))), (e0, .inl (cI, 672, .inl (aN dr))), (e1, .inl (cI, 16, .inl (aP g)))]) (w1 := [(m0, .inr (4, [.ref n0, .ref n1, .ref n2, .int (nI 0), .int (nI dt), .ref e0, .ref e1, .int (nI rt), .ref e2, .ref e3, .ref e4, .int (nI sz9), .int (nI at9), .int (nI fl), .int pl, .int (nI wr), .ref e5]))]) hP hD [0] [1, 2, 3, 4] rfl rfl (by decide) (by decide) hk1 hFc hP1 hD1
  have hP : va_P (dC, dI) vwCl [(n0, .inl (cI, 16, .inl (aN fFI))), (n2, .inl (cI, 16, .inl (aN fFO))), (e0, .inl (cI, 672, .inl (aN dr))), (e1, .inl (cI, 16, .inl (aP g))), (m0, .inr (4, [.ref n0, .ref n1, .ref n2, .int (nI 0), .int (nI dt), .ref e0, .ref e1, .int (nI rt), .ref e2, .ref e3, .ref e4, .int (nI sz9), .int (nI at9), .int (nI fl), .int pl, .int (nI wr), .ref e5]))] H := hP
  have hD : va_D A [(n0, .inl (cI, 16, .inl (aN fFI))), (n2, .inl (cI, 16, .inl (aN fFO))), (e0, .inl (cI, 672, .inl (aN dr))), (e1, .inl (cI, 16, .inl (aP g))), (m0, .inr (4, [.ref n0, .ref n1, .ref n2, .int (nI 0), .int (nI dt), .ref e0, .ref e1, .int (nI rt), .ref e2, .ref e3, .ref e4, .int (nI sz9), .int (nI at9), .int (nI fl), .int pl, .int (nI wr), .ref e5]))] := hD
  subst h_30
  refine lv_if_ne (tgt := 38) hx hb dM_at_33 (by decide) (fun c_33 => ?_) (fun q => False.elim (absurd q (by decide)))
  refine lv_aload_n hx hb dM_at_38 rfl (lv_at hl 1 rfl) ?_
  refine va_get (D := (dC, dI)) (ci := 4) (v := .ref e0) (C := RM) (T := TM) (N := 17) hx hb hw inM hown hK hP 4 rfl rfl 5 (by decide) (hw _ w_fl_M_23) (fun _ h9 => h9) rfl dM_at_39 ?_
  refine lv_bipush (v := nI 42) hx hb dM_at_42 (by decide) ?_
  refine lv_iload_n hx hb dM_at_44 rfl (lv_at hl 0 rfl) ?_
  refine zi_mul hx hb dM_at_45 ?_
  refine lv_iload_n hx hb dM_at_46 rfl (lv_at hl 3 rfl) ?_
  refine zi_add hx hb dM_at_47 ?_
  refine za_ild hx hb hK hP 2 0 rfl rfl (by omega) (by decide) dM_at_48 ?_
  refine lv_istore (lv' := [(4, .int (nI (dr ((42 * k) + j)))), (3, .int (nI k)), (0, .ref m0), (1, .int (nI (fFI k))), (2, .int (nI j))]) hx hb dM_at_49 hl (by decide) rfl (fun ls hl => ?_)
  refine lv_aload_n hx hb dM_at_51 rfl (lv_at hl 2 rfl) ?_
  refine va_get (D := (dC, dI)) (ci := 4) (v := .ref n2) (C := RM) (T := TM) (N := 17) hx hb hw inM hown hK hP 4 rfl rfl 2 (by decide) (hw _ w_fl_M_16) (fun _ h9 => h9) rfl dM_at_52 ?_
  refine lv_iload_n hx hb dM_at_55 rfl (lv_at hl 1 rfl) ?_
  refine za_ild hx hb hK hP 1 0 rfl rfl (by omega) (by decide) dM_at_56 ?_
  refine lv_iconst (v := nI 2) hx hb dM_at_57 (by decide) ?_
  refine zi_ge (tgt := 66) hx hb (by omega) (by omega) dM_at_58 (by decide) (fun c_58 => ?_) (fun c_58 => ?_)
  · refine lv_iload hx hb dM_at_66 (lv_at hl 0 rfl) ?_
    refine lv_bipush (v := nI 10) hx hb dM_at_68 (by decide) ?_
    refine zi_ge (tgt := 81) hx hb (by omega) (by omega) dM_at_70 (by decide) (fun c_70 => ?_) (fun c_70 => ?_)
    · refine lv_bipush (v := nI 55) hx hb dM_at_81 (by decide) ?_
      refine lv_iload hx hb dM_at_83 (lv_at hl 0 rfl) ?_
      refine zi_add hx hb dM_at_85 ?_
      refine zi_v (b := nI (mka dr k j)) (by unfold mka; rw [if_neg (fun z => by have := ho2.mpr z; omega), if_neg (by omega)]) ?_
      subst hAe
      subst hQ
      exact W.iret (v := nI (mka dr k j)) hx hb hr (fun t ht hW => ⟨⟨nI (mka dr k j), (), rfl, rfl, by rw [ht]; exact hP.sub [4, 0, 1, 2, 3] rfl, hD.sub [4, 0, 1, 2, 3] (by decide) rfl⟩, hS.F ht⟩) hS.2.2 dM_at_86
    · refine lv_bipush (v := nI 48) hx hb dM_at_73 (by decide) ?_
      refine lv_iload hx hb dM_at_75 (lv_at hl 0 rfl) ?_
      refine zi_add hx hb dM_at_77 ?_
      refine lv_goto (tgt := 86) hx hb dM_at_78 (by decide) ?_
      refine zi_v (b := nI (mka dr k j)) (by unfold mka; rw [if_neg (fun z => by have := ho2.mpr z; omega), if_pos c_70]) ?_
      subst hAe
      subst hQ
      exact W.iret (v := nI (mka dr k j)) hx hb hr (fun t ht hW => ⟨⟨nI (mka dr k j), (), rfl, rfl, by rw [ht]; exact hP.sub [4, 0, 1, 2, 3] rfl, hD.sub [4, 0, 1, 2, 3] (by decide) rfl⟩, hS.F ht⟩) hS.2.2 dM_at_86
  · refine lv_iload hx hb dM_at_61 (lv_at hl 0 rfl) ?_
    refine lv_goto (tgt := 86) hx hb dM_at_63 (by decide) ?_
    refine zi_v (b := nI (mka dr k j)) (by unfold mka; rw [if_pos (ho2.mp c_58)]) ?_
    subst hAe
    subst hQ
    exact W.iret (v := nI (mka dr k j)) hx hb hr (fun t ht hW => ⟨⟨nI (mka dr k j), (), rfl, rfl, by rw [ht]; exact hP.sub [4, 0, 1, 2, 3] rfl, hD.sub [4, 0, 1, 2, 3] (by decide) rfl⟩, hS.F ht⟩) hS.2.2 dM_at_86
def rm_c_Mat_no1 : Room := ({ frames := 1, cells := 0, slots := 0, locals := 23 } : Room)
set_option maxHeartbeats 4000000 in
set_option maxRecDepth 100000 in
theorem c_Mat_no1 (l : Launch) (dC : Nat → ClassId) (dI : Nat → Nat → Nat) (m0 : Nat) (n0 : Nat) (n1 : Nat) (n2 : Nat) (cd : Nat) (dt : Nat) (e0 : Nat) (e1 : Nat) (rt : Nat) (e2 : Nat) (e3 : Nat) (e4 : Nat) (sz9 : Nat) (at9 : Nat) (fl : Nat) (pl : Int32) (wr : Nat) (e5 : Nat) (cI : ClassId) (cB : ClassId) (x9 : Int32) (y9 : Int32) (hx9 : ∀ j, j < 16 → nI (fFI j) ≠ x9) (sz : Nat) : Met l yM_at wsM_at rm_c_Mat_no1 (zM (dC, dI) [(cI, .int), (cB, .byte)] [.ref m0, .int x9, .int y9] [(m0, .inr (4, [.ref n0, .ref n1, .ref n2, .int (nI cd), .int (nI dt), .ref e0, .ref e1, .int (nI rt), .ref e2, .ref e3, .ref e4, .int (nI sz9), .int (nI at9), .int (nI fl), .int pl, .int (nI wr), .ref e5])), (n0, .inl (cI, 16, .inl (aN fFI))), (n1, .inl (cI, 16, .inl (aN fMM))), (n2, .inl (cI, 16, .inl (aN fFO)))] sz) (zMi (dC, dI) [(m0, .inr (4, [.ref n0, .ref n1, .ref n2, .int (nI cd), .int (nI dt), .ref e0, .ref e1, .int (nI rt), .ref e2, .ref e3, .ref e4, .int (nI sz9), .int (nI at9), .int (nI fl), .int pl, .int (nI wr), .ref e5])), (n0, .inl (cI, 16, .inl (aN fFI))), (n1, .inl (cI, 16, .inl (aN fMM))), (n2, .inl (cI, 16, .inl (aN fFO)))] [(m0, .inr (4, [.ref n0, .ref n1, .ref n2, .int (nI 1), .int (nI dt), .ref e0, .ref e1, .int (nI rt), .ref e2, .ref e3, .ref e4, .int (nI sz9), .int (nI at9), .int (nI fl), .int pl, .int (nI wr), .ref e5])), (n0, .inl (cI, 16, .inl (aN fFI))), (n1, .inl (cI, 16, .inl (aN fMM))), (n2, .inl (cI, 16, .inl (aN fFO)))] sz (fun r => r = nI 0)) 0 0 (va_A [(m0, .inr (4, [.ref n0, .ref n1, .ref n2, .int (nI cd), .int (nI dt), .ref e0, .ref e1, .int (nI rt), .ref e2, .ref e3, .ref e4, .int (nI sz9), .int (nI at9), .int (nI fl), .int pl, .int (nI wr), .ref e5])), (n0, .inl (cI, 16, .inl (aN fFI))), (n1, .inl (cI, 16, .inl (aN fMM))), (n2, .inl (cI, 16, .inl (aN fFO)))] sz) := by
  refine Met.ofW (cc := cM_at) (maxL := 5) (ret := (some .int)) (by decide) rfl ?_
  intro p e s m args below meth c s₁ Bd hml hv
  obtain ⟨rfl, hsz, hG, hP, hK, hD0⟩ := hv
  subst hsz
  have hx := Bd.exec
  have hb := Bd.bytes
  have hr := Bd.returns
  have hts := atoms_spec (ws := wsM_at) Bd.pre
  have hw : ∀ w ∈ BIG, w.before _ s = true := fun w h => hts w (List.mem_cons_of_mem _ h)
  have hown : s.vm.findClass RM = some m.cls := findClass_of_methodNamed Bd.named
  have hlocks := Bd.notSynchronized
  have hD := hD0.self (sz := s.heap.size)
  obtain ⟨A, hAe⟩ : ∃ A, A = va_A [(m0, .inr (4, [.ref n0, .ref n1, .ref n2, .int (nI cd), .int (nI dt), .ref e0, .ref e1, .int (nI rt), .ref e2, .ref e3, .ref e4, .int (nI sz9), .int (nI at9), .int (nI fl), .int pl, .int (nI wr), .ref e5])), (n0, .inl (cI, 16, .inl (aN fFI))), (n1, .inl (cI, 16, .inl (aN fMM))), (n2, .inl (cI, 16, .inl (aN fFO)))] s.heap.size := ⟨_, rfl⟩
  have hA : ∀ q : Nat, s.heap.size ≤ q → A q := fun q h => by rw [hAe]; exact Or.inr h
  rw [← hAe] at hG hD
  have hS : va_S A s.heap s.heap [] := va_S.rf
  have hl := lv_entry ([.ref m0, .int x9, .int y9]) (n := 5) (Nat.le_of_ble_eq_true rfl)
  rw [lg_entry_eq]
  generalize (lg_sl ([.ref m0, .int x9, .int y9]) ++ List.replicate (5 - (lg_sl ([.ref m0, .int x9, .int y9])).length) Slot.unset).toArray = ls at hl ⊢
  have hl : lv_has ls 5 [(0, .ref m0), (1, .int x9), (2, .int y9)] := hl
  refine zq_name (fun Q hQ => ?_)
  change W p l e rm_c_Mat_no1 s m _ below meth c _ _ _ _ Q _
  refine lv_aload_n hx hb dM_at_0 rfl (lv_at hl 0 rfl) ?_
  refine lv_iload_n hx hb dM_at_1 rfl (lv_at hl 1 rfl) ?_
  refine zc_Ri (va_runV (As := [.int x9]) (rest := []) ⟨hx, hb, hml, hown, hw⟩ (c_fieldOf_no l dC dI m0 n0 n1 n2 cd dt e0 e1 rt e2 e3 e4 sz9 at9 fl pl wr e5 cI cB x9 hx9 s.heap) (cwV 1 hw (gV w_ml_M_66 w_im_M_fieldOf w_se_M_fieldOf w_in_M w_co_M_fieldOf) rfl rfl rfl (by decide +kernel) ⟨Nat.le_of_ble_eq_true rfl, Nat.le_of_ble_eq_true rfl⟩) (zR_V hG hS (hP.sub (ws' := [(m0, .inr (4, [.ref n0, .ref n1, .ref n2, .int (nI cd), .int (nI dt), .ref e0, .ref e1, .int (nI rt), .ref e2, .ref e3, .ref e4, .int (nI sz9), .int (nI at9), .int (nI fl), .int pl, .int (nI wr), .ref e5])), (n0, .inl (cI, 16, .inl (aN fFI)))]) [0, 1] rfl) hK 0 rfl rfl) rfl rfl hl.1 rfl (lv_room (Nat.le_of_ble_eq_true rfl)) dM_at_2 ⟨Nat.le_of_ble_eq_true rfl, Nat.le_of_ble_eq_true rfl⟩) hS (fun r_1 locs h_2 hS => ?_)
  subst h_2
  refine lv_istore_n (lv' := [(3, .int (-1)), (0, .ref m0), (1, .int x9), (2, .int y9)]) hx hb dM_at_5 rfl hl (by decide) rfl (fun ls hl => ?_)
  refine lv_aload_n hx hb dM_at_6 rfl (lv_at hl 1 rfl) ?_
  refine lv_iload_n hx hb dM_at_7 rfl (lv_at hl 0 rfl) ?_
  refine lv_if_lt (tgt := 29) hx hb dM_at_8 (by decide) (fun c_8 => ?_) (fun q => False.elim (absurd q (by decide)))
  refine lv_iconst (v := nI 0) hx hb dM_at_29 (by decide) ?_
  have hPc := hP.sub (ws' := [(m0, .inr (4, [.ref n0, .ref n1, .ref n2, .int (nI cd), .int (nI dt), .ref e0, .ref e1, .int (nI rt), .ref e2, .ref e3, .ref e4, .int (nI sz9), .int (nI at9), .int (nI fl), .int pl, .int (nI wr), .ref e5]))]) [0] rfl
  have hDc := hD.sub (ws' := [(m0, .inr (4, [.ref n0, .ref n1, .ref n2, .int (nI cd), .int (nI dt), .ref e0, .ref e1, .int (nI rt), .ref e2, .ref e3, .ref e4, .int (nI sz9), .int (nI at9), .int (nI fl), .int pl, .int (nI wr), .ref e5]))]) [0] (by decide) rfl
  have hFc := va_free (wc := [(m0, .inr (4, [.ref n0, .ref n1, .ref n2, .int (nI cd), .int (nI dt), .ref e0, .ref e1, .int (nI rt), .ref e2, .ref e3, .ref e4, .int (nI sz9), .int (nI at9), .int (nI fl), .int pl, .int (nI wr), .ref e5]))]) hD hS hA [0] rfl
  refine zc_Mi (va_runV (As := [.int (nI 0)]) (rest := []) ⟨hx, hb, hml, hown, hw⟩ (c_goes_0 l dC dI m0 n0 n1 n2 cd dt e0 e1 rt e2 e3 e4 sz9 at9 fl pl wr e5 cI cB s.heap.size) (cwV 1 hw (gV w_ml_M_50 w_im_M_goes w_se_M_goes w_in_M w_co_M_goes) rfl rfl rfl (by decide +kernel) ⟨Nat.le_of_ble_eq_true rfl, Nat.le_of_ble_eq_true rfl⟩) (zM_V hG hS hFc hPc hDc hK 0 rfl rfl) rfl rfl hl.1 rfl (lv_room (Nat.le_of_ble_eq_true rfl)) dM_at_30 ⟨Nat.le_of_ble_eq_true rfl, Nat.le_of_ble_eq_true rfl⟩) hS hFc (fun r_2 H locs h_30 hP1 hD1 hk1 hS => ?_)
  obtain ⟨hP, hD⟩ := va_join (wr := [(n0, .inl (cI, 16, .inl (aN fFI))), (n1, .inl (cI, 16, .inl (aN fMM))), (n2, .inl (cI, 16, .inl (aN fFO)))]) (w1 := [(m0, .inr (4, [.ref n0, .ref n1, .ref n2, .int (nI 1), .int (nI dt), .ref e0, .ref e1, .int (nI rt), .ref e2, .ref e3, .ref e4, .int (nI sz9), .int (nI at9), .int (nI fl), .int pl, .int (nI wr), .ref e5]))]) hP hD [0] [1, 2, 3] rfl rfl (by decide) (by decide) hk1 hFc hP1 hD1
  have hP : va_P (dC, dI) vwCl [(n0, .inl (cI, 16, .inl (aN fFI))), (n1, .inl (cI, 16, .inl (aN fMM))), (n2, .inl (cI, 16, .inl (aN fFO))), (m0, .inr (4, [.ref n0, .ref n1, .ref n2, .int (nI 1), .int (nI dt), .ref e0, .ref e1, .int (nI rt), .ref e2, .ref e3, .ref e4, .int (nI sz9), .int (nI at9), .int (nI fl), .int pl, .int (nI wr), .ref e5]))] H := hP
  have hD : va_D A [(n0, .inl (cI, 16, .inl (aN fFI))), (n1, .inl (cI, 16, .inl (aN fMM))), (n2, .inl (cI, 16, .inl (aN fFO))), (m0, .inr (4, [.ref n0, .ref n1, .ref n2, .int (nI 1), .int (nI dt), .ref e0, .ref e1, .int (nI rt), .ref e2, .ref e3, .ref e4, .int (nI sz9), .int (nI at9), .int (nI fl), .int pl, .int (nI wr), .ref e5]))] := hD
  subst h_30
  refine lv_if_ne (tgt := 38) hx hb dM_at_33 (by decide) (fun q => False.elim (absurd q (by decide))) (fun c_33 => ?_)
  refine lv_iconst (v := nI 0) hx hb dM_at_36 (by decide) ?_
  subst hAe
  subst hQ
  exact W.iret (v := nI 0) hx hb hr (fun t ht hW => ⟨⟨nI 0, (), rfl, rfl, by rw [ht]; exact hP.sub [3, 0, 1, 2] rfl, hD.sub [3, 0, 1, 2] (by decide) rfl⟩, hS.F ht⟩) hS.2.2 dM_at_37
def rm_c_Mat_no2 : Room := ({ frames := 1, cells := 0, slots := 0, locals := 23 } : Room)
set_option maxHeartbeats 4000000 in
set_option maxRecDepth 100000 in
theorem c_Mat_no2 (l : Launch) (dC : Nat → ClassId) (dI : Nat → Nat → Nat) (m0 : Nat) (n0 : Nat) (n1 : Nat) (n2 : Nat) (cd : Nat) (dt : Nat) (e0 : Nat) (e1 : Nat) (rt : Nat) (e2 : Nat) (e3 : Nat) (e4 : Nat) (sz9 : Nat) (at9 : Nat) (fl : Nat) (pl : Int32) (wr : Nat) (e5 : Nat) (cI : ClassId) (cB : ClassId) (g : Nat → Nat) (k : Nat) (y9 : Int32) (hk : k < 16) (hy : y9 < 0 ∨ pm (g k) ≤ y9) (sz : Nat) : Met l yM_at wsM_at rm_c_Mat_no2 (zM (dC, dI) [(cI, .int), (cB, .byte)] [.ref m0, .int (nI (fFI k)), .int y9] [(m0, .inr (4, [.ref n0, .ref n1, .ref n2, .int (nI cd), .int (nI dt), .ref e0, .ref e1, .int (nI rt), .ref e2, .ref e3, .ref e4, .int (nI sz9), .int (nI at9), .int (nI fl), .int pl, .int (nI wr), .ref e5])), (n0, .inl (cI, 16, .inl (aN fFI))), (e1, .inl (cI, 16, .inl (aP g)))] sz) (zMi (dC, dI) [(m0, .inr (4, [.ref n0, .ref n1, .ref n2, .int (nI cd), .int (nI dt), .ref e0, .ref e1, .int (nI rt), .ref e2, .ref e3, .ref e4, .int (nI sz9), .int (nI at9), .int (nI fl), .int pl, .int (nI wr), .ref e5])), (n0, .inl (cI, 16, .inl (aN fFI))), (e1, .inl (cI, 16, .inl (aP g)))] [(m0, .inr (4, [.ref n0, .ref n1, .ref n2, .int (nI 1), .int (nI dt), .ref e0, .ref e1, .int (nI rt), .ref e2, .ref e3, .ref e4, .int (nI sz9), .int (nI at9), .int (nI fl), .int pl, .int (nI wr), .ref e5])), (n0, .inl (cI, 16, .inl (aN fFI))), (e1, .inl (cI, 16, .inl (aP g)))] sz (fun r => r = nI 0)) 0 0 (va_A [(m0, .inr (4, [.ref n0, .ref n1, .ref n2, .int (nI cd), .int (nI dt), .ref e0, .ref e1, .int (nI rt), .ref e2, .ref e3, .ref e4, .int (nI sz9), .int (nI at9), .int (nI fl), .int pl, .int (nI wr), .ref e5])), (n0, .inl (cI, 16, .inl (aN fFI))), (e1, .inl (cI, 16, .inl (aP g)))] sz) := by
  refine Met.ofW (cc := cM_at) (maxL := 5) (ret := (some .int)) (by decide) rfl ?_
  intro p e s m args below meth c s₁ Bd hml hv
  obtain ⟨rfl, hsz, hG, hP, hK, hD0⟩ := hv
  subst hsz
  have hx := Bd.exec
  have hb := Bd.bytes
  have hr := Bd.returns
  have hts := atoms_spec (ws := wsM_at) Bd.pre
  have hw : ∀ w ∈ BIG, w.before _ s = true := fun w h => hts w (List.mem_cons_of_mem _ h)
  have hown : s.vm.findClass RM = some m.cls := findClass_of_methodNamed Bd.named
  have hlocks := Bd.notSynchronized
  have hD := hD0.self (sz := s.heap.size)
  obtain ⟨A, hAe⟩ : ∃ A, A = va_A [(m0, .inr (4, [.ref n0, .ref n1, .ref n2, .int (nI cd), .int (nI dt), .ref e0, .ref e1, .int (nI rt), .ref e2, .ref e3, .ref e4, .int (nI sz9), .int (nI at9), .int (nI fl), .int pl, .int (nI wr), .ref e5])), (n0, .inl (cI, 16, .inl (aN fFI))), (e1, .inl (cI, 16, .inl (aP g)))] s.heap.size := ⟨_, rfl⟩
  have hA : ∀ q : Nat, s.heap.size ≤ q → A q := fun q h => by rw [hAe]; exact Or.inr h
  rw [← hAe] at hG hD
  have hS : va_S A s.heap s.heap [] := va_S.rf
  have hl := lv_entry ([.ref m0, .int (nI (fFI k)), .int y9]) (n := 5) (Nat.le_of_ble_eq_true rfl)
  rw [lg_entry_eq]
  generalize (lg_sl ([.ref m0, .int (nI (fFI k)), .int y9]) ++ List.replicate (5 - (lg_sl ([.ref m0, .int (nI (fFI k)), .int y9])).length) Slot.unset).toArray = ls at hl ⊢
  have hl : lv_has ls 5 [(0, .ref m0), (1, .int (nI (fFI k))), (2, .int y9)] := hl
  refine zq_name (fun Q hQ => ?_)
  change W p l e rm_c_Mat_no2 s m _ below meth c _ _ _ _ Q _
  refine lv_aload_n hx hb dM_at_0 rfl (lv_at hl 0 rfl) ?_
  refine lv_iload_n hx hb dM_at_1 rfl (lv_at hl 1 rfl) ?_
  refine zc_Ri (va_runV (As := [.int (nI (fFI k))]) (rest := []) ⟨hx, hb, hml, hown, hw⟩ (c_fieldOf_ok l dC dI m0 n0 n1 n2 cd dt e0 e1 rt e2 e3 e4 sz9 at9 fl pl wr e5 cI cB k (by omega) s.heap) (cwV 1 hw (gV w_ml_M_66 w_im_M_fieldOf w_se_M_fieldOf w_in_M w_co_M_fieldOf) rfl rfl rfl (by decide +kernel) ⟨Nat.le_of_ble_eq_true rfl, Nat.le_of_ble_eq_true rfl⟩) (zR_V hG hS (hP.sub (ws' := [(m0, .inr (4, [.ref n0, .ref n1, .ref n2, .int (nI cd), .int (nI dt), .ref e0, .ref e1, .int (nI rt), .ref e2, .ref e3, .ref e4, .int (nI sz9), .int (nI at9), .int (nI fl), .int pl, .int (nI wr), .ref e5])), (n0, .inl (cI, 16, .inl (aN fFI)))]) [0, 1] rfl) hK 0 rfl rfl) rfl rfl hl.1 rfl (lv_room (Nat.le_of_ble_eq_true rfl)) dM_at_2 ⟨Nat.le_of_ble_eq_true rfl, Nat.le_of_ble_eq_true rfl⟩) hS (fun r_1 locs h_2 hS => ?_)
  subst h_2
  refine lv_istore_n (lv' := [(3, .int (nI k)), (0, .ref m0), (1, .int (nI (fFI k))), (2, .int y9)]) hx hb dM_at_5 rfl hl (by decide) rfl (fun ls hl => ?_)
  refine lv_aload_n hx hb dM_at_6 rfl (lv_at hl 1 rfl) ?_
  refine lv_iload_n hx hb dM_at_7 rfl (lv_at hl 0 rfl) ?_
  refine zi_lt0 (tgt := 29) hx hb (by omega) dM_at_8 (by decide) ?_
  refine lv_iload_n hx hb dM_at_11 rfl (lv_at hl 3 rfl) ?_
  refine lv_if_lt (tgt := 29) hx hb dM_at_12 (by decide) (fun c_12 => ?_) (fun c_12 => ?_)
  · refine lv_iconst (v := nI 0) hx hb dM_at_29 (by decide) ?_
    have hPc := hP.sub (ws' := [(m0, .inr (4, [.ref n0, .ref n1, .ref n2, .int (nI cd), .int (nI dt), .ref e0, .ref e1, .int (nI rt), .ref e2, .ref e3, .ref e4, .int (nI sz9), .int (nI at9), .int (nI fl), .int pl, .int (nI wr), .ref e5]))]) [0] rfl
    have hDc := hD.sub (ws' := [(m0, .inr (4, [.ref n0, .ref n1, .ref n2, .int (nI cd), .int (nI dt), .ref e0, .ref e1, .int (nI rt), .ref e2, .ref e3, .ref e4, .int (nI sz9), .int (nI at9), .int (nI fl), .int pl, .int (nI wr), .ref e5]))]) [0] (by decide) rfl
    have hFc := va_free (wc := [(m0, .inr (4, [.ref n0, .ref n1, .ref n2, .int (nI cd), .int (nI dt), .ref e0, .ref e1, .int (nI rt), .ref e2, .ref e3, .ref e4, .int (nI sz9), .int (nI at9), .int (nI fl), .int pl, .int (nI wr), .ref e5]))]) hD hS hA [0] rfl
    refine zc_Mi (va_runV (As := [.int (nI 0)]) (rest := []) ⟨hx, hb, hml, hown, hw⟩ (c_goes_0 l dC dI m0 n0 n1 n2 cd dt e0 e1 rt e2 e3 e4 sz9 at9 fl pl wr e5 cI cB s.heap.size) (cwV 1 hw (gV w_ml_M_50 w_im_M_goes w_se_M_goes w_in_M w_co_M_goes) rfl rfl rfl (by decide +kernel) ⟨Nat.le_of_ble_eq_true rfl, Nat.le_of_ble_eq_true rfl⟩) (zM_V hG hS hFc hPc hDc hK 0 rfl rfl) rfl rfl hl.1 rfl (lv_room (Nat.le_of_ble_eq_true rfl)) dM_at_30 ⟨Nat.le_of_ble_eq_true rfl, Nat.le_of_ble_eq_true rfl⟩) hS hFc (fun r_2 H locs h_30 hP1 hD1 hk1 hS => ?_)
    obtain ⟨hP, hD⟩ := va_join (wr := [(n0, .inl (cI, 16, .inl (aN fFI))), (e1, .inl (cI, 16, .inl (aP g)))]) (w1 := [(m0, .inr (4, [.ref n0, .ref n1, .ref n2, .int (nI 1), .int (nI dt), .ref e0, .ref e1, .int (nI rt), .ref e2, .ref e3, .ref e4, .int (nI sz9), .int (nI at9), .int (nI fl), .int pl, .int (nI wr), .ref e5]))]) hP hD [0] [1, 2] rfl rfl (by decide) (by decide) hk1 hFc hP1 hD1
    have hP : va_P (dC, dI) vwCl [(n0, .inl (cI, 16, .inl (aN fFI))), (e1, .inl (cI, 16, .inl (aP g))), (m0, .inr (4, [.ref n0, .ref n1, .ref n2, .int (nI 1), .int (nI dt), .ref e0, .ref e1, .int (nI rt), .ref e2, .ref e3, .ref e4, .int (nI sz9), .int (nI at9), .int (nI fl), .int pl, .int (nI wr), .ref e5]))] H := hP
    have hD : va_D A [(n0, .inl (cI, 16, .inl (aN fFI))), (e1, .inl (cI, 16, .inl (aP g))), (m0, .inr (4, [.ref n0, .ref n1, .ref n2, .int (nI 1), .int (nI dt), .ref e0, .ref e1, .int (nI rt), .ref e2, .ref e3, .ref e4, .int (nI sz9), .int (nI at9), .int (nI fl), .int pl, .int (nI wr), .ref e5]))] := hD
    subst h_30
    refine lv_if_ne (tgt := 38) hx hb dM_at_33 (by decide) (fun q => False.elim (absurd q (by decide))) (fun c_33 => ?_)
    refine lv_iconst (v := nI 0) hx hb dM_at_36 (by decide) ?_
    subst hAe
    subst hQ
    exact W.iret (v := nI 0) hx hb hr (fun t ht hW => ⟨⟨nI 0, (), rfl, rfl, by rw [ht]; exact hP.sub [2, 0, 1] rfl, hD.sub [2, 0, 1] (by decide) rfl⟩, hS.F ht⟩) hS.2.2 dM_at_37
  · refine lv_iload_n hx hb dM_at_15 rfl (lv_at hl 3 rfl) ?_
    refine lv_aload_n hx hb dM_at_16 rfl (lv_at hl 1 rfl) ?_
    refine va_get (D := (dC, dI)) (ci := 4) (v := .ref e1) (C := RM) (T := TM) (N := 17) hx hb hw inM hown hK hP 0 rfl rfl 6 (by decide) (hw _ w_fl_M_26) (fun _ h9 => h9) rfl dM_at_17 ?_
    refine lv_iload_n hx hb dM_at_20 rfl (lv_at hl 0 rfl) ?_
    refine za_pld hx hb hK hP 2 0 rfl rfl (by omega) (by decide) dM_at_21 ?_
    refine lv_icmp_ge (tgt := 29) hx hb dM_at_22 (by decide) (fun c_22 => ?_) (fun q => False.elim ((hy.elim c_12 q)))
    refine lv_iconst (v := nI 0) hx hb dM_at_29 (by decide) ?_
    have hPc := hP.sub (ws' := [(m0, .inr (4, [.ref n0, .ref n1, .ref n2, .int (nI cd), .int (nI dt), .ref e0, .ref e1, .int (nI rt), .ref e2, .ref e3, .ref e4, .int (nI sz9), .int (nI at9), .int (nI fl), .int pl, .int (nI wr), .ref e5]))]) [0] rfl
    have hDc := hD.sub (ws' := [(m0, .inr (4, [.ref n0, .ref n1, .ref n2, .int (nI cd), .int (nI dt), .ref e0, .ref e1, .int (nI rt), .ref e2, .ref e3, .ref e4, .int (nI sz9), .int (nI at9), .int (nI fl), .int pl, .int (nI wr), .ref e5]))]) [0] (by decide) rfl
    have hFc := va_free (wc := [(m0, .inr (4, [.ref n0, .ref n1, .ref n2, .int (nI cd), .int (nI dt), .ref e0, .ref e1, .int (nI rt), .ref e2, .ref e3, .ref e4, .int (nI sz9), .int (nI at9), .int (nI fl), .int pl, .int (nI wr), .ref e5]))]) hD hS hA [0] rfl
    refine zc_Mi (va_runV (As := [.int (nI 0)]) (rest := []) ⟨hx, hb, hml, hown, hw⟩ (c_goes_0 l dC dI m0 n0 n1 n2 cd dt e0 e1 rt e2 e3 e4 sz9 at9 fl pl wr e5 cI cB s.heap.size) (cwV 1 hw (gV w_ml_M_50 w_im_M_goes w_se_M_goes w_in_M w_co_M_goes) rfl rfl rfl (by decide +kernel) ⟨Nat.le_of_ble_eq_true rfl, Nat.le_of_ble_eq_true rfl⟩) (zM_V hG hS hFc hPc hDc hK 0 rfl rfl) rfl rfl hl.1 rfl (lv_room (Nat.le_of_ble_eq_true rfl)) dM_at_30 ⟨Nat.le_of_ble_eq_true rfl, Nat.le_of_ble_eq_true rfl⟩) hS hFc (fun r_3 H locs h_30 hP1 hD1 hk1 hS => ?_)
    obtain ⟨hP, hD⟩ := va_join (wr := [(n0, .inl (cI, 16, .inl (aN fFI))), (e1, .inl (cI, 16, .inl (aP g)))]) (w1 := [(m0, .inr (4, [.ref n0, .ref n1, .ref n2, .int (nI 1), .int (nI dt), .ref e0, .ref e1, .int (nI rt), .ref e2, .ref e3, .ref e4, .int (nI sz9), .int (nI at9), .int (nI fl), .int pl, .int (nI wr), .ref e5]))]) hP hD [0] [1, 2] rfl rfl (by decide) (by decide) hk1 hFc hP1 hD1
    have hP : va_P (dC, dI) vwCl [(n0, .inl (cI, 16, .inl (aN fFI))), (e1, .inl (cI, 16, .inl (aP g))), (m0, .inr (4, [.ref n0, .ref n1, .ref n2, .int (nI 1), .int (nI dt), .ref e0, .ref e1, .int (nI rt), .ref e2, .ref e3, .ref e4, .int (nI sz9), .int (nI at9), .int (nI fl), .int pl, .int (nI wr), .ref e5]))] H := hP
    have hD : va_D A [(n0, .inl (cI, 16, .inl (aN fFI))), (e1, .inl (cI, 16, .inl (aP g))), (m0, .inr (4, [.ref n0, .ref n1, .ref n2, .int (nI 1), .int (nI dt), .ref e0, .ref e1, .int (nI rt), .ref e2, .ref e3, .ref e4, .int (nI sz9), .int (nI at9), .int (nI fl), .int pl, .int (nI wr), .ref e5]))] := hD
    subst h_30
    refine lv_if_ne (tgt := 38) hx hb dM_at_33 (by decide) (fun q => False.elim (absurd q (by decide))) (fun c_33 => ?_)
    refine lv_iconst (v := nI 0) hx hb dM_at_36 (by decide) ?_
    subst hAe
    subst hQ
    exact W.iret (v := nI 0) hx hb hr (fun t ht hW => ⟨⟨nI 0, (), rfl, rfl, by rw [ht]; exact hP.sub [2, 0, 1] rfl, hD.sub [2, 0, 1] (by decide) rfl⟩, hS.F ht⟩) hS.2.2 dM_at_37
def rm_c_Mnumber_ok : Room := ({ frames := 1, cells := 0, slots := 0, locals := 23 } : Room)
set_option maxHeartbeats 4000000 in
set_option maxRecDepth 100000 in
theorem c_Mnumber_ok (l : Launch) (dC : Nat → ClassId) (dI : Nat → Nat → Nat) (m0 : Nat) (n0 : Nat) (n1 : Nat) (n2 : Nat) (cd : Nat) (dt : Nat) (e0 : Nat) (e1 : Nat) (rt : Nat) (e2 : Nat) (e3 : Nat) (e4 : Nat) (sz9 : Nat) (at9 : Nat) (fl : Nat) (pl : Int32) (wr : Nat) (e5 : Nat) (cI : ClassId) (cB : ClassId) (dr : Nat → Nat) (g : Nat → Nat) (k : Nat) (hk : k < 16) (hh : fHL k = 0) (hg0 : 1 ≤ g k) (hgk : g k ≤ 43) (hd9 : ∀ j, j + 1 < g k → dr (42 * k + j) < 2 ^ 31) (sz : Nat) : Met l yM_number wsM_number rm_c_Mnumber_ok (zM (dC, dI) [(cI, .int), (cB, .byte)] [.ref m0, .int (nI (fFI k))] [(m0, .inr (4, [.ref n0, .ref n1, .ref n2, .int (nI cd), .int (nI dt), .ref e0, .ref e1, .int (nI rt), .ref e2, .ref e3, .ref e4, .int (nI sz9), .int (nI at9), .int (nI fl), .int pl, .int (nI wr), .ref e5])), (n0, .inl (cI, 16, .inl (aN fFI))), (n2, .inl (cI, 16, .inl (aN fFO))), (e0, .inl (cI, 672, .inl (aN dr))), (e1, .inl (cI, 16, .inl (aP g)))] sz) (zMl (dC, dI) [(m0, .inr (4, [.ref n0, .ref n1, .ref n2, .int (nI cd), .int (nI dt), .ref e0, .ref e1, .int (nI rt), .ref e2, .ref e3, .ref e4, .int (nI sz9), .int (nI at9), .int (nI fl), .int pl, .int (nI wr), .ref e5])), (n0, .inl (cI, 16, .inl (aN fFI))), (n2, .inl (cI, 16, .inl (aN fFO))), (e0, .inl (cI, 672, .inl (aN dr))), (e1, .inl (cI, 16, .inl (aP g)))] [(m0, .inr (4, [.ref n0, .ref n1, .ref n2, .int (nI 0), .int (nI dt), .ref e0, .ref e1, .int (nI rt), .ref e2, .ref e3, .ref e4, .int (nI sz9), .int (nI at9), .int (nI fl), .int pl, .int (nI wr), .ref e5])), (n0, .inl (cI, 16, .inl (aN fFI))), (n2, .inl (cI, 16, .inl (aN fFO))), (e0, .inl (cI, 672, .inl (aN dr))), (e1, .inl (cI, 16, .inl (aP g)))] sz (fun r => r = lN (nmL dr (42 * k + (g k - 1 - 18)) (g k - 1 - (g k - 1 - 18)) 0))) 0 0 (va_A [(m0, .inr (4, [.ref n0, .ref n1, .ref n2, .int (nI cd), .int (nI dt), .ref e0, .ref e1, .int (nI rt), .ref e2, .ref e3, .ref e4, .int (nI sz9), .int (nI at9), .int (nI fl), .int pl, .int (nI wr), .ref e5])), (n0, .inl (cI, 16, .inl (aN fFI))), (n2, .inl (cI, 16, .inl (aN fFO))), (e0, .inl (cI, 672, .inl (aN dr))), (e1, .inl (cI, 16, .inl (aP g)))] sz) := by
  refine Met.ofW (cc := cM_number) (maxL := 6) (ret := (some .long)) (by decide) rfl ?_
  intro p e s m args below meth c s₁ Bd hml hv
  obtain ⟨rfl, hsz, hG, hP, hK, hD0⟩ := hv
  subst hsz
  have hx := Bd.exec
  have hb := Bd.bytes
  have hr := Bd.returns
  have hts := atoms_spec (ws := wsM_number) Bd.pre
  have hw : ∀ w ∈ BIG, w.before _ s = true := fun w h => hts w (List.mem_cons_of_mem _ h)
  have hown : s.vm.findClass RM = some m.cls := findClass_of_methodNamed Bd.named
  have hlocks := Bd.notSynchronized
  have hD := hD0.self (sz := s.heap.size)
  obtain ⟨A, hAe⟩ : ∃ A, A = va_A [(m0, .inr (4, [.ref n0, .ref n1, .ref n2, .int (nI cd), .int (nI dt), .ref e0, .ref e1, .int (nI rt), .ref e2, .ref e3, .ref e4, .int (nI sz9), .int (nI at9), .int (nI fl), .int pl, .int (nI wr), .ref e5])), (n0, .inl (cI, 16, .inl (aN fFI))), (n2, .inl (cI, 16, .inl (aN fFO))), (e0, .inl (cI, 672, .inl (aN dr))), (e1, .inl (cI, 16, .inl (aP g)))] s.heap.size := ⟨_, rfl⟩
  have hA : ∀ q : Nat, s.heap.size ≤ q → A q := fun q h => by rw [hAe]; exact Or.inr h
  rw [← hAe] at hG hD
  have hS : va_S A s.heap s.heap [] := va_S.rf
  have hl := lv_entry ([.ref m0, .int (nI (fFI k))]) (n := 6) (Nat.le_of_ble_eq_true rfl)
  rw [lg_entry_eq]
  generalize (lg_sl ([.ref m0, .int (nI (fFI k))]) ++ List.replicate (6 - (lg_sl ([.ref m0, .int (nI (fFI k))])).length) Slot.unset).toArray = ls at hl ⊢
  have hl : lv_has ls 6 [(0, .ref m0), (1, .int (nI (fFI k)))] := hl
  refine zq_name (fun Q hQ => ?_)
  change W p l e rm_c_Mnumber_ok s m _ below meth c _ _ _ _ Q _
  obtain ⟨ho1, ho2, ho3, ho4, ho5⟩ := fFO_b k hk
  have hmm := fMM_b k hk
  have hcd := fCD_b k hk
  have ho2 := ho2.mpr hh
  refine lv_aload_n hx hb dM_number_0 rfl (lv_at hl 0 rfl) ?_
  refine lv_iload_n hx hb dM_number_1 rfl (lv_at hl 1 rfl) ?_
  refine zc_Ri (va_runV (As := [.int (nI (fFI k))]) (rest := []) ⟨hx, hb, hml, hown, hw⟩ (c_fieldOf_ok l dC dI m0 n0 n1 n2 cd dt e0 e1 rt e2 e3 e4 sz9 at9 fl pl wr e5 cI cB k (by omega) s.heap) (cwV 1 hw (gV w_ml_M_66 w_im_M_fieldOf w_se_M_fieldOf w_in_M w_co_M_fieldOf) rfl rfl rfl (by decide +kernel) ⟨Nat.le_of_ble_eq_true rfl, Nat.le_of_ble_eq_true rfl⟩) (zR_V hG hS (hP.sub (ws' := [(m0, .inr (4, [.ref n0, .ref n1, .ref n2, .int (nI cd), .int (nI dt), .ref e0, .ref e1, .int (nI rt), .ref e2, .ref e3, .ref e4, .int (nI sz9), .int (nI at9), .int (nI fl), .int pl, .int (nI wr), .ref e5])), (n0, .inl (cI, 16, .inl (aN fFI)))]) [0, 1] rfl) hK 0 rfl rfl) rfl rfl hl.1 rfl (lv_room (Nat.le_of_ble_eq_true rfl)) dM_number_2 ⟨Nat.le_of_ble_eq_true rfl, Nat.le_of_ble_eq_true rfl⟩) hS (fun r_1 locs h_2 hS => ?_)
  subst h_2
  refine lv_istore_n (lv' := [(2, .int (nI k)), (0, .ref m0), (1, .int (nI (fFI k)))]) hx hb dM_number_5 rfl hl (by decide) rfl (fun ls hl => ?_)
  refine lv_aload_n hx hb dM_number_6 rfl (lv_at hl 1 rfl) ?_
  refine lv_iload_n hx hb dM_number_7 rfl (lv_at hl 0 rfl) ?_
  refine zi_lt0 (tgt := 25) hx hb (by omega) dM_number_8 (by decide) ?_
  refine lv_aload_n hx hb dM_number_11 rfl (lv_at hl 1 rfl) ?_
  refine va_get (D := (dC, dI)) (ci := 4) (v := .ref n2) (C := RM) (T := TM) (N := 17) hx hb hw inM hown hK hP 0 rfl rfl 2 (by decide) (hw _ w_fl_M_16) (fun _ h9 => h9) rfl dM_number_12 ?_
  refine lv_iload_n hx hb dM_number_15 rfl (lv_at hl 0 rfl) ?_
  refine za_ild hx hb hK hP 2 0 rfl rfl (by omega) (by decide) dM_number_16 ?_
  refine lv_iconst (v := nI 2) hx hb dM_number_17 (by decide) ?_
  refine zi_ge (tgt := 25) hx hb (by omega) (by omega) dM_number_18 (by decide) (fun q => False.elim ((by omega))) (fun c_18 => ?_)
  refine lv_iconst (v := nI 1) hx hb dM_number_21 (by decide) ?_
  refine lv_goto (tgt := 26) hx hb dM_number_22 (by decide) ?_
  have hPc := hP.sub (ws' := [(m0, .inr (4, [.ref n0, .ref n1, .ref n2, .int (nI cd), .int (nI dt), .ref e0, .ref e1, .int (nI rt), .ref e2, .ref e3, .ref e4, .int (nI sz9), .int (nI at9), .int (nI fl), .int pl, .int (nI wr), .ref e5]))]) [0] rfl
  have hDc := hD.sub (ws' := [(m0, .inr (4, [.ref n0, .ref n1, .ref n2, .int (nI cd), .int (nI dt), .ref e0, .ref e1, .int (nI rt), .ref e2, .ref e3, .ref e4, .int (nI sz9), .int (nI at9), .int (nI fl), .int pl, .int (nI wr), .ref e5]))]) [0] (by decide) rfl
  have hFc := va_free (wc := [(m0, .inr (4, [.ref n0, .ref n1, .ref n2, .int (nI cd), .int (nI dt), .ref e0, .ref e1, .int (nI rt), .ref e2, .ref e3, .ref e4, .int (nI sz9), .int (nI at9), .int (nI fl), .int pl, .int (nI wr), .ref e5]))]) hD hS hA [0] rfl
  refine zc_Mi (va_runV (As := [.int (nI 1)]) (rest := []) ⟨hx, hb, hml, hown, hw⟩ (c_goes_1 l dC dI m0 n0 n1 n2 cd dt e0 e1 rt e2 e3 e4 sz9 at9 fl pl wr e5 cI cB s.heap.size) (cwV 1 hw (gV w_ml_M_50 w_im_M_goes w_se_M_goes w_in_M w_co_M_goes) rfl rfl rfl (by decide +kernel) ⟨Nat.le_of_ble_eq_true rfl, Nat.le_of_ble_eq_true rfl⟩) (zM_V hG hS hFc hPc hDc hK 0 rfl rfl) rfl rfl hl.1 rfl (lv_room (Nat.le_of_ble_eq_true rfl)) dM_number_26 ⟨Nat.le_of_ble_eq_true rfl, Nat.le_of_ble_eq_true rfl⟩) hS hFc (fun r_2 H locs h_26 hP1 hD1 hk1 hS => ?_)
  obtain ⟨hP, hD⟩ := va_join (wr := [(n0, .inl (cI, 16, .inl (aN fFI))), (n2, .inl (cI, 16, .inl (aN fFO))), (e0, .inl (cI, 672, .inl (aN dr))), (e1, .inl (cI, 16, .inl (aP g)))]) (w1 := [(m0, .inr (4, [.ref n0, .ref n1, .ref n2, .int (nI 0), .int (nI dt), .ref e0, .ref e1, .int (nI rt), .ref e2, .ref e3, .ref e4, .int (nI sz9), .int (nI at9), .int (nI fl), .int pl, .int (nI wr), .ref e5]))]) hP hD [0] [1, 2, 3, 4] rfl rfl (by decide) (by decide) hk1 hFc hP1 hD1
  have hP : va_P (dC, dI) vwCl [(n0, .inl (cI, 16, .inl (aN fFI))), (n2, .inl (cI, 16, .inl (aN fFO))), (e0, .inl (cI, 672, .inl (aN dr))), (e1, .inl (cI, 16, .inl (aP g))), (m0, .inr (4, [.ref n0, .ref n1, .ref n2, .int (nI 0), .int (nI dt), .ref e0, .ref e1, .int (nI rt), .ref e2, .ref e3, .ref e4, .int (nI sz9), .int (nI at9), .int (nI fl), .int pl, .int (nI wr), .ref e5]))] H := hP
  have hD : va_D A [(n0, .inl (cI, 16, .inl (aN fFI))), (n2, .inl (cI, 16, .inl (aN fFO))), (e0, .inl (cI, 672, .inl (aN dr))), (e1, .inl (cI, 16, .inl (aP g))), (m0, .inr (4, [.ref n0, .ref n1, .ref n2, .int (nI 0), .int (nI dt), .ref e0, .ref e1, .int (nI rt), .ref e2, .ref e3, .ref e4, .int (nI sz9), .int (nI at9), .int (nI fl), .int pl, .int (nI wr), .ref e5]))] := hD
  subst h_26
  refine lv_if_ne (tgt := 34) hx hb dM_number_29 (by decide) (fun c_29 => ?_) (fun q => False.elim (absurd q (by decide)))
  refine lv_aload_n hx hb dM_number_34 rfl (lv_at hl 1 rfl) ?_
  refine va_get (D := (dC, dI)) (ci := 4) (v := .ref e1) (C := RM) (T := TM) (N := 17) hx hb hw inM hown hK hP 4 rfl rfl 6 (by decide) (hw _ w_fl_M_26) (fun _ h9 => h9) rfl dM_number_35 ?_
  refine lv_iload_n hx hb dM_number_38 rfl (lv_at hl 0 rfl) ?_
  refine za_pld hx hb hK hP 3 0 rfl rfl (by omega) (by decide) dM_number_39 ?_
  refine zp_ge0 (tgt := 49) hx hb (by omega) dM_number_40 (by decide) (fun c_40 => ?_) (fun q => False.elim ((by omega)))
  refine lv_lconst (v := lN 0) hx hb dM_number_49 (by decide) ?_
  refine lv_lstore_n (lv' := [(3, .long (lN 0)), (2, .int (nI k)), (0, .ref m0), (1, .int (nI (fFI k)))]) hx hb dM_number_50 rfl hl (by decide) rfl (fun ls hl => ?_)
  refine lv_aload_n hx hb dM_number_51 rfl (lv_at hl 2 rfl) ?_
  refine va_get (D := (dC, dI)) (ci := 4) (v := .ref e1) (C := RM) (T := TM) (N := 17) hx hb hw inM hown hK hP 4 rfl rfl 6 (by decide) (hw _ w_fl_M_26) (fun _ h9 => h9) rfl dM_number_52 ?_
  refine lv_iload_n hx hb dM_number_55 rfl (lv_at hl 1 rfl) ?_
  refine za_pld hx hb hK hP 3 0 rfl rfl (by omega) (by decide) dM_number_56 ?_
  refine zi_v (b := nI (g k - 1)) (pm_nat (by omega)) ?_
  refine lv_bipush (v := nI 18) hx hb dM_number_57 (by decide) ?_
  refine zi_le (tgt := 74) hx hb (by omega) (by omega) dM_number_59 (by decide) (fun c_59 => ?_) (fun c_59 => ?_)
  · refine lv_iconst (v := nI 0) hx hb dM_number_74 (by decide) ?_
    refine zi_v (b := nI (g k - 1 - 18)) (by rw [show 0 = g k - 1 - 18 by omega]) ?_
    refine lv_istore (lv' := [(5, .int (nI (g k - 1 - 18))), (3, .long (lN 0)), (2, .int (nI k)), (0, .ref m0), (1, .int (nI (fFI k)))]) hx hb dM_number_75 hl (by decide) rfl (fun ls hl => ?_)
    have lp_77 : ∀ (fu : Nat) (j : Nat) (acc : Nat) (hj : j ≤ g k - 1) (hi : nmL dr (42 * k + j) (g k - 1 - j) acc = nmL dr (42 * k + (g k - 1 - 18)) (g k - 1 - (g k - 1 - 18)) 0) (hms : g k - 1 - j < fu) (H : Heap) (locs : List Loc) (ls : Array Slot), lv_has ls 6 [(0, .ref m0), (2, .int (nI k)), (3, .long (lN acc)), (5, .int (nI j))] → va_P (dC, dI) vwCl [(n0, .inl (cI, 16, .inl (aN fFI))), (n2, .inl (cI, 16, .inl (aN fFO))), (e0, .inl (cI, 672, .inl (aN dr))), (e1, .inl (cI, 16, .inl (aP g))), (m0, .inr (4, [.ref n0, .ref n1, .ref n2, .int (nI 0), .int (nI dt), .ref e0, .ref e1, .int (nI rt), .ref e2, .ref e3, .ref e4, .int (nI sz9), .int (nI at9), .int (nI fl), .int pl, .int (nI wr), .ref e5]))] H → va_D A [(n0, .inl (cI, 16, .inl (aN fFI))), (n2, .inl (cI, 16, .inl (aN fFO))), (e0, .inl (cI, 672, .inl (aN dr))), (e1, .inl (cI, 16, .inl (aP g))), (m0, .inr (4, [.ref n0, .ref n1, .ref n2, .int (nI 0), .int (nI dt), .ref e0, .ref e1, .int (nI rt), .ref e2, .ref e3, .ref e4, .int (nI sz9), .int (nI at9), .int (nI fl), .int pl, .int (nI wr), .ref e5]))] → va_S A s.heap H locs → W p l e rm_c_Mnumber_ok s m ([.ref m0, .int (nI (fFI k))] : List Value).toArray below meth c H locs 0 0 Q (F0 m 77 ls []) := by
      intro fu
      induction fu with
      | zero => intro j acc hj hi hms; exact absurd hms (Nat.not_lt_zero _)
      | succ fu ih77 =>
        intro j acc hj hi hms H locs ls hl hP hD hS
        refine lv_iload hx hb dM_number_77 (lv_at hl 3 rfl) ?_
        refine lv_aload_n hx hb dM_number_79 rfl (lv_at hl 0 rfl) ?_
        refine va_get (D := (dC, dI)) (ci := 4) (v := .ref e1) (C := RM) (T := TM) (N := 17) hx hb hw inM hown hK hP 4 rfl rfl 6 (by decide) (hw _ w_fl_M_26) (fun _ h9 => h9) rfl dM_number_80 ?_
        refine lv_iload_n hx hb dM_number_83 rfl (lv_at hl 1 rfl) ?_
        refine za_pld hx hb hK hP 3 0 rfl rfl (by omega) (by decide) dM_number_84 ?_
        refine zi_v (b := nI (g k - 1)) (pm_nat (by omega)) ?_
        refine zi_ge (tgt := 114) hx hb (by omega) (by omega) dM_number_85 (by decide) (fun c_85 => ?_) (fun c_85 => ?_)
        · refine lv_lload_n hx hb dM_number_114 rfl (lv_at hl 2 rfl) ?_
          subst hAe
          subst hQ
          exact W.lret (v := lN acc) hx hb hr (fun t ht hW => ⟨⟨lN acc, (), rfl, (by rw [← hi, show g k - 1 - j = 0 by omega]; rfl), by rw [ht]; exact hP.sub [4, 0, 1, 2, 3] rfl, hD.sub [4, 0, 1, 2, 3] (by decide) rfl⟩, hS.F ht⟩) hS.2.2 dM_number_115
        · refine lv_ldc2 (v := 10) hx hb hown (hw _ w_k_M_48) dM_number_88 ?_
          refine zl_c (a := 10) rfl ?_
          refine lv_lload_n hx hb dM_number_91 rfl (lv_at hl 2 rfl) ?_
          refine zl_mul hx hb dM_number_92 ?_
          refine lv_aload_n hx hb dM_number_93 rfl (lv_at hl 0 rfl) ?_
          refine va_get (D := (dC, dI)) (ci := 4) (v := .ref e0) (C := RM) (T := TM) (N := 17) hx hb hw inM hown hK hP 4 rfl rfl 5 (by decide) (hw _ w_fl_M_23) (fun _ h9 => h9) rfl dM_number_94 ?_
          refine lv_bipush (v := nI 42) hx hb dM_number_97 (by decide) ?_
          refine lv_iload_n hx hb dM_number_99 rfl (lv_at hl 1 rfl) ?_
          refine zi_mul hx hb dM_number_100 ?_
          refine lv_iload hx hb dM_number_101 (lv_at hl 3 rfl) ?_
          refine zi_add hx hb dM_number_103 ?_
          refine za_ild hx hb hK hP 2 0 rfl rfl (by omega) (by decide) dM_number_104 ?_
          have hd8 := hd9 j (by omega)
          refine zi_l hx hb (by omega) dM_number_105 ?_
          refine zl_add hx hb dM_number_106 ?_
          refine lv_lstore_n (lv' := [(3, .long (lN ((10 * acc) + (dr ((42 * k) + j))))), (0, .ref m0), (2, .int (nI k)), (5, .int (nI j))]) hx hb dM_number_107 rfl hl (by decide) rfl (fun ls hl => ?_)
          refine lv_iinc (v := nI (j + 1)) (lv' := [(5, .int (nI (j + 1))), (3, .long (lN ((10 * acc) + (dr ((42 * k) + j))))), (0, .ref m0), (2, .int (nI k))]) hx hb dM_number_108 hl (k := 3) rfl (zi_incr j 1) (by decide) rfl (fun ls hl => ?_)
          refine lv_goto (tgt := 77) hx hb dM_number_111 (by decide) ?_
          exact ih77 (j + 1) ((10 * acc) + (dr ((42 * k) + j))) (by omega) (by have h9 := hi; rw [show g k - 1 - j = g k - 1 - (j + 1) + 1 by omega] at h9; exact h9) (by omega) _ _ _ (lv_sub hl [2, 3, 1, 0] rfl) (hP.sub [0, 1, 2, 3, 4] rfl) (hD.sub [0, 1, 2, 3, 4] (by decide) rfl) hS
    exact lp_77 ((g k - 1 - (g k - 1 - 18)) + 1) (g k - 1 - 18) 0 (by omega) rfl (Nat.lt_succ_self _) _ _ _ (lv_sub hl [3, 2, 1, 0] rfl) (hP.sub [0, 1, 2, 3, 4] rfl) (hD.sub [0, 1, 2, 3, 4] (by decide) rfl) hS
  · refine lv_aload_n hx hb dM_number_62 rfl (lv_at hl 2 rfl) ?_
    refine va_get (D := (dC, dI)) (ci := 4) (v := .ref e1) (C := RM) (T := TM) (N := 17) hx hb hw inM hown hK hP 4 rfl rfl 6 (by decide) (hw _ w_fl_M_26) (fun _ h9 => h9) rfl dM_number_63 ?_
    refine lv_iload_n hx hb dM_number_66 rfl (lv_at hl 1 rfl) ?_
    refine za_pld hx hb hK hP 3 0 rfl rfl (by omega) (by decide) dM_number_67 ?_
    refine zi_v (b := nI (g k - 1)) (pm_nat (by omega)) ?_
    refine lv_bipush (v := nI 18) hx hb dM_number_68 (by decide) ?_
    refine zi_sub hx hb (by omega) dM_number_70 ?_
    refine lv_goto (tgt := 75) hx hb dM_number_71 (by decide) ?_
    refine zi_v (b := nI (g k - 1 - 18)) (by rw [show (g k - 1) - 18 = g k - 1 - 18 by omega]) ?_
    refine lv_istore (lv' := [(5, .int (nI (g k - 1 - 18))), (3, .long (lN 0)), (2, .int (nI k)), (0, .ref m0), (1, .int (nI (fFI k)))]) hx hb dM_number_75 hl (by decide) rfl (fun ls hl => ?_)
    have lp_77 : ∀ (fu : Nat) (j : Nat) (acc : Nat) (hj : j ≤ g k - 1) (hi : nmL dr (42 * k + j) (g k - 1 - j) acc = nmL dr (42 * k + (g k - 1 - 18)) (g k - 1 - (g k - 1 - 18)) 0) (hms : g k - 1 - j < fu) (H : Heap) (locs : List Loc) (ls : Array Slot), lv_has ls 6 [(0, .ref m0), (2, .int (nI k)), (3, .long (lN acc)), (5, .int (nI j))] → va_P (dC, dI) vwCl [(n0, .inl (cI, 16, .inl (aN fFI))), (n2, .inl (cI, 16, .inl (aN fFO))), (e0, .inl (cI, 672, .inl (aN dr))), (e1, .inl (cI, 16, .inl (aP g))), (m0, .inr (4, [.ref n0, .ref n1, .ref n2, .int (nI 0), .int (nI dt), .ref e0, .ref e1, .int (nI rt), .ref e2, .ref e3, .ref e4, .int (nI sz9), .int (nI at9), .int (nI fl), .int pl, .int (nI wr), .ref e5]))] H → va_D A [(n0, .inl (cI, 16, .inl (aN fFI))), (n2, .inl (cI, 16, .inl (aN fFO))), (e0, .inl (cI, 672, .inl (aN dr))), (e1, .inl (cI, 16, .inl (aP g))), (m0, .inr (4, [.ref n0, .ref n1, .ref n2, .int (nI 0), .int (nI dt), .ref e0, .ref e1, .int (nI rt), .ref e2, .ref e3, .ref e4, .int (nI sz9), .int (nI at9), .int (nI fl), .int pl, .int (nI wr), .ref e5]))] → va_S A s.heap H locs → W p l e rm_c_Mnumber_ok s m ([.ref m0, .int (nI (fFI k))] : List Value).toArray below meth c H locs 0 0 Q (F0 m 77 ls []) := by
      intro fu
      induction fu with
      | zero => intro j acc hj hi hms; exact absurd hms (Nat.not_lt_zero _)
      | succ fu ih77 =>
        intro j acc hj hi hms H locs ls hl hP hD hS
        refine lv_iload hx hb dM_number_77 (lv_at hl 3 rfl) ?_
        refine lv_aload_n hx hb dM_number_79 rfl (lv_at hl 0 rfl) ?_
        refine va_get (D := (dC, dI)) (ci := 4) (v := .ref e1) (C := RM) (T := TM) (N := 17) hx hb hw inM hown hK hP 4 rfl rfl 6 (by decide) (hw _ w_fl_M_26) (fun _ h9 => h9) rfl dM_number_80 ?_
        refine lv_iload_n hx hb dM_number_83 rfl (lv_at hl 1 rfl) ?_
        refine za_pld hx hb hK hP 3 0 rfl rfl (by omega) (by decide) dM_number_84 ?_
        refine zi_v (b := nI (g k - 1)) (pm_nat (by omega)) ?_
        refine zi_ge (tgt := 114) hx hb (by omega) (by omega) dM_number_85 (by decide) (fun c_85 => ?_) (fun c_85 => ?_)
        · refine lv_lload_n hx hb dM_number_114 rfl (lv_at hl 2 rfl) ?_
          subst hAe
          subst hQ
          exact W.lret (v := lN acc) hx hb hr (fun t ht hW => ⟨⟨lN acc, (), rfl, (by rw [← hi, show g k - 1 - j = 0 by omega]; rfl), by rw [ht]; exact hP.sub [4, 0, 1, 2, 3] rfl, hD.sub [4, 0, 1, 2, 3] (by decide) rfl⟩, hS.F ht⟩) hS.2.2 dM_number_115
        · refine lv_ldc2 (v := 10) hx hb hown (hw _ w_k_M_48) dM_number_88 ?_
          refine zl_c (a := 10) rfl ?_
          refine lv_lload_n hx hb dM_number_91 rfl (lv_at hl 2 rfl) ?_
          refine zl_mul hx hb dM_number_92 ?_
          refine lv_aload_n hx hb dM_number_93 rfl (lv_at hl 0 rfl) ?_
          refine va_get (D := (dC, dI)) (ci := 4) (v := .ref e0) (C := RM) (T := TM) (N := 17) hx hb hw inM hown hK hP 4 rfl rfl 5 (by decide) (hw _ w_fl_M_23) (fun _ h9 => h9) rfl dM_number_94 ?_
          refine lv_bipush (v := nI 42) hx hb dM_number_97 (by decide) ?_
          refine lv_iload_n hx hb dM_number_99 rfl (lv_at hl 1 rfl) ?_
          refine zi_mul hx hb dM_number_100 ?_
          refine lv_iload hx hb dM_number_101 (lv_at hl 3 rfl) ?_
          refine zi_add hx hb dM_number_103 ?_
          refine za_ild hx hb hK hP 2 0 rfl rfl (by omega) (by decide) dM_number_104 ?_
          have hd8 := hd9 j (by omega)
          refine zi_l hx hb (by omega) dM_number_105 ?_
          refine zl_add hx hb dM_number_106 ?_
          refine lv_lstore_n (lv' := [(3, .long (lN ((10 * acc) + (dr ((42 * k) + j))))), (0, .ref m0), (2, .int (nI k)), (5, .int (nI j))]) hx hb dM_number_107 rfl hl (by decide) rfl (fun ls hl => ?_)
          refine lv_iinc (v := nI (j + 1)) (lv' := [(5, .int (nI (j + 1))), (3, .long (lN ((10 * acc) + (dr ((42 * k) + j))))), (0, .ref m0), (2, .int (nI k))]) hx hb dM_number_108 hl (k := 3) rfl (zi_incr j 1) (by decide) rfl (fun ls hl => ?_)
          refine lv_goto (tgt := 77) hx hb dM_number_111 (by decide) ?_
          exact ih77 (j + 1) ((10 * acc) + (dr ((42 * k) + j))) (by omega) (by have h9 := hi; rw [show g k - 1 - j = g k - 1 - (j + 1) + 1 by omega] at h9; exact h9) (by omega) _ _ _ (lv_sub hl [2, 3, 1, 0] rfl) (hP.sub [0, 1, 2, 3, 4] rfl) (hD.sub [0, 1, 2, 3, 4] (by decide) rfl) hS
    exact lp_77 ((g k - 1 - (g k - 1 - 18)) + 1) (g k - 1 - 18) 0 (by omega) rfl (Nat.lt_succ_self _) _ _ _ (lv_sub hl [3, 2, 1, 0] rfl) (hP.sub [0, 1, 2, 3, 4] rfl) (hD.sub [0, 1, 2, 3, 4] (by decide) rfl) hS
def rm_c_Mnumber_none : Room := ({ frames := 1, cells := 0, slots := 0, locals := 23 } : Room)
set_option maxHeartbeats 4000000 in
set_option maxRecDepth 100000 in
theorem c_Mnumber_none (l : Launch) (dC : Nat → ClassId) (dI : Nat → Nat → Nat) (m0 : Nat) (n0 : Nat) (n1 : Nat) (n2 : Nat) (cd : Nat) (dt : Nat) (e0 : Nat) (e1 : Nat) (rt : Nat) (e2 : Nat) (e3 : Nat) (e4 : Nat) (sz9 : Nat) (at9 : Nat) (fl : Nat) (pl : Int32) (wr : Nat) (e5 : Nat) (cI : ClassId) (cB : ClassId) (dr : Nat → Nat) (g : Nat → Nat) (k : Nat) (hk : k < 16) (hh : fHL k = 0) (hg0 : g k = 0) (sz : Nat) : Met l yM_number wsM_number rm_c_Mnumber_none (zM (dC, dI) [(cI, .int), (cB, .byte)] [.ref m0, .int (nI (fFI k))] [(m0, .inr (4, [.ref n0, .ref n1, .ref n2, .int (nI cd), .int (nI dt), .ref e0, .ref e1, .int (nI rt), .ref e2, .ref e3, .ref e4, .int (nI sz9), .int (nI at9), .int (nI fl), .int pl, .int (nI wr), .ref e5])), (n0, .inl (cI, 16, .inl (aN fFI))), (n2, .inl (cI, 16, .inl (aN fFO))), (e0, .inl (cI, 672, .inl (aN dr))), (e1, .inl (cI, 16, .inl (aP g)))] sz) (zMl (dC, dI) [(m0, .inr (4, [.ref n0, .ref n1, .ref n2, .int (nI cd), .int (nI dt), .ref e0, .ref e1, .int (nI rt), .ref e2, .ref e3, .ref e4, .int (nI sz9), .int (nI at9), .int (nI fl), .int pl, .int (nI wr), .ref e5])), (n0, .inl (cI, 16, .inl (aN fFI))), (n2, .inl (cI, 16, .inl (aN fFO))), (e0, .inl (cI, 672, .inl (aN dr))), (e1, .inl (cI, 16, .inl (aP g)))] [(m0, .inr (4, [.ref n0, .ref n1, .ref n2, .int (nI 0), .int (nI dt), .ref e0, .ref e1, .int (nI rt), .ref e2, .ref e3, .ref e4, .int (nI sz9), .int (nI at9), .int (nI fl), .int pl, .int (nI wr), .ref e5])), (n0, .inl (cI, 16, .inl (aN fFI))), (n2, .inl (cI, 16, .inl (aN fFO))), (e0, .inl (cI, 672, .inl (aN dr))), (e1, .inl (cI, 16, .inl (aP g)))] sz (fun r => r = (-1))) 0 0 (va_A [(m0, .inr (4, [.ref n0, .ref n1, .ref n2, .int (nI cd), .int (nI dt), .ref e0, .ref e1, .int (nI rt), .ref e2, .ref e3, .ref e4, .int (nI sz9), .int (nI at9), .int (nI fl), .int pl, .int (nI wr), .ref e5])), (n0, .inl (cI, 16, .inl (aN fFI))), (n2, .inl (cI, 16, .inl (aN fFO))), (e0, .inl (cI, 672, .inl (aN dr))), (e1, .inl (cI, 16, .inl (aP g)))] sz) := by
  refine Met.ofW (cc := cM_number) (maxL := 6) (ret := (some .long)) (by decide) rfl ?_
  intro p e s m args below meth c s₁ Bd hml hv
  obtain ⟨rfl, hsz, hG, hP, hK, hD0⟩ := hv
  subst hsz
  have hx := Bd.exec
  have hb := Bd.bytes
  have hr := Bd.returns
  have hts := atoms_spec (ws := wsM_number) Bd.pre
  have hw : ∀ w ∈ BIG, w.before _ s = true := fun w h => hts w (List.mem_cons_of_mem _ h)
  have hown : s.vm.findClass RM = some m.cls := findClass_of_methodNamed Bd.named
  have hlocks := Bd.notSynchronized
  have hD := hD0.self (sz := s.heap.size)
  obtain ⟨A, hAe⟩ : ∃ A, A = va_A [(m0, .inr (4, [.ref n0, .ref n1, .ref n2, .int (nI cd), .int (nI dt), .ref e0, .ref e1, .int (nI rt), .ref e2, .ref e3, .ref e4, .int (nI sz9), .int (nI at9), .int (nI fl), .int pl, .int (nI wr), .ref e5])), (n0, .inl (cI, 16, .inl (aN fFI))), (n2, .inl (cI, 16, .inl (aN fFO))), (e0, .inl (cI, 672, .inl (aN dr))), (e1, .inl (cI, 16, .inl (aP g)))] s.heap.size := ⟨_, rfl⟩
  have hA : ∀ q : Nat, s.heap.size ≤ q → A q := fun q h => by rw [hAe]; exact Or.inr h
  rw [← hAe] at hG hD
  have hS : va_S A s.heap s.heap [] := va_S.rf
  have hl := lv_entry ([.ref m0, .int (nI (fFI k))]) (n := 6) (Nat.le_of_ble_eq_true rfl)
  rw [lg_entry_eq]
  generalize (lg_sl ([.ref m0, .int (nI (fFI k))]) ++ List.replicate (6 - (lg_sl ([.ref m0, .int (nI (fFI k))])).length) Slot.unset).toArray = ls at hl ⊢
  have hl : lv_has ls 6 [(0, .ref m0), (1, .int (nI (fFI k)))] := hl
  refine zq_name (fun Q hQ => ?_)
  change W p l e rm_c_Mnumber_none s m _ below meth c _ _ _ _ Q _
  obtain ⟨ho1, ho2, ho3, ho4, ho5⟩ := fFO_b k hk
  have hmm := fMM_b k hk
  have hcd := fCD_b k hk
  have ho2 := ho2.mpr hh
  refine lv_aload_n hx hb dM_number_0 rfl (lv_at hl 0 rfl) ?_
  refine lv_iload_n hx hb dM_number_1 rfl (lv_at hl 1 rfl) ?_
  refine zc_Ri (va_runV (As := [.int (nI (fFI k))]) (rest := []) ⟨hx, hb, hml, hown, hw⟩ (c_fieldOf_ok l dC dI m0 n0 n1 n2 cd dt e0 e1 rt e2 e3 e4 sz9 at9 fl pl wr e5 cI cB k (by omega) s.heap) (cwV 1 hw (gV w_ml_M_66 w_im_M_fieldOf w_se_M_fieldOf w_in_M w_co_M_fieldOf) rfl rfl rfl (by decide +kernel) ⟨Nat.le_of_ble_eq_true rfl, Nat.le_of_ble_eq_true rfl⟩) (zR_V hG hS (hP.sub (ws' := [(m0, .inr (4, [.ref n0, .ref n1, .ref n2, .int (nI cd), .int (nI dt), .ref e0, .ref e1, .int (nI rt), .ref e2, .ref e3, .ref e4, .int (nI sz9), .int (nI at9), .int (nI fl), .int pl, .int (nI wr), .ref e5])), (n0, .inl (cI, 16, .inl (aN fFI)))]) [0, 1] rfl) hK 0 rfl rfl) rfl rfl hl.1 rfl (lv_room (Nat.le_of_ble_eq_true rfl)) dM_number_2 ⟨Nat.le_of_ble_eq_true rfl, Nat.le_of_ble_eq_true rfl⟩) hS (fun r_1 locs h_2 hS => ?_)
  subst h_2
  refine lv_istore_n (lv' := [(2, .int (nI k)), (0, .ref m0), (1, .int (nI (fFI k)))]) hx hb dM_number_5 rfl hl (by decide) rfl (fun ls hl => ?_)
  refine lv_aload_n hx hb dM_number_6 rfl (lv_at hl 1 rfl) ?_
  refine lv_iload_n hx hb dM_number_7 rfl (lv_at hl 0 rfl) ?_
  refine zi_lt0 (tgt := 25) hx hb (by omega) dM_number_8 (by decide) ?_
  refine lv_aload_n hx hb dM_number_11 rfl (lv_at hl 1 rfl) ?_
  refine va_get (D := (dC, dI)) (ci := 4) (v := .ref n2) (C := RM) (T := TM) (N := 17) hx hb hw inM hown hK hP 0 rfl rfl 2 (by decide) (hw _ w_fl_M_16) (fun _ h9 => h9) rfl dM_number_12 ?_
  refine lv_iload_n hx hb dM_number_15 rfl (lv_at hl 0 rfl) ?_
  refine za_ild hx hb hK hP 2 0 rfl rfl (by omega) (by decide) dM_number_16 ?_
  refine lv_iconst (v := nI 2) hx hb dM_number_17 (by decide) ?_
  refine zi_ge (tgt := 25) hx hb (by omega) (by omega) dM_number_18 (by decide) (fun q => False.elim ((by omega))) (fun c_18 => ?_)
  refine lv_iconst (v := nI 1) hx hb dM_number_21 (by decide) ?_
  refine lv_goto (tgt := 26) hx hb dM_number_22 (by decide) ?_
  have hPc := hP.sub (ws' := [(m0, .inr (4, [.ref n0, .ref n1, .ref n2, .int (nI cd), .int (nI dt), .ref e0, .ref e1, .int (nI rt), .ref e2, .ref e3, .ref e4, .int (nI sz9), .int (nI at9), .int (nI fl), .int pl, .int (nI wr), .ref e5]))]) [0] rfl
  have hDc := hD.sub (ws' := [(m0, .inr (4, [.ref n0, .ref n1, .ref n2, .int (nI cd), .int (nI dt), .ref e0, .ref e1, .int (nI rt), .ref e2, .ref e3, .ref e4, .int (nI sz9), .int (nI at9), .int (nI fl), .int pl, .int (nI wr), .ref e5]))]) [0] (by decide) rfl
  have hFc := va_free (wc := [(m0, .inr (4, [.ref n0, .ref n1, .ref n2, .int (nI cd), .int (nI dt), .ref e0, .ref e1, .int (nI rt), .ref e2, .ref e3, .ref e4, .int (nI sz9), .int (nI at9), .int (nI fl), .int pl, .int (nI wr), .ref e5]))]) hD hS hA [0] rfl
  refine zc_Mi (va_runV (As := [.int (nI 1)]) (rest := []) ⟨hx, hb, hml, hown, hw⟩ (c_goes_1 l dC dI m0 n0 n1 n2 cd dt e0 e1 rt e2 e3 e4 sz9 at9 fl pl wr e5 cI cB s.heap.size) (cwV 1 hw (gV w_ml_M_50 w_im_M_goes w_se_M_goes w_in_M w_co_M_goes) rfl rfl rfl (by decide +kernel) ⟨Nat.le_of_ble_eq_true rfl, Nat.le_of_ble_eq_true rfl⟩) (zM_V hG hS hFc hPc hDc hK 0 rfl rfl) rfl rfl hl.1 rfl (lv_room (Nat.le_of_ble_eq_true rfl)) dM_number_26 ⟨Nat.le_of_ble_eq_true rfl, Nat.le_of_ble_eq_true rfl⟩) hS hFc (fun r_2 H locs h_26 hP1 hD1 hk1 hS => ?_)
  obtain ⟨hP, hD⟩ := va_join (wr := [(n0, .inl (cI, 16, .inl (aN fFI))), (n2, .inl (cI, 16, .inl (aN fFO))), (e0, .inl (cI, 672, .inl (aN dr))), (e1, .inl (cI, 16, .inl (aP g)))]) (w1 := [(m0, .inr (4, [.ref n0, .ref n1, .ref n2, .int (nI 0), .int (nI dt), .ref e0, .ref e1, .int (nI rt), .ref e2, .ref e3, .ref e4, .int (nI sz9), .int (nI at9), .int (nI fl), .int pl, .int (nI wr), .ref e5]))]) hP hD [0] [1, 2, 3, 4] rfl rfl (by decide) (by decide) hk1 hFc hP1 hD1
  have hP : va_P (dC, dI) vwCl [(n0, .inl (cI, 16, .inl (aN fFI))), (n2, .inl (cI, 16, .inl (aN fFO))), (e0, .inl (cI, 672, .inl (aN dr))), (e1, .inl (cI, 16, .inl (aP g))), (m0, .inr (4, [.ref n0, .ref n1, .ref n2, .int (nI 0), .int (nI dt), .ref e0, .ref e1, .int (nI rt), .ref e2, .ref e3, .ref e4, .int (nI sz9), .int (nI at9), .int (nI fl), .int pl, .int (nI wr), .ref e5]))] H := hP
  have hD : va_D A [(n0, .inl (cI, 16, .inl (aN fFI))), (n2, .inl (cI, 16, .inl (aN fFO))), (e0, .inl (cI, 672, .inl (aN dr))), (e1, .inl (cI, 16, .inl (aP g))), (m0, .inr (4, [.ref n0, .ref n1, .ref n2, .int (nI 0), .int (nI dt), .ref e0, .ref e1, .int (nI rt), .ref e2, .ref e3, .ref e4, .int (nI sz9), .int (nI at9), .int (nI fl), .int pl, .int (nI wr), .ref e5]))] := hD
  subst h_26
  refine lv_if_ne (tgt := 34) hx hb dM_number_29 (by decide) (fun c_29 => ?_) (fun q => False.elim (absurd q (by decide)))
  refine lv_aload_n hx hb dM_number_34 rfl (lv_at hl 1 rfl) ?_
  refine va_get (D := (dC, dI)) (ci := 4) (v := .ref e1) (C := RM) (T := TM) (N := 17) hx hb hw inM hown hK hP 4 rfl rfl 6 (by decide) (hw _ w_fl_M_26) (fun _ h9 => h9) rfl dM_number_35 ?_
  refine lv_iload_n hx hb dM_number_38 rfl (lv_at hl 0 rfl) ?_
  refine za_pld hx hb hK hP 3 0 rfl rfl (by omega) (by decide) dM_number_39 ?_
  refine zp_ge0 (tgt := 49) hx hb (by omega) dM_number_40 (by decide) (fun q => False.elim ((by omega))) (fun c_40 => ?_)
  refine lv_ldc2 (v := -1) hx hb hown (hw _ w_k_M_82) dM_number_43 ?_
  refine lv_goto (tgt := 50) hx hb dM_number_46 (by decide) ?_
  refine lv_lstore_n (lv' := [(3, .long (-1)), (2, .int (nI k)), (0, .ref m0), (1, .int (nI (fFI k)))]) hx hb dM_number_50 rfl hl (by decide) rfl (fun ls hl => ?_)
  refine lv_aload_n hx hb dM_number_51 rfl (lv_at hl 2 rfl) ?_
  refine va_get (D := (dC, dI)) (ci := 4) (v := .ref e1) (C := RM) (T := TM) (N := 17) hx hb hw inM hown hK hP 4 rfl rfl 6 (by decide) (hw _ w_fl_M_26) (fun _ h9 => h9) rfl dM_number_52 ?_
  refine lv_iload_n hx hb dM_number_55 rfl (lv_at hl 1 rfl) ?_
  refine za_pld hx hb hK hP 3 0 rfl rfl (by omega) (by decide) dM_number_56 ?_
  refine lv_bipush (v := nI 18) hx hb dM_number_57 (by decide) ?_
  refine zp_le (tgt := 74) hx hb (by omega) (by omega) dM_number_59 (by decide) (fun c_59 => ?_) (fun q => False.elim ((by omega)))
  refine lv_iconst (v := nI 0) hx hb dM_number_74 (by decide) ?_
  refine lv_istore (lv' := [(5, .int (nI 0)), (3, .long (-1)), (2, .int (nI k)), (0, .ref m0), (1, .int (nI (fFI k)))]) hx hb dM_number_75 hl (by decide) rfl (fun ls hl => ?_)
  refine lv_iload hx hb dM_number_77 (lv_at hl 0 rfl) ?_
  refine lv_aload_n hx hb dM_number_79 rfl (lv_at hl 3 rfl) ?_
  refine va_get (D := (dC, dI)) (ci := 4) (v := .ref e1) (C := RM) (T := TM) (N := 17) hx hb hw inM hown hK hP 4 rfl rfl 6 (by decide) (hw _ w_fl_M_26) (fun _ h9 => h9) rfl dM_number_80 ?_
  refine lv_iload_n hx hb dM_number_83 rfl (lv_at hl 2 rfl) ?_
  refine za_pld hx hb hK hP 3 0 rfl rfl (by omega) (by decide) dM_number_84 ?_
  refine zp_ge (tgt := 114) hx hb (by omega) (by omega) dM_number_85 (by decide) (fun c_85 => ?_) (fun q => False.elim ((by omega)))
  refine lv_lload_n hx hb dM_number_114 rfl (lv_at hl 1 rfl) ?_
  subst hAe
  subst hQ
  exact W.lret (v := (-1)) hx hb hr (fun t ht hW => ⟨⟨(-1), (), rfl, rfl, by rw [ht]; exact hP.sub [4, 0, 1, 2, 3] rfl, hD.sub [4, 0, 1, 2, 3] (by decide) rfl⟩, hS.F ht⟩) hS.2.2 dM_number_115
def rm_c_Mnumber_no1 : Room := ({ frames := 1, cells := 0, slots := 0, locals := 23 } : Room)
set_option maxHeartbeats 4000000 in
set_option maxRecDepth 100000 in
theorem c_Mnumber_no1 (l : Launch) (dC : Nat → ClassId) (dI : Nat → Nat → Nat) (m0 : Nat) (n0 : Nat) (n1 : Nat) (n2 : Nat) (cd : Nat) (dt : Nat) (e0 : Nat) (e1 : Nat) (rt : Nat) (e2 : Nat) (e3 : Nat) (e4 : Nat) (sz9 : Nat) (at9 : Nat) (fl : Nat) (pl : Int32) (wr : Nat) (e5 : Nat) (cI : ClassId) (cB : ClassId) (x9 : Int32) (hx9 : ∀ j, j < 16 → nI (fFI j) ≠ x9) (sz : Nat) : Met l yM_number wsM_number rm_c_Mnumber_no1 (zM (dC, dI) [(cI, .int), (cB, .byte)] [.ref m0, .int x9] [(m0, .inr (4, [.ref n0, .ref n1, .ref n2, .int (nI cd), .int (nI dt), .ref e0, .ref e1, .int (nI rt), .ref e2, .ref e3, .ref e4, .int (nI sz9), .int (nI at9), .int (nI fl), .int pl, .int (nI wr), .ref e5])), (n0, .inl (cI, 16, .inl (aN fFI))), (n1, .inl (cI, 16, .inl (aN fMM))), (n2, .inl (cI, 16, .inl (aN fFO)))] sz) (zMl (dC, dI) [(m0, .inr (4, [.ref n0, .ref n1, .ref n2, .int (nI cd), .int (nI dt), .ref e0, .ref e1, .int (nI rt), .ref e2, .ref e3, .ref e4, .int (nI sz9), .int (nI at9), .int (nI fl), .int pl, .int (nI wr), .ref e5])), (n0, .inl (cI, 16, .inl (aN fFI))), (n1, .inl (cI, 16, .inl (aN fMM))), (n2, .inl (cI, 16, .inl (aN fFO)))] [(m0, .inr (4, [.ref n0, .ref n1, .ref n2, .int (nI 1), .int (nI dt), .ref e0, .ref e1, .int (nI rt), .ref e2, .ref e3, .ref e4, .int (nI sz9), .int (nI at9), .int (nI fl), .int pl, .int (nI wr), .ref e5])), (n0, .inl (cI, 16, .inl (aN fFI))), (n1, .inl (cI, 16, .inl (aN fMM))), (n2, .inl (cI, 16, .inl (aN fFO)))] sz (fun r => r = lN 0)) 0 0 (va_A [(m0, .inr (4, [.ref n0, .ref n1, .ref n2, .int (nI cd), .int (nI dt), .ref e0, .ref e1, .int (nI rt), .ref e2, .ref e3, .ref e4, .int (nI sz9), .int (nI at9), .int (nI fl), .int pl, .int (nI wr), .ref e5])), (n0, .inl (cI, 16, .inl (aN fFI))), (n1, .inl (cI, 16, .inl (aN fMM))), (n2, .inl (cI, 16, .inl (aN fFO)))] sz) := by
  refine Met.ofW (cc := cM_number) (maxL := 6) (ret := (some .long)) (by decide) rfl ?_
  intro p e s m args below meth c s₁ Bd hml hv
  obtain ⟨rfl, hsz, hG, hP, hK, hD0⟩ := hv
  subst hsz
  have hx := Bd.exec
  have hb := Bd.bytes
  have hr := Bd.returns
  have hts := atoms_spec (ws := wsM_number) Bd.pre
  have hw : ∀ w ∈ BIG, w.before _ s = true := fun w h => hts w (List.mem_cons_of_mem _ h)
  have hown : s.vm.findClass RM = some m.cls := findClass_of_methodNamed Bd.named
  have hlocks := Bd.notSynchronized
  have hD := hD0.self (sz := s.heap.size)
  obtain ⟨A, hAe⟩ : ∃ A, A = va_A [(m0, .inr (4, [.ref n0, .ref n1, .ref n2, .int (nI cd), .int (nI dt), .ref e0, .ref e1, .int (nI rt), .ref e2, .ref e3, .ref e4, .int (nI sz9), .int (nI at9), .int (nI fl), .int pl, .int (nI wr), .ref e5])), (n0, .inl (cI, 16, .inl (aN fFI))), (n1, .inl (cI, 16, .inl (aN fMM))), (n2, .inl (cI, 16, .inl (aN fFO)))] s.heap.size := ⟨_, rfl⟩
  have hA : ∀ q : Nat, s.heap.size ≤ q → A q := fun q h => by rw [hAe]; exact Or.inr h
  rw [← hAe] at hG hD
  have hS : va_S A s.heap s.heap [] := va_S.rf
  have hl := lv_entry ([.ref m0, .int x9]) (n := 6) (Nat.le_of_ble_eq_true rfl)
  rw [lg_entry_eq]
  generalize (lg_sl ([.ref m0, .int x9]) ++ List.replicate (6 - (lg_sl ([.ref m0, .int x9])).length) Slot.unset).toArray = ls at hl ⊢
  have hl : lv_has ls 6 [(0, .ref m0), (1, .int x9)] := hl
  refine zq_name (fun Q hQ => ?_)
  change W p l e rm_c_Mnumber_no1 s m _ below meth c _ _ _ _ Q _
  refine lv_aload_n hx hb dM_number_0 rfl (lv_at hl 0 rfl) ?_
  refine lv_iload_n hx hb dM_number_1 rfl (lv_at hl 1 rfl) ?_
  refine zc_Ri (va_runV (As := [.int x9]) (rest := []) ⟨hx, hb, hml, hown, hw⟩ (c_fieldOf_no l dC dI m0 n0 n1 n2 cd dt e0 e1 rt e2 e3 e4 sz9 at9 fl pl wr e5 cI cB x9 hx9 s.heap) (cwV 1 hw (gV w_ml_M_66 w_im_M_fieldOf w_se_M_fieldOf w_in_M w_co_M_fieldOf) rfl rfl rfl (by decide +kernel) ⟨Nat.le_of_ble_eq_true rfl, Nat.le_of_ble_eq_true rfl⟩) (zR_V hG hS (hP.sub (ws' := [(m0, .inr (4, [.ref n0, .ref n1, .ref n2, .int (nI cd), .int (nI dt), .ref e0, .ref e1, .int (nI rt), .ref e2, .ref e3, .ref e4, .int (nI sz9), .int (nI at9), .int (nI fl), .int pl, .int (nI wr), .ref e5])), (n0, .inl (cI, 16, .inl (aN fFI)))]) [0, 1] rfl) hK 0 rfl rfl) rfl rfl hl.1 rfl (lv_room (Nat.le_of_ble_eq_true rfl)) dM_number_2 ⟨Nat.le_of_ble_eq_true rfl, Nat.le_of_ble_eq_true rfl⟩) hS (fun r_1 locs h_2 hS => ?_)
  subst h_2
  refine lv_istore_n (lv' := [(2, .int (-1)), (0, .ref m0), (1, .int x9)]) hx hb dM_number_5 rfl hl (by decide) rfl (fun ls hl => ?_)
  refine lv_aload_n hx hb dM_number_6 rfl (lv_at hl 1 rfl) ?_
  refine lv_iload_n hx hb dM_number_7 rfl (lv_at hl 0 rfl) ?_
  refine lv_if_lt (tgt := 25) hx hb dM_number_8 (by decide) (fun c_8 => ?_) (fun q => False.elim (absurd q (by decide)))
  refine lv_iconst (v := nI 0) hx hb dM_number_25 (by decide) ?_
  have hPc := hP.sub (ws' := [(m0, .inr (4, [.ref n0, .ref n1, .ref n2, .int (nI cd), .int (nI dt), .ref e0, .ref e1, .int (nI rt), .ref e2, .ref e3, .ref e4, .int (nI sz9), .int (nI at9), .int (nI fl), .int pl, .int (nI wr), .ref e5]))]) [0] rfl
  have hDc := hD.sub (ws' := [(m0, .inr (4, [.ref n0, .ref n1, .ref n2, .int (nI cd), .int (nI dt), .ref e0, .ref e1, .int (nI rt), .ref e2, .ref e3, .ref e4, .int (nI sz9), .int (nI at9), .int (nI fl), .int pl, .int (nI wr), .ref e5]))]) [0] (by decide) rfl
  have hFc := va_free (wc := [(m0, .inr (4, [.ref n0, .ref n1, .ref n2, .int (nI cd), .int (nI dt), .ref e0, .ref e1, .int (nI rt), .ref e2, .ref e3, .ref e4, .int (nI sz9), .int (nI at9), .int (nI fl), .int pl, .int (nI wr), .ref e5]))]) hD hS hA [0] rfl
  refine zc_Mi (va_runV (As := [.int (nI 0)]) (rest := []) ⟨hx, hb, hml, hown, hw⟩ (c_goes_0 l dC dI m0 n0 n1 n2 cd dt e0 e1 rt e2 e3 e4 sz9 at9 fl pl wr e5 cI cB s.heap.size) (cwV 1 hw (gV w_ml_M_50 w_im_M_goes w_se_M_goes w_in_M w_co_M_goes) rfl rfl rfl (by decide +kernel) ⟨Nat.le_of_ble_eq_true rfl, Nat.le_of_ble_eq_true rfl⟩) (zM_V hG hS hFc hPc hDc hK 0 rfl rfl) rfl rfl hl.1 rfl (lv_room (Nat.le_of_ble_eq_true rfl)) dM_number_26 ⟨Nat.le_of_ble_eq_true rfl, Nat.le_of_ble_eq_true rfl⟩) hS hFc (fun r_2 H locs h_26 hP1 hD1 hk1 hS => ?_)
  obtain ⟨hP, hD⟩ := va_join (wr := [(n0, .inl (cI, 16, .inl (aN fFI))), (n1, .inl (cI, 16, .inl (aN fMM))), (n2, .inl (cI, 16, .inl (aN fFO)))]) (w1 := [(m0, .inr (4, [.ref n0, .ref n1, .ref n2, .int (nI 1), .int (nI dt), .ref e0, .ref e1, .int (nI rt), .ref e2, .ref e3, .ref e4, .int (nI sz9), .int (nI at9), .int (nI fl), .int pl, .int (nI wr), .ref e5]))]) hP hD [0] [1, 2, 3] rfl rfl (by decide) (by decide) hk1 hFc hP1 hD1
  have hP : va_P (dC, dI) vwCl [(n0, .inl (cI, 16, .inl (aN fFI))), (n1, .inl (cI, 16, .inl (aN fMM))), (n2, .inl (cI, 16, .inl (aN fFO))), (m0, .inr (4, [.ref n0, .ref n1, .ref n2, .int (nI 1), .int (nI dt), .ref e0, .ref e1, .int (nI rt), .ref e2, .ref e3, .ref e4, .int (nI sz9), .int (nI at9), .int (nI fl), .int pl, .int (nI wr), .ref e5]))] H := hP
  have hD : va_D A [(n0, .inl (cI, 16, .inl (aN fFI))), (n1, .inl (cI, 16, .inl (aN fMM))), (n2, .inl (cI, 16, .inl (aN fFO))), (m0, .inr (4, [.ref n0, .ref n1, .ref n2, .int (nI 1), .int (nI dt), .ref e0, .ref e1, .int (nI rt), .ref e2, .ref e3, .ref e4, .int (nI sz9), .int (nI at9), .int (nI fl), .int pl, .int (nI wr), .ref e5]))] := hD
  subst h_26
  refine lv_if_ne (tgt := 34) hx hb dM_number_29 (by decide) (fun q => False.elim (absurd q (by decide))) (fun c_29 => ?_)
  refine lv_lconst (v := lN 0) hx hb dM_number_32 (by decide) ?_
  subst hAe
  subst hQ
  exact W.lret (v := lN 0) hx hb hr (fun t ht hW => ⟨⟨lN 0, (), rfl, rfl, by rw [ht]; exact hP.sub [3, 0, 1, 2] rfl, hD.sub [3, 0, 1, 2] (by decide) rfl⟩, hS.F ht⟩) hS.2.2 dM_number_33
def rm_c_Mnumber_no2 : Room := ({ frames := 1, cells := 0, slots := 0, locals := 23 } : Room)
set_option maxHeartbeats 4000000 in
set_option maxRecDepth 100000 in
theorem c_Mnumber_no2 (l : Launch) (dC : Nat → ClassId) (dI : Nat → Nat → Nat) (m0 : Nat) (n0 : Nat) (n1 : Nat) (n2 : Nat) (cd : Nat) (dt : Nat) (e0 : Nat) (e1 : Nat) (rt : Nat) (e2 : Nat) (e3 : Nat) (e4 : Nat) (sz9 : Nat) (at9 : Nat) (fl : Nat) (pl : Int32) (wr : Nat) (e5 : Nat) (cI : ClassId) (cB : ClassId) (k : Nat) (hk : k < 16) (hh : fHL k ≠ 0) (sz : Nat) : Met l yM_number wsM_number rm_c_Mnumber_no2 (zM (dC, dI) [(cI, .int), (cB, .byte)] [.ref m0, .int (nI (fFI k))] [(m0, .inr (4, [.ref n0, .ref n1, .ref n2, .int (nI cd), .int (nI dt), .ref e0, .ref e1, .int (nI rt), .ref e2, .ref e3, .ref e4, .int (nI sz9), .int (nI at9), .int (nI fl), .int pl, .int (nI wr), .ref e5])), (n0, .inl (cI, 16, .inl (aN fFI))), (n1, .inl (cI, 16, .inl (aN fMM))), (n2, .inl (cI, 16, .inl (aN fFO)))] sz) (zMl (dC, dI) [(m0, .inr (4, [.ref n0, .ref n1, .ref n2, .int (nI cd), .int (nI dt), .ref e0, .ref e1, .int (nI rt), .ref e2, .ref e3, .ref e4, .int (nI sz9), .int (nI at9), .int (nI fl), .int pl, .int (nI wr), .ref e5])), (n0, .inl (cI, 16, .inl (aN fFI))), (n1, .inl (cI, 16, .inl (aN fMM))), (n2, .inl (cI, 16, .inl (aN fFO)))] [(m0, .inr (4, [.ref n0, .ref n1, .ref n2, .int (nI 1), .int (nI dt), .ref e0, .ref e1, .int (nI rt), .ref e2, .ref e3, .ref e4, .int (nI sz9), .int (nI at9), .int (nI fl), .int pl, .int (nI wr), .ref e5])), (n0, .inl (cI, 16, .inl (aN fFI))), (n1, .inl (cI, 16, .inl (aN fMM))), (n2, .inl (cI, 16, .inl (aN fFO)))] sz (fun r => r = lN 0)) 0 0 (va_A [(m0, .inr (4, [.ref n0, .ref n1, .ref n2, .int (nI cd), .int (nI dt), .ref e0, .ref e1, .int (nI rt), .ref e2, .ref e3, .ref e4, .int (nI sz9), .int (nI at9), .int (nI fl), .int pl, .int (nI wr), .ref e5])), (n0, .inl (cI, 16, .inl (aN fFI))), (n1, .inl (cI, 16, .inl (aN fMM))), (n2, .inl (cI, 16, .inl (aN fFO)))] sz) := by
  refine Met.ofW (cc := cM_number) (maxL := 6) (ret := (some .long)) (by decide) rfl ?_
  intro p e s m args below meth c s₁ Bd hml hv
  obtain ⟨rfl, hsz, hG, hP, hK, hD0⟩ := hv
  subst hsz
  have hx := Bd.exec
  have hb := Bd.bytes
  have hr := Bd.returns
  have hts := atoms_spec (ws := wsM_number) Bd.pre
  have hw : ∀ w ∈ BIG, w.before _ s = true := fun w h => hts w (List.mem_cons_of_mem _ h)
  have hown : s.vm.findClass RM = some m.cls := findClass_of_methodNamed Bd.named
  have hlocks := Bd.notSynchronized
  have hD := hD0.self (sz := s.heap.size)
  obtain ⟨A, hAe⟩ : ∃ A, A = va_A [(m0, .inr (4, [.ref n0, .ref n1, .ref n2, .int (nI cd), .int (nI dt), .ref e0, .ref e1, .int (nI rt), .ref e2, .ref e3, .ref e4, .int (nI sz9), .int (nI at9), .int (nI fl), .int pl, .int (nI wr), .ref e5])), (n0, .inl (cI, 16, .inl (aN fFI))), (n1, .inl (cI, 16, .inl (aN fMM))), (n2, .inl (cI, 16, .inl (aN fFO)))] s.heap.size := ⟨_, rfl⟩
  have hA : ∀ q : Nat, s.heap.size ≤ q → A q := fun q h => by rw [hAe]; exact Or.inr h
  rw [← hAe] at hG hD
  have hS : va_S A s.heap s.heap [] := va_S.rf
  have hl := lv_entry ([.ref m0, .int (nI (fFI k))]) (n := 6) (Nat.le_of_ble_eq_true rfl)
  rw [lg_entry_eq]
  generalize (lg_sl ([.ref m0, .int (nI (fFI k))]) ++ List.replicate (6 - (lg_sl ([.ref m0, .int (nI (fFI k))])).length) Slot.unset).toArray = ls at hl ⊢
  have hl : lv_has ls 6 [(0, .ref m0), (1, .int (nI (fFI k)))] := hl
  refine zq_name (fun Q hQ => ?_)
  change W p l e rm_c_Mnumber_no2 s m _ below meth c _ _ _ _ Q _
  obtain ⟨ho1, ho2, ho3, ho4, ho5⟩ := fFO_b k hk
  have hmm := fMM_b k hk
  have hcd := fCD_b k hk
  refine lv_aload_n hx hb dM_number_0 rfl (lv_at hl 0 rfl) ?_
  refine lv_iload_n hx hb dM_number_1 rfl (lv_at hl 1 rfl) ?_
  refine zc_Ri (va_runV (As := [.int (nI (fFI k))]) (rest := []) ⟨hx, hb, hml, hown, hw⟩ (c_fieldOf_ok l dC dI m0 n0 n1 n2 cd dt e0 e1 rt e2 e3 e4 sz9 at9 fl pl wr e5 cI cB k (by omega) s.heap) (cwV 1 hw (gV w_ml_M_66 w_im_M_fieldOf w_se_M_fieldOf w_in_M w_co_M_fieldOf) rfl rfl rfl (by decide +kernel) ⟨Nat.le_of_ble_eq_true rfl, Nat.le_of_ble_eq_true rfl⟩) (zR_V hG hS (hP.sub (ws' := [(m0, .inr (4, [.ref n0, .ref n1, .ref n2, .int (nI cd), .int (nI dt), .ref e0, .ref e1, .int (nI rt), .ref e2, .ref e3, .ref e4, .int (nI sz9), .int (nI at9), .int (nI fl), .int pl, .int (nI wr), .ref e5])), (n0, .inl (cI, 16, .inl (aN fFI)))]) [0, 1] rfl) hK 0 rfl rfl) rfl rfl hl.1 rfl (lv_room (Nat.le_of_ble_eq_true rfl)) dM_number_2 ⟨Nat.le_of_ble_eq_true rfl, Nat.le_of_ble_eq_true rfl⟩) hS (fun r_1 locs h_2 hS => ?_)
  subst h_2
  refine lv_istore_n (lv' := [(2, .int (nI k)), (0, .ref m0), (1, .int (nI (fFI k)))]) hx hb dM_number_5 rfl hl (by decide) rfl (fun ls hl => ?_)
  refine lv_aload_n hx hb dM_number_6 rfl (lv_at hl 1 rfl) ?_
  refine lv_iload_n hx hb dM_number_7 rfl (lv_at hl 0 rfl) ?_
  refine zi_lt0 (tgt := 25) hx hb (by omega) dM_number_8 (by decide) ?_
  refine lv_aload_n hx hb dM_number_11 rfl (lv_at hl 1 rfl) ?_
  refine va_get (D := (dC, dI)) (ci := 4) (v := .ref n2) (C := RM) (T := TM) (N := 17) hx hb hw inM hown hK hP 0 rfl rfl 2 (by decide) (hw _ w_fl_M_16) (fun _ h9 => h9) rfl dM_number_12 ?_
  refine lv_iload_n hx hb dM_number_15 rfl (lv_at hl 0 rfl) ?_
  refine za_ild hx hb hK hP 3 0 rfl rfl (by omega) (by decide) dM_number_16 ?_
  refine lv_iconst (v := nI 2) hx hb dM_number_17 (by decide) ?_
  refine zi_ge (tgt := 25) hx hb (by omega) (by omega) dM_number_18 (by decide) (fun c_18 => ?_) (fun q => False.elim ((hh (ho2.mp q))))
  refine lv_iconst (v := nI 0) hx hb dM_number_25 (by decide) ?_
  have hPc := hP.sub (ws' := [(m0, .inr (4, [.ref n0, .ref n1, .ref n2, .int (nI cd), .int (nI dt), .ref e0, .ref e1, .int (nI rt), .ref e2, .ref e3, .ref e4, .int (nI sz9), .int (nI at9), .int (nI fl), .int pl, .int (nI wr), .ref e5]))]) [0] rfl
  have hDc := hD.sub (ws' := [(m0, .inr (4, [.ref n0, .ref n1, .ref n2, .int (nI cd), .int (nI dt), .ref e0, .ref e1, .int (nI rt), .ref e2, .ref e3, .ref e4, .int (nI sz9), .int (nI at9), .int (nI fl), .int pl, .int (nI wr), .ref e5]))]) [0] (by decide) rfl
  have hFc := va_free (wc := [(m0, .inr (4, [.ref n0, .ref n1, .ref n2, .int (nI cd), .int (nI dt), .ref e0, .ref e1, .int (nI rt), .ref e2, .ref e3, .ref e4, .int (nI sz9), .int (nI at9), .int (nI fl), .int pl, .int (nI wr), .ref e5]))]) hD hS hA [0] rfl
  refine zc_Mi (va_runV (As := [.int (nI 0)]) (rest := []) ⟨hx, hb, hml, hown, hw⟩ (c_goes_0 l dC dI m0 n0 n1 n2 cd dt e0 e1 rt e2 e3 e4 sz9 at9 fl pl wr e5 cI cB s.heap.size) (cwV 1 hw (gV w_ml_M_50 w_im_M_goes w_se_M_goes w_in_M w_co_M_goes) rfl rfl rfl (by decide +kernel) ⟨Nat.le_of_ble_eq_true rfl, Nat.le_of_ble_eq_true rfl⟩) (zM_V hG hS hFc hPc hDc hK 0 rfl rfl) rfl rfl hl.1 rfl (lv_room (Nat.le_of_ble_eq_true rfl)) dM_number_26 ⟨Nat.le_of_ble_eq_true rfl, Nat.le_of_ble_eq_true rfl⟩) hS hFc (fun r_2 H locs h_26 hP1 hD1 hk1 hS => ?_)
  obtain ⟨hP, hD⟩ := va_join (wr := [(n0, .inl (cI, 16, .inl (aN fFI))), (n1, .inl (cI, 16, .inl (aN fMM))), (n2, .inl (cI, 16, .inl (aN fFO)))]) (w1 := [(m0, .inr (4, [.ref n0, .ref n1, .ref n2, .int (nI 1), .int (nI dt), .ref e0, .ref e1, .int (nI rt), .ref e2, .ref e3, .ref e4, .int (nI sz9), .int (nI at9), .int (nI fl), .int pl, .int (nI wr), .ref e5]))]) hP hD [0] [1, 2, 3] rfl rfl (by decide) (by decide) hk1 hFc hP1 hD1
  have hP : va_P (dC, dI) vwCl [(n0, .inl (cI, 16, .inl (aN fFI))), (n1, .inl (cI, 16, .inl (aN fMM))), (n2, .inl (cI, 16, .inl (aN fFO))), (m0, .inr (4, [.ref n0, .ref n1, .ref n2, .int (nI 1), .int (nI dt), .ref e0, .ref e1, .int (nI rt), .ref e2, .ref e3, .ref e4, .int (nI sz9), .int (nI at9), .int (nI fl), .int pl, .int (nI wr), .ref e5]))] H := hP
  have hD : va_D A [(n0, .inl (cI, 16, .inl (aN fFI))), (n1, .inl (cI, 16, .inl (aN fMM))), (n2, .inl (cI, 16, .inl (aN fFO))), (m0, .inr (4, [.ref n0, .ref n1, .ref n2, .int (nI 1), .int (nI dt), .ref e0, .ref e1, .int (nI rt), .ref e2, .ref e3, .ref e4, .int (nI sz9), .int (nI at9), .int (nI fl), .int pl, .int (nI wr), .ref e5]))] := hD
  subst h_26
  refine lv_if_ne (tgt := 34) hx hb dM_number_29 (by decide) (fun q => False.elim (absurd q (by decide))) (fun c_29 => ?_)
  refine lv_lconst (v := lN 0) hx hb dM_number_32 (by decide) ?_
  subst hAe
  subst hQ
  exact W.lret (v := lN 0) hx hb hr (fun t ht hW => ⟨⟨lN 0, (), rfl, rfl, by rw [ht]; exact hP.sub [3, 0, 1, 2] rfl, hD.sub [3, 0, 1, 2] (by decide) rfl⟩, hS.F ht⟩) hS.2.2 dM_number_33
def rm_c_Mfields : Room := ({ frames := 0, cells := 0, slots := 0, locals := 0 } : Room)
set_option maxHeartbeats 4000000 in
set_option maxRecDepth 100000 in
theorem c_Mfields (l : Launch) (dC : Nat → ClassId) (dI : Nat → Nat → Nat) (m0 : Nat) (n0 : Nat) (n1 : Nat) (n2 : Nat) (cd : Nat) (dt : Nat) (e0 : Nat) (e1 : Nat) (rt : Nat) (e2 : Nat) (e3 : Nat) (e4 : Nat) (sz9 : Nat) (at9 : Nat) (fl : Nat) (pl : Int32) (wr : Nat) (e5 : Nat) (cI : ClassId) (cB : ClassId) (g : Nat → Nat) (hg : ∀ j, j < 16 → g j < 100) (sz : Nat) : Met l yM_fields wsM_fields rm_c_Mfields (zM (dC, dI) [(cI, .int), (cB, .byte)] [.ref m0] [(m0, .inr (4, [.ref n0, .ref n1, .ref n2, .int (nI cd), .int (nI dt), .ref e0, .ref e1, .int (nI rt), .ref e2, .ref e3, .ref e4, .int (nI sz9), .int (nI at9), .int (nI fl), .int pl, .int (nI wr), .ref e5])), (e1, .inl (cI, 16, .inl (aP g)))] sz) (zMi (dC, dI) [(m0, .inr (4, [.ref n0, .ref n1, .ref n2, .int (nI cd), .int (nI dt), .ref e0, .ref e1, .int (nI rt), .ref e2, .ref e3, .ref e4, .int (nI sz9), .int (nI at9), .int (nI fl), .int pl, .int (nI wr), .ref e5])), (e1, .inl (cI, 16, .inl (aP g)))] [(m0, .inr (4, [.ref n0, .ref n1, .ref n2, .int (nI 0), .int (nI dt), .ref e0, .ref e1, .int (nI rt), .ref e2, .ref e3, .ref e4, .int (nI sz9), .int (nI at9), .int (nI fl), .int pl, .int (nI wr), .ref e5])), (e1, .inl (cI, 16, .inl (aP g)))] sz (fun r => r = nI (gc g 16))) 0 0 (va_A [(m0, .inr (4, [.ref n0, .ref n1, .ref n2, .int (nI cd), .int (nI dt), .ref e0, .ref e1, .int (nI rt), .ref e2, .ref e3, .ref e4, .int (nI sz9), .int (nI at9), .int (nI fl), .int pl, .int (nI wr), .ref e5])), (e1, .inl (cI, 16, .inl (aP g)))] sz) := by
  refine Met.ofW (cc := cM_fields) (maxL := 3) (ret := (some .int)) (by decide) rfl ?_
  intro p e s m args below meth c s₁ Bd hml hv
  obtain ⟨rfl, hsz, hG, hP, hK, hD0⟩ := hv
  subst hsz
  have hx := Bd.exec
  have hb := Bd.bytes
  have hr := Bd.returns
  have hts := atoms_spec (ws := wsM_fields) Bd.pre
  have hw : ∀ w ∈ BIG, w.before _ s = true := fun w h => hts w (List.mem_cons_of_mem _ h)
  have hown : s.vm.findClass RM = some m.cls := findClass_of_methodNamed Bd.named
  have hlocks := Bd.notSynchronized
  have hD := hD0.self (sz := s.heap.size)
  obtain ⟨A, hAe⟩ : ∃ A, A = va_A [(m0, .inr (4, [.ref n0, .ref n1, .ref n2, .int (nI cd), .int (nI dt), .ref e0, .ref e1, .int (nI rt), .ref e2, .ref e3, .ref e4, .int (nI sz9), .int (nI at9), .int (nI fl), .int pl, .int (nI wr), .ref e5])), (e1, .inl (cI, 16, .inl (aP g)))] s.heap.size := ⟨_, rfl⟩
  have hA : ∀ q : Nat, s.heap.size ≤ q → A q := fun q h => by rw [hAe]; exact Or.inr h
  rw [← hAe] at hG hD
  have hS : va_S A s.heap s.heap [] := va_S.rf
  have hl := lv_entry ([.ref m0]) (n := 3) (Nat.le_of_ble_eq_true rfl)
  rw [lg_entry_eq]
  generalize (lg_sl ([.ref m0]) ++ List.replicate (3 - (lg_sl ([.ref m0])).length) Slot.unset).toArray = ls at hl ⊢
  have hl : lv_has ls 3 [(0, .ref m0)] := hl
  refine zq_name (fun Q hQ => ?_)
  change W p l e rm_c_Mfields s m _ below meth c _ _ _ _ Q _
  refine lv_aload_n hx hb dM_fields_0 rfl (lv_at hl 0 rfl) ?_
  refine lv_iconst (v := nI 0) hx hb dM_fields_1 (by decide) ?_
  refine va_put (D := (dC, dI)) (ci := 4) (v := .int (nI 0)) (ty := .int) (C := RM) (T := TM) (N := 17) hx hb hw inM tyM tyM_ok nmM hown hK hP hD hS 0 rfl rfl 3 (by decide) (hw _ w_fl_M_45) (fun _ h9 => h9) rfl (by decide +kernel) rfl rfl (Nat.le_of_ble_eq_true rfl) dM_fields_2 (fun H locs hP hD hS => ?_)
  have hP : va_P (dC, dI) vwCl [(m0, .inr (4, [.ref n0, .ref n1, .ref n2, .int (nI 0), .int (nI dt), .ref e0, .ref e1, .int (nI rt), .ref e2, .ref e3, .ref e4, .int (nI sz9), .int (nI at9), .int (nI fl), .int pl, .int (nI wr), .ref e5])), (e1, .inl (cI, 16, .inl (aP g)))] H := hP
  have hD : va_D A [(m0, .inr (4, [.ref n0, .ref n1, .ref n2, .int (nI 0), .int (nI dt), .ref e0, .ref e1, .int (nI rt), .ref e2, .ref e3, .ref e4, .int (nI sz9), .int (nI at9), .int (nI fl), .int pl, .int (nI wr), .ref e5])), (e1, .inl (cI, 16, .inl (aP g)))] := hD
  refine lv_iconst (v := nI 0) hx hb dM_fields_5 (by decide) ?_
  refine lv_istore_n (lv' := [(1, .int (nI 0)), (0, .ref m0)]) hx hb dM_fields_6 rfl hl (by decide) rfl (fun ls hl => ?_)
  refine lv_iconst (v := nI 0) hx hb dM_fields_7 (by decide) ?_
  refine lv_istore_n (lv' := [(2, .int (nI 0)), (1, .int (nI 0)), (0, .ref m0)]) hx hb dM_fields_8 rfl hl (by decide) rfl (fun ls hl => ?_)
  have lp_9 : ∀ (fu : Nat) (k : Nat) (nn : Nat) (hk : k ≤ 16) (hn : nn = gc g k) (hms : 16 - k < fu) (H : Heap) (locs : List Loc) (ls : Array Slot), lv_has ls 3 [(0, .ref m0), (1, .int (nI nn)), (2, .int (nI k))] → va_P (dC, dI) vwCl [(m0, .inr (4, [.ref n0, .ref n1, .ref n2, .int (nI 0), .int (nI dt), .ref e0, .ref e1, .int (nI rt), .ref e2, .ref e3, .ref e4, .int (nI sz9), .int (nI at9), .int (nI fl), .int pl, .int (nI wr), .ref e5])), (e1, .inl (cI, 16, .inl (aP g)))] H → va_D A [(m0, .inr (4, [.ref n0, .ref n1, .ref n2, .int (nI 0), .int (nI dt), .ref e0, .ref e1, .int (nI rt), .ref e2, .ref e3, .ref e4, .int (nI sz9), .int (nI at9), .int (nI fl), .int pl, .int (nI wr), .ref e5])), (e1, .inl (cI, 16, .inl (aP g)))] → va_S A s.heap H locs → W p l e rm_c_Mfields s m ([.ref m0] : List Value).toArray below meth c H locs 0 0 Q (F0 m 9 ls []) := by
    intro fu
    induction fu with
    | zero => intro k nn hk hn hms; exact absurd hms (Nat.not_lt_zero _)
    | succ fu ih9 =>
      intro k nn hk hn hms H locs ls hl hP hD hS
      refine lv_iload_n hx hb dM_fields_9 rfl (lv_at hl 2 rfl) ?_
      refine lv_bipush (v := nI 16) hx hb dM_fields_10 (by decide) ?_
      refine zi_ge (tgt := 38) hx hb (by omega) (by omega) dM_fields_12 (by decide) (fun c_12 => ?_) (fun c_12 => ?_)
      · refine lv_iload_n hx hb dM_fields_38 rfl (lv_at hl 1 rfl) ?_
        subst hAe
        subst hQ
        exact W.iret (v := nI nn) hx hb hr (fun t ht hW => ⟨⟨nI nn, (), rfl, (by rw [hn, show k = 16 by omega]), by rw [ht]; exact hP.sub [0, 1] rfl, hD.sub [0, 1] (by decide) rfl⟩, hS.F ht⟩) hS.2.2 dM_fields_39
      · have hgk := hg k (by omega)
        refine lv_iload_n hx hb dM_fields_15 rfl (lv_at hl 1 rfl) ?_
        refine lv_aload_n hx hb dM_fields_16 rfl (lv_at hl 0 rfl) ?_
        refine va_get (D := (dC, dI)) (ci := 4) (v := .ref e1) (C := RM) (T := TM) (N := 17) hx hb hw inM hown hK hP 0 rfl rfl 6 (by decide) (hw _ w_fl_M_26) (fun _ h9 => h9) rfl dM_fields_17 ?_
        refine lv_iload_n hx hb dM_fields_20 rfl (lv_at hl 2 rfl) ?_
        refine za_pld hx hb hK hP 1 0 rfl rfl (by omega) (by decide) dM_fields_21 ?_
        refine zp_lt0 (tgt := 29) hx hb (by omega) dM_fields_22 (by decide) (fun c_22 => ?_) (fun c_22 => ?_)
        · refine lv_iconst (v := nI 0) hx hb dM_fields_29 (by decide) ?_
          refine zi_v (b := nI (hz (g k))) (by unfold hz; rw [if_pos c_22]) ?_
          refine zi_add hx hb dM_fields_30 ?_
          refine lv_istore_n (lv' := [(1, .int (nI (nn + (hz (g k))))), (0, .ref m0), (2, .int (nI k))]) hx hb dM_fields_31 rfl hl (by decide) rfl (fun ls hl => ?_)
          refine lv_iinc (v := nI (k + 1)) (lv' := [(2, .int (nI (k + 1))), (1, .int (nI (nn + (hz (g k))))), (0, .ref m0)]) hx hb dM_fields_32 hl (k := 2) rfl (zi_incr k 1) (by decide) rfl (fun ls hl => ?_)
          refine lv_goto (tgt := 9) hx hb dM_fields_35 (by decide) ?_
          exact ih9 (k + 1) (nn + (hz (g k))) (by omega) (by rw [hn]; rfl) (by omega) _ _ _ (lv_sub hl [2, 1, 0] rfl) (hP.sub [0, 1] rfl) (hD.sub [0, 1] (by decide) rfl) hS
        · refine lv_iconst (v := nI 1) hx hb dM_fields_25 (by decide) ?_
          refine lv_goto (tgt := 30) hx hb dM_fields_26 (by decide) ?_
          refine zi_v (b := nI (hz (g k))) (by unfold hz; rw [if_neg (by omega)]) ?_
          refine zi_add hx hb dM_fields_30 ?_
          refine lv_istore_n (lv' := [(1, .int (nI (nn + (hz (g k))))), (0, .ref m0), (2, .int (nI k))]) hx hb dM_fields_31 rfl hl (by decide) rfl (fun ls hl => ?_)
          refine lv_iinc (v := nI (k + 1)) (lv' := [(2, .int (nI (k + 1))), (1, .int (nI (nn + (hz (g k))))), (0, .ref m0)]) hx hb dM_fields_32 hl (k := 2) rfl (zi_incr k 1) (by decide) rfl (fun ls hl => ?_)
          refine lv_goto (tgt := 9) hx hb dM_fields_35 (by decide) ?_
          exact ih9 (k + 1) (nn + (hz (g k))) (by omega) (by rw [hn]; rfl) (by omega) _ _ _ (lv_sub hl [2, 1, 0] rfl) (hP.sub [0, 1] rfl) (hD.sub [0, 1] (by decide) rfl) hS
  exact lp_9 ((16 - 0) + 1) 0 0 (by omega) rfl (Nat.lt_succ_self _) _ _ _ (lv_sub hl [2, 1, 0] rfl) (hP.sub [0, 1] rfl) (hD.sub [0, 1] (by decide) rfl) hS
