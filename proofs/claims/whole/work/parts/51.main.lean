/-! THE CLAIM OUT OF ONE WALK OF THE LAW'S BODY. Your part is whole_start (and what it stands on); all else here is the same for every law, but numbers. -/
def R_law : String := "CardMessagesLaw"
def lw_P (b : Addr) (xs : List Int32) (args : Array Value) (s : State) : Prop := args = #[.ref b] ∧ s.IntsAt b xs ∧ xs.length ≤ 2560 ∧ (Jvm.Cond.and given_1 narrow_1).before args s = true
def lw_Q (_ : Array Value) (s : State) (o : Outcome) (t : State) : Prop := o = .returned (some (.int 1)) ∧ Framed s o t [] 1057 10975
def lw_Z (below : List Frame) (a : Array Value) (s : State) : State → Prop := fun t => ∃ o, t.status = .running ∧ Ended t below o ∧ lw_Q a s o t
/-- the law's own end, with 1 on the stack, nothing written that was there before, its room as the claim has it -/
theorem lw_ret {p : Program} {l : Launch} {e : Env} {s : State} {m : MethodId} {below : List Frame} {meth : Method} {c : Code} {b : Nat} (hx : p.tables.exec = Jvm.exec) (hb : c.code = code) (hr : meth.sig.returnType = ret) (hlocks : meth.locks = false) {pc : Nat} {H : Heap} {ls : Array Slot} (hdg : decode code pc = .ok (.ireturn, 1)) : W p l e room_1 s m #[Value.ref b] below meth c H [] 1057 10975 (lw_Z below #[Value.ref b] s) (F0 m pc ls [.int 1]) := by
  intro T hT X
  obtain ⟨fs, hret, hrun, hended, hW, hframe⟩ := X.leave (v := some (.int 1)) (hlocks := hlocks) (fun h => by rw [hr] at h; cases h)
  have hmeth' : T.vm.method? m = some meth := X.method'
  refine ⟨T.setFrames fs, ?_, .returned (some (.int 1)), hrun, hended, rfl, ⟨_, rfl⟩, hW, hframe⟩
  jvm_step X.here [X.here.top, hx, hb, hdg, hmeth', hr, ret, narrow_b1]
  (try refine ⟨rfl, ?_⟩); (try refine ⟨rfl, ?_⟩)
  first | (intro acts; rw [hret _ acts rfl rfl rfl]) | rw [hret _ _ rfl rfl rfl]
  exact Steps.refl _
/-- what holds at the law's entry: the machine, the code, the tables' words (any of lw_tbl by 'hts w (by decide +kernel)'), the script of L ints xs at the cell b, what the Statement gives of the start (any of its parts by flat_of_before) -/
def lw_At (p : Program) (s : State) (m : MethodId) (meth : Method) (c : Code) (b L : Nat) (xs : Nat → Int32) : Prop :=
  p.tables.exec = Jvm.exec ∧ c.code = code ∧ meth.sig.returnType = ret ∧ c.maxLocals = 8 ∧ s.vm.findClass R_law = some m.cls ∧ (∀ w ∈ lw_tbl, w.before #[Value.ref b] s = true) ∧ va_X b L xs s s.heap ∧ b < s.heap.size ∧ meth.locks = false ∧ (Jvm.Cond.and given_1 narrow_1).before #[Value.ref b] s = true
theorem lw_more {L k : Nat} (hL : L ≤ 2560) (hk : k ≤ 512) (q : ¬ nI L - nI 5 < nI (5 * k)) : 5 * k + 5 ≤ L := by
  apply Decidable.byContradiction
  intro z
  apply q
  rw [Int32.lt_iff_toInt_lt, pk_sub_toInt (by omega) (by decide), nI_toInt (by omega)]
  omega
set_option maxHeartbeats 4000000 in
set_option maxRecDepth 100000 in
theorem lw_loop {p : Program} {l : Launch} {e : Env} {s : State} {m : MethodId} {below : List Frame} {meth : Method} {c : Code} {b L : Nat} {xs : Nat → Int32} {A : Nat → Prop} {dC : Nat → ClassId} {dI : Nat → Nat → Nat} {cI cB cL : ClassId} {x0 h0 h1 h2 t0 t1 r0 f0 f1 f2 m0 n0 n1 n2 e0 e1 e2 e3 e4 e5 lo : Nat} (hL : L ≤ 2560) (hr : meth.sig.returnType = ret) (hlocks : meth.locks = false) (hAz : ∀ q, A q → s.heap.size ≤ q) (C : LC p l s m c b L xs A dC dI cI cB cL) : ∀ fu it, it ≤ 512 → 513 - it ≤ fu → LJ p l e s m below meth c b A (lw_Z below #[Value.ref b] s) dC dI cI cB cL x0 h0 h1 h2 t0 t1 r0 f0 f1 f2 m0 n0 n1 n2 e0 e1 e2 e3 e4 e5 lo it (21 + it) (2711 + 6 * it) 23 := by
  intro fu
  induction fu with
  | zero => intro it hi1 hi2; omega
  | succ fu ih =>
    intro it hi1 hi2
    obtain ⟨hx, hb, hml, hown, hw, hG, hK, hA, hX, hbl, hbA, hfl⟩ := id C
    intro ty cnt mk len tp fk fp nx lnb gty gcnt gmk cd rt at9 fl pl wr g dr rd rs fw fo hM hm H locs ls hl hP hD hS
    refine lv_iload hx hb dL_law_23 (lv_at hl 0 rfl) ?_
    refine lv_aload_n hx hb dL_law_25 rfl (lv_at hl 1 rfl) ?_
    refine va_slen hx hb hX hbl hbA hS dL_law_26 ?_
    refine lv_iconst (v := nI 5) hx hb dL_law_27 (by decide) ?_
    refine lv_isub hx hb dL_law_28 ?_
    refine lv_icmp_gt (tgt := 920) hx hb dL_law_29 (by decide) (fun q => ?_) (fun q => ?_)
    · refine lv_iconst (v := 1) hx hb dL_law_920 (by decide) ?_
      refine va_forget (fun q9 h9 => hAz _ (hS.2.2 q9 h9)) ?_
      refine W.widen (k := 1057) (n := 10975) (by omega) (by omega) ?_
      exact lw_ret hx hb hr hlocks dL_law_921
    · have hit : 5 * it + 5 ≤ L := lw_more hL hi1 q
      have kk : LJ p l e s m below meth c b A (lw_Z below #[Value.ref b] s) dC dI cI cB cL x0 h0 h1 h2 t0 t1 r0 f0 f1 f2 m0 n0 n1 n2 e0 e1 e2 e3 e4 e5 lo it (21 + (it + 1)) (2711 + 6 * (it + 1)) 914 := by
        intro ty cnt mk len tp fk fp nx lnb gty gcnt gmk cd rt at9 fl pl wr g dr rd rs fw fo hM hm H locs ls hl hP hD hS
        refine lv_iinc (v := nI (5 * (it + 1))) (lv' := [(4, .int (nI (5 * (it + 1)))), (0, .ref b), (1, .ref x0), (2, .ref m0), (3, .ref lo)]) hx hb dL_law_914 hl (k := 0) rfl (zi_incr (5 * it) 5) (by decide) rfl (fun ls hl => ?_)
        refine lv_goto (tgt := 23) hx hb dL_law_917 (by decide) ?_
        exact ih (it + 1) (by omega) (by omega) ty cnt mk len tp fk fp nx lnb gty gcnt gmk cd rt at9 fl pl wr g dr rd rs fw fo hM hm H locs ls hl hP hD hS
      refine lv_aload_n hx hb dL_law_32 rfl (lv_at hl 1 rfl) ?_
      refine lv_iload hx hb dL_law_33 (lv_at hl 0 rfl) ?_
      refine zs_ld hx hb hX hbl hbA hS (by omega) (by omega) dL_law_35 ?_
      refine lv_bipush (v := nI 15) hx hb dL_law_36 (by decide) ?_
      refine lv_iand hx hb dL_law_38 ?_
      obtain ⟨j, hj, hv⟩ := pk_andE (xs (5 * it)) (m := nI 15) 4 (by decide)
      refine zi_v (b := nI j) hv ?_
      have hj : j < 16 := hj
      rcases (show j = 0 ∨ j = 1 ∨ j = 2 ∨ j = 3 ∨ j = 4 ∨ j = 5 ∨ j = 6 ∨ j = 7 ∨ j = 8 ∨ j = 9 ∨ j = 10 ∨ j = 11 ∨ j = 12 ∨ j = 13 ∨ j = 14 ∨ j = 15 by omega) with rfl | rfl | rfl | rfl | rfl | rfl | rfl | rfl | rfl | rfl | rfl | rfl | rfl | rfl | rfl | rfl
      · refine lv_tableIn (tgt := 116) (off := 77) hx hb dL_law_39 (by decide) (by decide) rfl (by decide) ?_
        exact lc_0 hL hit C kk ty cnt mk len tp fk fp nx lnb gty gcnt gmk cd rt at9 fl pl wr g dr rd rs fw fo hM hm H locs ls hl hP hD hS
      · refine lv_tableIn (tgt := 152) (off := 113) hx hb dL_law_39 (by decide) (by decide) rfl (by decide) ?_
        exact lc_1 hL hit C kk ty cnt mk len tp fk fp nx lnb gty gcnt gmk cd rt at9 fl pl wr g dr rd rs fw fo hM hm H locs ls hl hP hD hS
      · refine lv_tableIn (tgt := 232) (off := 193) hx hb dL_law_39 (by decide) (by decide) rfl (by decide) ?_
        exact lc_2 hL hit C kk ty cnt mk len tp fk fp nx lnb gty gcnt gmk cd rt at9 fl pl wr g dr rd rs fw fo hM hm H locs ls hl hP hD hS
      · refine lv_tableIn (tgt := 324) (off := 285) hx hb dL_law_39 (by decide) (by decide) rfl (by decide) ?_
        exact lc_3 hL hit C kk ty cnt mk len tp fk fp nx lnb gty gcnt gmk cd rt at9 fl pl wr g dr rd rs fw fo hM hm H locs ls hl hP hD hS
      · refine lv_tableIn (tgt := 384) (off := 345) hx hb dL_law_39 (by decide) (by decide) rfl (by decide) ?_
        exact lc_4 hL hit C kk ty cnt mk len tp fk fp nx lnb gty gcnt gmk cd rt at9 fl pl wr g dr rd rs fw fo hM hm H locs ls hl hP hD hS
      · refine lv_tableIn (tgt := 447) (off := 408) hx hb dL_law_39 (by decide) (by decide) rfl (by decide) ?_
        exact lc_5 hL hit C kk ty cnt mk len tp fk fp nx lnb gty gcnt gmk cd rt at9 fl pl wr g dr rd rs fw fo hM hm H locs ls hl hP hD hS
      · refine lv_tableIn (tgt := 460) (off := 421) hx hb dL_law_39 (by decide) (by decide) rfl (by decide) ?_
        exact lc_6 hL hit C kk ty cnt mk len tp fk fp nx lnb gty gcnt gmk cd rt at9 fl pl wr g dr rd rs fw fo hM hm H locs ls hl hP hD hS
      · refine lv_tableIn (tgt := 516) (off := 477) hx hb dL_law_39 (by decide) (by decide) rfl (by decide) ?_
        exact lc_7 hL hit C kk ty cnt mk len tp fk fp nx lnb gty gcnt gmk cd rt at9 fl pl wr g dr rd rs fw fo hM hm H locs ls hl hP hD hS
      · refine lv_tableIn (tgt := 584) (off := 545) hx hb dL_law_39 (by decide) (by decide) rfl (by decide) ?_
        exact lc_8 hL hit C kk ty cnt mk len tp fk fp nx lnb gty gcnt gmk cd rt at9 fl pl wr g dr rd rs fw fo hM hm H locs ls hl hP hD hS
      · refine lv_tableIn (tgt := 639) (off := 600) hx hb dL_law_39 (by decide) (by decide) rfl (by decide) ?_
        exact lc_9 hL hit C kk ty cnt mk len tp fk fp nx lnb gty gcnt gmk cd rt at9 fl pl wr g dr rd rs fw fo hM hm H locs ls hl hP hD hS
      · refine lv_tableIn (tgt := 652) (off := 613) hx hb dL_law_39 (by decide) (by decide) rfl (by decide) ?_
        exact lc_10 hL hit C kk ty cnt mk len tp fk fp nx lnb gty gcnt gmk cd rt at9 fl pl wr g dr rd rs fw fo hM hm H locs ls hl hP hD hS
      · refine lv_tableIn (tgt := 665) (off := 626) hx hb dL_law_39 (by decide) (by decide) rfl (by decide) ?_
        exact lc_11 hL hit C kk ty cnt mk len tp fk fp nx lnb gty gcnt gmk cd rt at9 fl pl wr g dr rd rs fw fo hM hm H locs ls hl hP hD hS
      · refine lv_tableIn (tgt := 721) (off := 682) hx hb dL_law_39 (by decide) (by decide) rfl (by decide) ?_
        exact lc_12 hL hit C kk ty cnt mk len tp fk fp nx lnb gty gcnt gmk cd rt at9 fl pl wr g dr rd rs fw fo hM hm H locs ls hl hP hD hS
      · refine lv_tableIn (tgt := 777) (off := 738) hx hb dL_law_39 (by decide) (by decide) rfl (by decide) ?_
        exact lc_13 hL hit C kk ty cnt mk len tp fk fp nx lnb gty gcnt gmk cd rt at9 fl pl wr g dr rd rs fw fo hM hm H locs ls hl hP hD hS
      · refine lv_tableIn (tgt := 845) (off := 806) hx hb dL_law_39 (by decide) (by decide) rfl (by decide) ?_
        exact lc_14 hL hit C kk ty cnt mk len tp fk fp nx lnb gty gcnt gmk cd rt at9 fl pl wr g dr rd rs fw fo hM hm H locs ls hl hP hD hS
      · refine lv_tableIn (tgt := 901) (off := 862) hx hb dL_law_39 (by decide) (by decide) rfl (by decide) ?_
        exact lc_15 hL hit C kk ty cnt mk len tp fk fp nx lnb gty gcnt gmk cd rt at9 fl pl wr g dr rd rs fw fo hM hm H locs ls hl hP hD hS
set_option maxHeartbeats 4000000 in
set_option maxRecDepth 100000 in
theorem whole_start {p : Program} {e : Env} {s : State} {m : MethodId} {below : List Frame} {meth : Method} {c : Code} (l : Launch) (hfl : l.flags = pinnedFlags ++ [noTraceFlag]) {b L : Nat} {xs : Nat → Int32} (hL : L ≤ 2560) (C0 : lw_At p s m meth c b L xs) : W p l e room_1 s m #[Value.ref b] below meth c s.heap [] 0 0 (lw_Z below #[Value.ref b] s) (entryFrame m ([Value.ref b] : List Value).toArray 8) := by
  obtain ⟨hx, hb, hr, hml, hown, hts, hX, hbl, hlocks, hgv⟩ := C0
  have hown : s.vm.findClass RL = some m.cls := hown
  have hw := big_hts hts
  obtain ⟨A, hAe⟩ : ∃ A, A = zNew s.heap.size := ⟨_, rfl⟩
  have hA : ∀ q : Nat, s.heap.size ≤ q → A q := fun q h => by rw [hAe]; exact h
  have hAz : ∀ q : Nat, A q → s.heap.size ≤ q := fun q h => by rw [hAe] at h; exact h
  have hbA : ¬ A b := fun h => absurd (hAz b h) (Nat.not_le.mpr hbl)
  have hG : gS A s := gs_of hts hw (flat_of_before _ hgv) (fun a h z => absurd (hAz a z) (Nat.not_le.mpr h))
  obtain ⟨dC, dI, cI, cB, cL, hK⟩ := lw_K hw
  have hS : va_S A s.heap s.heap [] := va_S.rf
  have hP : va_P (dC, dI) vwCl [] s.heap := fun k q h => by simp at h
  have hD : va_D A [] := ⟨fun i j p q h => by simp at h, fun k q h => by simp at h⟩
  have hl := lv_entry ([.ref b]) (n := 8) (Nat.le_of_ble_eq_true rfl)
  rw [lg_entry_eq]
  generalize (lg_sl ([.ref b]) ++ List.replicate (8 - (lg_sl ([.ref b])).length) Slot.unset).toArray = ls at hl ⊢
  have hl : lv_has ls 8 [(0, .ref b)] := hl
  have hb : c.code = cL_law := hb
  refine va_new (ci := 3) (fs := [.null, .null, .null]) (C := RC) (T := TC) (N := 3) hx hb hw inC tyC tyC_ok hown (hw _ w_cl_L_8) (hw _ w_is_C) (hw _ w_in_C) hK hP hD hS hA rfl (fun j hj => by rcases (show j = 0 ∨ j = 1 ∨ j = 2 by omega) with rfl | rfl | rfl <;> rfl) (Nat.le_of_ble_eq_true rfl) (Nat.le_of_ble_eq_true rfl) dL_law_0 (fun q0 H hP hD hS => ?_)
  have hP : va_P (dC, dI) vwCl [(q0, .inr (3, [.null, .null, .null]))] H := hP
  have hD : va_D A [(q0, .inr (3, [.null, .null, .null]))] := hD
  refine lv_dup hx hb dL_law_3 rfl ?_
  have hPc := hP.sub (ws' := [(q0, .inr (3, [.null, .null, .null]))]) [0] rfl
  have hDc := hD.sub (ws' := [(q0, .inr (3, [.null, .null, .null]))]) [0] (by decide) rfl
  have hFc := va_free (wc := [(q0, .inr (3, [.null, .null, .null]))]) hD hS hA [0] rfl
  refine zc_Sv (va_runI (As := []) (rest := [.ref q0]) ⟨hx, hb, hml, hown, hw⟩ (c_Cinit l dC dI cI cB q0 H.size) (cwI 0 hw (gC w_co_C_init) rfl rfl rfl (hw _ w_in_C) (hw _ w_ml_L_57) (hw _ w_im_C_init) rfl (by decide +kernel) ⟨Nat.le_of_ble_eq_true rfl, Nat.le_of_ble_eq_true rfl⟩) (zM_S hG hS hFc hPc hDc (hK.sub (tys' := [(cI, .int), (cB, .byte)]) [0, 1] rfl)) rfl rfl hl.1 rfl (lv_room (Nat.le_of_ble_eq_true rfl)) dL_law_4 ⟨by show _ ≤ 1057; omega, by show _ ≤ 10975; omega⟩) hS hFc (fun u_4 H locs h_4 hP1 hD1 hk1 hS => ?_)
  obtain ⟨h0_4, h1_4, h2_4, t0_4, t1_4, r0_4, f0_4, f1_4, f2_4⟩ := u_4
  obtain ⟨hP, hD⟩ := va_join (wr := []) (w1 := [(q0, .inr (3, [.ref h0_4, .ref t0_4, .ref r0_4])), (h0_4, .inr (0, [.int (nI 800), .ref h1_4, .ref h2_4])), (h1_4, .inl (cI, 16, .inl (aN (fun _ => 0)))), (h2_4, .inl (cB, 208, .inl (aN (fun _ => 0)))), (t0_4, .inr (2, [.ref t1_4, .int (nI 0)])), (t1_4, .inl (cB, 400, .inl (aB (fun _ => 0)))), (r0_4, .inr (1, [.ref f0_4, .int (nI 0), .int (-1), .ref t0_4, .int (nI 0), .int (nI 0)])), (f0_4, .inr (0, [.int (nI 800), .ref f1_4, .ref f2_4])), (f1_4, .inl (cI, 16, .inl (aN (fun _ => 0)))), (f2_4, .inl (cB, 208, .inl (aN (fun _ => 0))))]) hP hD [0] [] rfl rfl (by decide) (by decide) hk1 hFc hP1 hD1
  have hP : va_P (dC, dI) vwCl [(q0, .inr (3, [.ref h0_4, .ref t0_4, .ref r0_4])), (h0_4, .inr (0, [.int (nI 800), .ref h1_4, .ref h2_4])), (h1_4, .inl (cI, 16, .inl (aN (fun _ => 0)))), (h2_4, .inl (cB, 208, .inl (aN (fun _ => 0)))), (t0_4, .inr (2, [.ref t1_4, .int (nI 0)])), (t1_4, .inl (cB, 400, .inl (aB (fun _ => 0)))), (r0_4, .inr (1, [.ref f0_4, .int (nI 0), .int (-1), .ref t0_4, .int (nI 0), .int (nI 0)])), (f0_4, .inr (0, [.int (nI 800), .ref f1_4, .ref f2_4])), (f1_4, .inl (cI, 16, .inl (aN (fun _ => 0)))), (f2_4, .inl (cB, 208, .inl (aN (fun _ => 0))))] H := hP
  have hD : va_D A [(q0, .inr (3, [.ref h0_4, .ref t0_4, .ref r0_4])), (h0_4, .inr (0, [.int (nI 800), .ref h1_4, .ref h2_4])), (h1_4, .inl (cI, 16, .inl (aN (fun _ => 0)))), (h2_4, .inl (cB, 208, .inl (aN (fun _ => 0)))), (t0_4, .inr (2, [.ref t1_4, .int (nI 0)])), (t1_4, .inl (cB, 400, .inl (aB (fun _ => 0)))), (r0_4, .inr (1, [.ref f0_4, .int (nI 0), .int (-1), .ref t0_4, .int (nI 0), .int (nI 0)])), (f0_4, .inr (0, [.int (nI 800), .ref f1_4, .ref f2_4])), (f1_4, .inl (cI, 16, .inl (aN (fun _ => 0)))), (f2_4, .inl (cB, 208, .inl (aN (fun _ => 0))))] := hD
  refine lv_astore_n (lv' := [(1, .ref q0), (0, .ref b)]) hx hb dL_law_7 rfl hl (by decide) rfl (fun ls hl => ?_)
  refine va_new (ci := 4) (fs := [.null, .null, .null, .int (nI 0), .int (nI 0), .null, .null, .int (nI 0), .null, .null, .null, .int (nI 0), .int (nI 0), .int (nI 0), .int (nI 0), .int (nI 0), .null]) (C := RM) (T := TM) (N := 17) hx hb hw inM tyM tyM_ok hown (hw _ w_cl_L_58) (hw _ w_is_M) (hw _ w_in_M) hK hP hD hS hA rfl (fun j hj => by rcases (show j = 0 ∨ j = 1 ∨ j = 2 ∨ j = 3 ∨ j = 4 ∨ j = 5 ∨ j = 6 ∨ j = 7 ∨ j = 8 ∨ j = 9 ∨ j = 10 ∨ j = 11 ∨ j = 12 ∨ j = 13 ∨ j = 14 ∨ j = 15 ∨ j = 16 by omega) with rfl | rfl | rfl | rfl | rfl | rfl | rfl | rfl | rfl | rfl | rfl | rfl | rfl | rfl | rfl | rfl | rfl <;> rfl) (Nat.le_of_ble_eq_true rfl) (Nat.le_of_ble_eq_true rfl) dL_law_8 (fun q8 H hP hD hS => ?_)
  have hP : va_P (dC, dI) vwCl [(q0, .inr (3, [.ref h0_4, .ref t0_4, .ref r0_4])), (h0_4, .inr (0, [.int (nI 800), .ref h1_4, .ref h2_4])), (h1_4, .inl (cI, 16, .inl (aN (fun _ => 0)))), (h2_4, .inl (cB, 208, .inl (aN (fun _ => 0)))), (t0_4, .inr (2, [.ref t1_4, .int (nI 0)])), (t1_4, .inl (cB, 400, .inl (aB (fun _ => 0)))), (r0_4, .inr (1, [.ref f0_4, .int (nI 0), .int (-1), .ref t0_4, .int (nI 0), .int (nI 0)])), (f0_4, .inr (0, [.int (nI 800), .ref f1_4, .ref f2_4])), (f1_4, .inl (cI, 16, .inl (aN (fun _ => 0)))), (f2_4, .inl (cB, 208, .inl (aN (fun _ => 0)))), (q8, .inr (4, [.null, .null, .null, .int (nI 0), .int (nI 0), .null, .null, .int (nI 0), .null, .null, .null, .int (nI 0), .int (nI 0), .int (nI 0), .int (nI 0), .int (nI 0), .null]))] H := hP
  have hD : va_D A [(q0, .inr (3, [.ref h0_4, .ref t0_4, .ref r0_4])), (h0_4, .inr (0, [.int (nI 800), .ref h1_4, .ref h2_4])), (h1_4, .inl (cI, 16, .inl (aN (fun _ => 0)))), (h2_4, .inl (cB, 208, .inl (aN (fun _ => 0)))), (t0_4, .inr (2, [.ref t1_4, .int (nI 0)])), (t1_4, .inl (cB, 400, .inl (aB (fun _ => 0)))), (r0_4, .inr (1, [.ref f0_4, .int (nI 0), .int (-1), .ref t0_4, .int (nI 0), .int (nI 0)])), (f0_4, .inr (0, [.int (nI 800), .ref f1_4, .ref f2_4])), (f1_4, .inl (cI, 16, .inl (aN (fun _ => 0)))), (f2_4, .inl (cB, 208, .inl (aN (fun _ => 0)))), (q8, .inr (4, [.null, .null, .null, .int (nI 0), .int (nI 0), .null, .null, .int (nI 0), .null, .null, .null, .int (nI 0), .int (nI 0), .int (nI 0), .int (nI 0), .int (nI 0), .null]))] := hD
  refine lv_dup hx hb dL_law_11 rfl ?_
  have hPc := hP.sub (ws' := [(q8, .inr (4, [.null, .null, .null, .int (nI 0), .int (nI 0), .null, .null, .int (nI 0), .null, .null, .null, .int (nI 0), .int (nI 0), .int (nI 0), .int (nI 0), .int (nI 0), .null]))]) [10] rfl
  have hDc := hD.sub (ws' := [(q8, .inr (4, [.null, .null, .null, .int (nI 0), .int (nI 0), .null, .null, .int (nI 0), .null, .null, .null, .int (nI 0), .int (nI 0), .int (nI 0), .int (nI 0), .int (nI 0), .null]))]) [10] (by decide) rfl
  have hFc := va_free (wc := [(q8, .inr (4, [.null, .null, .null, .int (nI 0), .int (nI 0), .null, .null, .int (nI 0), .null, .null, .null, .int (nI 0), .int (nI 0), .int (nI 0), .int (nI 0), .int (nI 0), .null]))]) hD hS hA [10] rfl
  refine zc_Sv (va_runI (As := []) (rest := [.ref q8]) ⟨hx, hb, hml, hown, hw⟩ (c_Minit l dC dI cI cB q8 H.size) (cwI 0 hw (gC w_co_M_init) rfl rfl rfl (hw _ w_in_M) (hw _ w_ml_L_60) (hw _ w_im_M_init) rfl (by decide +kernel) ⟨Nat.le_of_ble_eq_true rfl, Nat.le_of_ble_eq_true rfl⟩) (zM_S hG hS hFc hPc hDc (hK.sub (tys' := [(cI, .int), (cB, .byte)]) [0, 1] rfl)) rfl rfl hl.1 rfl (lv_room (Nat.le_of_ble_eq_true rfl)) dL_law_12 ⟨by show _ ≤ 1057; omega, by show _ ≤ 10975; omega⟩) hS hFc (fun u_12 H locs h_12 hP1 hD1 hk1 hS => ?_)
  obtain ⟨n0_12, n1_12, n2_12, e0_12, e1_12, e2_12, e3_12, e4_12, e5_12⟩ := u_12
  obtain ⟨hP, hD⟩ := va_join (wr := [(q0, .inr (3, [.ref h0_4, .ref t0_4, .ref r0_4])), (h0_4, .inr (0, [.int (nI 800), .ref h1_4, .ref h2_4])), (h1_4, .inl (cI, 16, .inl (aN (fun _ => 0)))), (h2_4, .inl (cB, 208, .inl (aN (fun _ => 0)))), (t0_4, .inr (2, [.ref t1_4, .int (nI 0)])), (t1_4, .inl (cB, 400, .inl (aB (fun _ => 0)))), (r0_4, .inr (1, [.ref f0_4, .int (nI 0), .int (-1), .ref t0_4, .int (nI 0), .int (nI 0)])), (f0_4, .inr (0, [.int (nI 800), .ref f1_4, .ref f2_4])), (f1_4, .inl (cI, 16, .inl (aN (fun _ => 0)))), (f2_4, .inl (cB, 208, .inl (aN (fun _ => 0))))]) (w1 := [(q8, .inr (4, [.ref n0_12, .ref n1_12, .ref n2_12, .int (nI 0), .int (nI 800), .ref e0_12, .ref e1_12, .int (nI 0), .ref e2_12, .ref e3_12, .ref e4_12, .int (nI 0), .int (nI 0), .int (nI 0), .int (nI 0), .int (nI 0), .ref e5_12])), (n0_12, .inl (cI, 16, .inl (aN fFI))), (n1_12, .inl (cI, 16, .inl (aN fMM))), (n2_12, .inl (cI, 16, .inl (aN fFO))), (e0_12, .inl (cI, 672, .inl (aN (fun _ => 0)))), (e1_12, .inl (cI, 16, .inl (aP (zc (fun _ => 1) 16)))), (e2_12, .inl (cI, 672, .inl (aN (fun _ => 0)))), (e3_12, .inl (cI, 16, .inl (aP (zc (fun _ => 1) 16)))), (e4_12, .inl (cI, 400, .inl (aN (fun _ => 0)))), (e5_12, .inl (cI, 4, .inl (aN (fun _ => 0))))]) hP hD [10] [0, 1, 2, 3, 4, 5, 6, 7, 8, 9] rfl rfl (by decide) (by decide) hk1 hFc hP1 hD1
  have hP : va_P (dC, dI) vwCl [(q0, .inr (3, [.ref h0_4, .ref t0_4, .ref r0_4])), (h0_4, .inr (0, [.int (nI 800), .ref h1_4, .ref h2_4])), (h1_4, .inl (cI, 16, .inl (aN (fun _ => 0)))), (h2_4, .inl (cB, 208, .inl (aN (fun _ => 0)))), (t0_4, .inr (2, [.ref t1_4, .int (nI 0)])), (t1_4, .inl (cB, 400, .inl (aB (fun _ => 0)))), (r0_4, .inr (1, [.ref f0_4, .int (nI 0), .int (-1), .ref t0_4, .int (nI 0), .int (nI 0)])), (f0_4, .inr (0, [.int (nI 800), .ref f1_4, .ref f2_4])), (f1_4, .inl (cI, 16, .inl (aN (fun _ => 0)))), (f2_4, .inl (cB, 208, .inl (aN (fun _ => 0)))), (q8, .inr (4, [.ref n0_12, .ref n1_12, .ref n2_12, .int (nI 0), .int (nI 800), .ref e0_12, .ref e1_12, .int (nI 0), .ref e2_12, .ref e3_12, .ref e4_12, .int (nI 0), .int (nI 0), .int (nI 0), .int (nI 0), .int (nI 0), .ref e5_12])), (n0_12, .inl (cI, 16, .inl (aN fFI))), (n1_12, .inl (cI, 16, .inl (aN fMM))), (n2_12, .inl (cI, 16, .inl (aN fFO))), (e0_12, .inl (cI, 672, .inl (aN (fun _ => 0)))), (e1_12, .inl (cI, 16, .inl (aP (zc (fun _ => 1) 16)))), (e2_12, .inl (cI, 672, .inl (aN (fun _ => 0)))), (e3_12, .inl (cI, 16, .inl (aP (zc (fun _ => 1) 16)))), (e4_12, .inl (cI, 400, .inl (aN (fun _ => 0)))), (e5_12, .inl (cI, 4, .inl (aN (fun _ => 0))))] H := hP
  have hD : va_D A [(q0, .inr (3, [.ref h0_4, .ref t0_4, .ref r0_4])), (h0_4, .inr (0, [.int (nI 800), .ref h1_4, .ref h2_4])), (h1_4, .inl (cI, 16, .inl (aN (fun _ => 0)))), (h2_4, .inl (cB, 208, .inl (aN (fun _ => 0)))), (t0_4, .inr (2, [.ref t1_4, .int (nI 0)])), (t1_4, .inl (cB, 400, .inl (aB (fun _ => 0)))), (r0_4, .inr (1, [.ref f0_4, .int (nI 0), .int (-1), .ref t0_4, .int (nI 0), .int (nI 0)])), (f0_4, .inr (0, [.int (nI 800), .ref f1_4, .ref f2_4])), (f1_4, .inl (cI, 16, .inl (aN (fun _ => 0)))), (f2_4, .inl (cB, 208, .inl (aN (fun _ => 0)))), (q8, .inr (4, [.ref n0_12, .ref n1_12, .ref n2_12, .int (nI 0), .int (nI 800), .ref e0_12, .ref e1_12, .int (nI 0), .ref e2_12, .ref e3_12, .ref e4_12, .int (nI 0), .int (nI 0), .int (nI 0), .int (nI 0), .int (nI 0), .ref e5_12])), (n0_12, .inl (cI, 16, .inl (aN fFI))), (n1_12, .inl (cI, 16, .inl (aN fMM))), (n2_12, .inl (cI, 16, .inl (aN fFO))), (e0_12, .inl (cI, 672, .inl (aN (fun _ => 0)))), (e1_12, .inl (cI, 16, .inl (aP (zc (fun _ => 1) 16)))), (e2_12, .inl (cI, 672, .inl (aN (fun _ => 0)))), (e3_12, .inl (cI, 16, .inl (aP (zc (fun _ => 1) 16)))), (e4_12, .inl (cI, 400, .inl (aN (fun _ => 0)))), (e5_12, .inl (cI, 4, .inl (aN (fun _ => 0))))] := hD
  refine lv_astore_n (lv' := [(2, .ref q8), (1, .ref q0), (0, .ref b)]) hx hb dL_law_15 rfl hl (by decide) rfl (fun ls hl => ?_)
  refine lv_iconst (v := nI 1) hx hb dL_law_16 (by decide) ?_
  refine za_newl hx hb (hw _ w_ac_long) rfl hK hP hD hS hA 2 rfl (Nat.le_of_ble_eq_true rfl) (Nat.le_of_ble_eq_true rfl) dL_law_17 (fun q17 H hP hD hS => ?_)
  have hP : va_P (dC, dI) vwCl [(q0, .inr (3, [.ref h0_4, .ref t0_4, .ref r0_4])), (h0_4, .inr (0, [.int (nI 800), .ref h1_4, .ref h2_4])), (h1_4, .inl (cI, 16, .inl (aN (fun _ => 0)))), (h2_4, .inl (cB, 208, .inl (aN (fun _ => 0)))), (t0_4, .inr (2, [.ref t1_4, .int (nI 0)])), (t1_4, .inl (cB, 400, .inl (aB (fun _ => 0)))), (r0_4, .inr (1, [.ref f0_4, .int (nI 0), .int (-1), .ref t0_4, .int (nI 0), .int (nI 0)])), (f0_4, .inr (0, [.int (nI 800), .ref f1_4, .ref f2_4])), (f1_4, .inl (cI, 16, .inl (aN (fun _ => 0)))), (f2_4, .inl (cB, 208, .inl (aN (fun _ => 0)))), (q8, .inr (4, [.ref n0_12, .ref n1_12, .ref n2_12, .int (nI 0), .int (nI 800), .ref e0_12, .ref e1_12, .int (nI 0), .ref e2_12, .ref e3_12, .ref e4_12, .int (nI 0), .int (nI 0), .int (nI 0), .int (nI 0), .int (nI 0), .ref e5_12])), (n0_12, .inl (cI, 16, .inl (aN fFI))), (n1_12, .inl (cI, 16, .inl (aN fMM))), (n2_12, .inl (cI, 16, .inl (aN fFO))), (e0_12, .inl (cI, 672, .inl (aN (fun _ => 0)))), (e1_12, .inl (cI, 16, .inl (aP (zc (fun _ => 1) 16)))), (e2_12, .inl (cI, 672, .inl (aN (fun _ => 0)))), (e3_12, .inl (cI, 16, .inl (aP (zc (fun _ => 1) 16)))), (e4_12, .inl (cI, 400, .inl (aN (fun _ => 0)))), (e5_12, .inl (cI, 4, .inl (aN (fun _ => 0)))), (q17, .inl (cL, 1, .inr (.inl (fun _ => 0))))] H := hP
  have hD : va_D A [(q0, .inr (3, [.ref h0_4, .ref t0_4, .ref r0_4])), (h0_4, .inr (0, [.int (nI 800), .ref h1_4, .ref h2_4])), (h1_4, .inl (cI, 16, .inl (aN (fun _ => 0)))), (h2_4, .inl (cB, 208, .inl (aN (fun _ => 0)))), (t0_4, .inr (2, [.ref t1_4, .int (nI 0)])), (t1_4, .inl (cB, 400, .inl (aB (fun _ => 0)))), (r0_4, .inr (1, [.ref f0_4, .int (nI 0), .int (-1), .ref t0_4, .int (nI 0), .int (nI 0)])), (f0_4, .inr (0, [.int (nI 800), .ref f1_4, .ref f2_4])), (f1_4, .inl (cI, 16, .inl (aN (fun _ => 0)))), (f2_4, .inl (cB, 208, .inl (aN (fun _ => 0)))), (q8, .inr (4, [.ref n0_12, .ref n1_12, .ref n2_12, .int (nI 0), .int (nI 800), .ref e0_12, .ref e1_12, .int (nI 0), .ref e2_12, .ref e3_12, .ref e4_12, .int (nI 0), .int (nI 0), .int (nI 0), .int (nI 0), .int (nI 0), .ref e5_12])), (n0_12, .inl (cI, 16, .inl (aN fFI))), (n1_12, .inl (cI, 16, .inl (aN fMM))), (n2_12, .inl (cI, 16, .inl (aN fFO))), (e0_12, .inl (cI, 672, .inl (aN (fun _ => 0)))), (e1_12, .inl (cI, 16, .inl (aP (zc (fun _ => 1) 16)))), (e2_12, .inl (cI, 672, .inl (aN (fun _ => 0)))), (e3_12, .inl (cI, 16, .inl (aP (zc (fun _ => 1) 16)))), (e4_12, .inl (cI, 400, .inl (aN (fun _ => 0)))), (e5_12, .inl (cI, 4, .inl (aN (fun _ => 0)))), (q17, .inl (cL, 1, .inr (.inl (fun _ => 0))))] := hD
  refine lv_astore_n (lv' := [(3, .ref q17), (2, .ref q8), (1, .ref q0), (0, .ref b)]) hx hb dL_law_19 rfl hl (by decide) rfl (fun ls hl => ?_)
  refine lv_iconst (v := nI 0) hx hb dL_law_20 (by decide) ?_
  refine lv_istore (lv' := [(4, .int (nI 0)), (3, .ref q17), (2, .ref q8), (1, .ref q0), (0, .ref b)]) hx hb dL_law_21 hl (by decide) rfl (fun ls hl => ?_)
  have hC : LC p l s m c b L xs A dC dI cI cB cL := ⟨hx, hb, hml, hown, hw, hG, hK, hA, hX, hbl, hbA, hfl⟩
  exact lw_loop hL hr hlocks hAz hC 513 0 (by decide) (by decide) 800 (fun _ => 0) (fun _ => 0) 0 (fun _ => 0) 0 (-1) 0 0 800 (fun _ => 0) (fun _ => 0) 0 0 0 0 (nI 0) 0 (zc (fun _ => 1) 16) (fun _ => 0) (fun _ => 0) (zc (fun _ => 1) 16) (fun _ => 0) (fun _ => 0) SAM.init (fun _ => show (0 : Nat) < 128 by decide) _ _ _ (lv_sub hl [0, 4, 3, 2, 1] rfl) (hP.sub [0, 1, 2, 3, 4, 5, 6, 7, 8, 9, 10, 11, 12, 13, 14, 15, 16, 17, 18, 19, 20] rfl) (hD.sub [0, 1, 2, 3, 4, 5, 6, 7, 8, 9, 10, 11, 12, 13, 14, 15, 16, 17, 18, 19, 20] (by decide) rfl) hS
set_option maxHeartbeats 4000000 in
theorem lw_walk (l : Launch) (hfl : l.flags = pinnedFlags ++ [noTraceFlag]) (b : Addr) (xs : List Int32) : MetFree l x (headSpec (Jvm.Cond.code x code maxLocals ret :: tables_1) room_1) (lw_P b xs) (fun _ _ _ _ _ => True) lw_Q := by
  refine MetFree.of_bodyS (code := code) (maxLocals := maxLocals) (ret := ret) (by decide) ?_ ?_
  · intro args s m h hn
    obtain ⟨meth, c, h1, h2, h3, h4, h5, h6, -, -⟩ := Cond.code_spec hn (atoms_spec (ws := Jvm.Cond.code x code maxLocals ret :: tables_1) h _ List.mem_cons_self)
    exact ⟨meth, c, h1, h2, h3, h4, h5, h6⟩
  · intro p e s m args below meth c s₁ B hml0 hP _
    obtain ⟨rfl, hx, hbd, hgv⟩ := hP
    obtain ⟨scr, harrAt, hlist, hof, hsmall⟩ := hx
    obtain ⟨hcb, hkn, -, -⟩ := State.arrayAt?_spec harrAt
    have hown : s.vm.findClass R_law = some m.cls := findClass_of_methodNamed B.named
    have hts0 : ∀ c ∈ (Jvm.Cond.code x code maxLocals ret :: tables_1), c.before #[Value.ref b] s = true := atoms_spec (ws := Jvm.Cond.code x code maxLocals ret :: tables_1) B.pre
    have hts : ∀ w ∈ lw_tbl, w.before #[Value.ref b] s = true := k2_hts_sels lw_privs (fun w hw => hts0 w (List.mem_cons_of_mem _ hw)) lw_privs_ok
    have hml : c.maxLocals = 8 := B.maxLocals_eq (hts0 _ List.mem_cons_self)
    have X₀ : Stand p l e room_1 s m #[Value.ref b] below meth c s₁ [] 0 0 := Stand.of_body B
    have hh0 : s₁.heap = s.heap := by rw [B.state]; rfl
    have hsz : scr.slots.size = xs.length := by rw [← Array.length_toList, hlist, List.length_map]
    have hval : ∀ j : Nat, j < xs.length → scr.slots[j]? = some (.int (xs.getD j 0)) := fun j hj => by
      rw [← Array.getElem?_toList, hlist]
      simp [hj]
    have hbl : b < s.heap.size := (Array.getElem?_eq_some_iff.mp hcb).1
    have hX : va_X b xs.length (fun j => xs.getD j 0) s s.heap := ⟨scr, hcb, hof, hkn, hsz, hval⟩
    have K : W p l e room_1 s m #[Value.ref b] below meth c s₁.heap [] 0 0 (lw_Z below #[Value.ref b] s) (entryFrame m ([Value.ref b] : List Value).toArray 8) := by
      rw [hh0]
      exact whole_start l hfl hbd ⟨B.exec, B.bytes, B.returns, hml, hown, hts, hX, hbl, B.notSynchronized, hgv⟩
    obtain ⟨t, a1, o, b1, b2, b3⟩ := K s₁ rfl X₀
    exact ⟨t, o, a1, b1, b2, b3⟩
theorem lw_pre_spec {args : Array Value} {s : State} (h : (Jvm.Cond.and given_1 narrow_1).before args s = true) (hr : rest_1_c.before args s = true) : ∃ (b : Addr) (xs : List Int32), lw_P b xs args s := by
  have hs := flat_of_before _ h
  have hq := flat_of_before _ hr
  have hc : (Cond.count 1).before args s = true := hs _ (by decide +kernel)
  have harr : (Cond.arrayOf (.arg 0) .int).before args s = true := hs _ (by decide +kernel)
  have hle : (Cond.le (.length (.arg 0)) (.int 2560)).before args s = true := hs _ (by decide +kernel)
  have hlen : (Cond.isInt (.length (.arg 0))).before args s = true := hq _ (by decide +kernel)
  have hall : (Cond.all (.arg 0) (.isInt (.elem (.arg 0) (.index 0)))).before args s = true := hq _ (by decide +kernel)
  obtain ⟨b, xs, hb, hx⟩ := State.ints_of_pre rfl harr hlen hall
  have hsm : xs.length < 2 ^ 31 := hx.choose_spec.2.2.2
  have hev : (Term.length (.arg 0)).eval args s none [] s = some (.int xs.length.toInt32) := hx.length_eval hb
  have hv := Cond.le_ints hev (show (Term.int 2560).eval args s none [] s = some (.int 2560) from rfl)
  have hd : xs.length.toInt32 ≤ 2560 := by
    simpa [Cond.before, Cond.holds, hv] using hle
  have hN : xs.length ≤ 2560 := (Int32.ofNat_le_ofNat hsm (by decide)).mp (show Int32.ofNat xs.length ≤ Int32.ofNat 2560 from hd)
  exact ⟨b, xs, Cond.one_arg hc (show args[0]? = some (.ref b) from hb), hx, hN, h⟩
theorem lw_comes (l : Launch) (hfl : l.flags = pinnedFlags ++ [noTraceFlag]) : Comes l x (Jvm.Cond.code x code maxLocals ret :: tables_1) room_1 (fun tb e args s => Calls_1 tb e args s ∧ rest_1 tb e args s ∧ Pre_1 tb e args s)
    (fun _ _ args s o t => lw_Q args s o t) := by
  intro p e ha hc hk s m args below hf hfit hheap happ hpre
  obtain ⟨b, xs, hP⟩ := lw_pre_spec hpre.2.2 hpre.2.1
  obtain ⟨k, o, h1, h2, h3, hQ⟩ := lw_walk l hfl b xs p e ha hc hk s m args below hf ((Spec.applies_iff_loose hf).mp happ).1 hP trivial
  exact ⟨k, o, h1, h2, h3, hQ⟩
theorem lw_frame {s t : State} {o : Outcome} {args : Array Value} (h : Framed s o t [] 1057 10975) :
    Framed s o t (fieldLocs frame_1_writes args s ++ arrayLocs frame_1_arrays args s ++ staticLocs frame_1_statics s) 1057 10975 := h
theorem lw_limb (L : Cond) (hL : ∀ (args : Array Value) (s t : State), L.after args s (.returned (some (.int 1))) t = true) :
    ArmFor flags0 classFile x code maxLocals ret World_1 tables_1 room_1 Calls_1 rest_1 Pre_1
      (fun tb e a s o t => postC L tb e a s o t ∧ Framed s o t (fieldLocs frame_1_writes a s ++ arrayLocs frame_1_arrays a s ++ staticLocs frame_1_statics s) 1057 10975) := by
  intro l hfl _ _ p e ha hc hk s m args below hf hfit hheap happ hpre
  obtain ⟨k, o, h1, h2, h3, rfl, hF⟩ := lw_comes l hfl p e ha hc hk s m args below hf hfit hheap happ hpre
  exact ⟨k, _, h1, h2, h3, hL args s _, lw_frame hF⟩
theorem i_vc : Claimed_1_1 ∧ Claimed_1_2 := ⟨lw_limb limb_1_1 (fun args s t => by simp [limb_1_1, Cond.after, Cond.holds, Cond.value]), lw_limb limb_1_2 (fun args s t => Cond.after_iff.mpr (by
  first | (rw [show limb_1_2 = Cond.eq .result (.int 1) from rfl, Cond.eq_ints (x := 1) (y := 1) rfl rfl]; simp; done) | (simp [limb_1_2, Cond.value, Term.eval]; done)))⟩
