/-! new arrays -/
theorem aN_0 : aN (fun _ => 0) = fun _ => 0 := rfl
theorem aB_0 : aB (fun _ => 0) = fun _ => 0 := by funext j; rfl
theorem aP_0 : aP (fun _ => 1) = fun _ => 0 := by funext j; show pm 1 = 0; decide
def zIB : FieldType → Bool
  | .int => true
  | .byte => true
  | _ => false
section ZN
variable {p : Program} {l : Launch} {e : Env} {R : Room} {s : State} {m : MethodId} {args : Array Value} {below : List Frame} {meth : Method} {c : Code} {H H0 : Heap} {locs : List Loc} {cells slots : Nat} {Q : State → Prop}
variable {cc : ByteArray} {pc : Nat} {ls : Array Slot} {rest : List Value} {D : va_G} {cl : List vw_C} {ws : va_W} {tys : List (ClassId × FieldType)} {A : Nat → Prop}
theorem za_new (hexec : p.tables.exec = Jvm.exec) (hb : c.code = cc) {atype : ArrayType} {ty : FieldType} (harr : (Cond.arrayClass ty).before args s = true) (hty : newarray.typeOf atype = ty) (hK : va_K D cl tys s) (hP : va_P D cl ws H) (hD : va_D A ws) (hS : va_S A H0 H locs) (hA : ∀ q, H0.size ≤ q → A q)
    (t0 : Nat) {cA : ClassId} {n : Nat} {f9 : Nat → Int32} (ht : tys[t0]? = some (cA, ty)) (hf : f9 = fun _ => 0) (hi : zIB ty = true) (hn0 : (nI n).toNatClampNeg = n) (hn : n < 100000) (hcells : cells + 1 ≤ R.cells) (hslots : slots + n ≤ R.slots) (hdg : decode cc pc = .ok (.newarray atype, 2))
    (kk : ∀ (q : Nat) (H1 : Heap), va_P D cl (ws ++ [(q, .inl (cA, n, .inl f9))]) H1 → va_D A (ws ++ [(q, .inl (cA, n, .inl f9))]) → va_S A H0 H1 locs →
      W p l e R s m args below meth c H1 locs (cells + 1) (slots + n) Q (F0 m (pc + 2) ls (.ref q :: rest))) : W p l e R s m args below meth c H locs cells slots Q (F0 m pc ls (.int (nI n) :: rest)) := by
  subst hf
  subst hty
  have hd : ∀ cA : ClassId, vp_cell cA (n, .inl (fun _ => (0 : Int32))) = arrV cA n (fun _ => defaultValue (newarray.typeOf atype)) := by
    intro cA
    cases atype <;> first | rfl | cases hi
  refine va_newa hexec hb harr rfl hK hP hD hS hA (a0 := (n, .inl (fun _ => 0))) hd (nI_pos (by omega)) hn0 ?_ hcells hslots hdg (fun q cA2 H1 hK1 hP1 hD1 hS1 => ?_)
  · have h1 : componentBytes (newarray.typeOf atype) ≤ 8 := by cases atype <;> decide
    exact Nat.le_trans (Nat.mul_le_mul_left n h1) (by omega)
  · have e1 := (hK1.2 tys.length (cA2, newarray.typeOf atype) (by simp)).2
    have e2 := (hK.2 t0 _ ht).2
    have e3 : cA2 = cA := by
      cases atype <;> first | exact Option.some.inj ((show _ = some cA2 from e1).symm.trans e2) | cases hi
    subst e3
    exact kk q H1 hP1 hD1 hS1
end ZN
theorem tl_out {xs : List Nat} {j : Nat} (h : xs.length ≤ j) : tl xs j = 0 := by unfold tl; simp [h]
theorem fFI_n : nup (nup (nup (nup (nup (nup (nup (nup (nup (nup (nup (nup (nup (nup (nup (nup (fun _ => 0) 0 2) 1 3) 2 4) 3 11) 4 32) 5 37) 6 38) 7 39) 8 41) 9 49) 10 54) 11 70) 12 74) 13 86) 14 90) 15 95 = fFI := by
  funext j
  rcases (show j = 0 ∨ j = 1 ∨ j = 2 ∨ j = 3 ∨ j = 4 ∨ j = 5 ∨ j = 6 ∨ j = 7 ∨ j = 8 ∨ j = 9 ∨ j = 10 ∨ j = 11 ∨ j = 12 ∨ j = 13 ∨ j = 14 ∨ j = 15 ∨ 16 ≤ j by omega) with rfl | rfl | rfl | rfl | rfl | rfl | rfl | rfl | rfl | rfl | rfl | rfl | rfl | rfl | rfl | rfl | h
  · rfl
  · rfl
  · rfl
  · rfl
  · rfl
  · rfl
  · rfl
  · rfl
  · rfl
  · rfl
  · rfl
  · rfl
  · rfl
  · rfl
  · rfl
  · rfl
  · unfold fFI; rw [tl_out h]; simp only [nup]; repeat rw [if_neg (by omega)]
theorem fMM_n : nup (nup (nup (nup (nup (nup (nup (nup (nup (nup (nup (nup (nup (nup (nup (nup (fun _ => 0) 0 19) 1 6) 2 12) 3 6) 4 11) 5 12) 6 6) 7 2) 8 8) 9 3) 10 40) 11 3) 12 10) 13 16) 14 42) 15 12 = fMM := by
  funext j
  rcases (show j = 0 ∨ j = 1 ∨ j = 2 ∨ j = 3 ∨ j = 4 ∨ j = 5 ∨ j = 6 ∨ j = 7 ∨ j = 8 ∨ j = 9 ∨ j = 10 ∨ j = 11 ∨ j = 12 ∨ j = 13 ∨ j = 14 ∨ j = 15 ∨ 16 ≤ j by omega) with rfl | rfl | rfl | rfl | rfl | rfl | rfl | rfl | rfl | rfl | rfl | rfl | rfl | rfl | rfl | rfl | h
  · rfl
  · rfl
  · rfl
  · rfl
  · rfl
  · rfl
  · rfl
  · rfl
  · rfl
  · rfl
  · rfl
  · rfl
  · rfl
  · rfl
  · rfl
  · rfl
  · unfold fMM; rw [tl_out h]; simp only [nup]; repeat rw [if_neg (by omega)]
theorem fFO_n : nup (nup (nup (nup (nup (nup (nup (nup (nup (nup (nup (nup (nup (nup (nup (nup (fun _ => 0) 0 1) 1 0) 2 0) 3 0) 4 1) 5 2) 6 2) 7 2) 8 2) 9 0) 10 3) 11 0) 12 0) 13 0) 14 0) 15 0 = fFO := by
  funext j
  rcases (show j = 0 ∨ j = 1 ∨ j = 2 ∨ j = 3 ∨ j = 4 ∨ j = 5 ∨ j = 6 ∨ j = 7 ∨ j = 8 ∨ j = 9 ∨ j = 10 ∨ j = 11 ∨ j = 12 ∨ j = 13 ∨ j = 14 ∨ j = 15 ∨ 16 ≤ j by omega) with rfl | rfl | rfl | rfl | rfl | rfl | rfl | rfl | rfl | rfl | rfl | rfl | rfl | rfl | rfl | rfl | h
  · rfl
  · rfl
  · rfl
  · rfl
  · rfl
  · rfl
  · rfl
  · rfl
  · rfl
  · rfl
  · rfl
  · rfl
  · rfl
  · rfl
  · rfl
  · rfl
  · unfold fFO; rw [tl_out h]; simp only [nup]; repeat rw [if_neg (by omega)]
