/-! longs that are naturals, compared; what the class's calls answer -/
section ZL
variable {p : Program} {l : Launch} {e : Env} {R : Room} {s : State} {m : MethodId} {args : Array Value} {below : List Frame} {meth : Method} {c : Code} {H : Heap} {locs : List Loc} {cells slots : Nat} {Q : State → Prop} {cc : ByteArray} {pc : Nat} {ls : Array Slot} {rest : List Value}
theorem zl_eq0 (hx : p.tables.exec = Jvm.exec) (hb : c.code = cc) {a b : Nat} (ha : a < 2 ^ 63) (h1 : b < 2 ^ 63) {off : Int} {tgt : Nat} (hdg : decode cc pc = .ok (.ifCond .eq off, 3)) (ht : (pc : Int) + off = (tgt : Int)) (kt : a = b → W p l e R s m args below meth c H locs cells slots Q (F0 m tgt ls rest)) (kf : a ≠ b → W p l e R s m args below meth c H locs cells slots Q (F0 m (pc + 3) ls rest)) : W p l e R s m args below meth c H locs cells slots Q (F0 m pc ls (.int (lg_cmp (lN a) (lN b)) :: rest)) :=
  lv_if_eq hx hb hdg ht (fun q => kt ((pk_lEQ ha h1).mp ((lg_cmp_eq _ _).mp q))) (fun q => kf (fun h => q ((lg_cmp_eq _ _).mpr ((pk_lEQ ha h1).mpr h))))
theorem zl_ne0 (hx : p.tables.exec = Jvm.exec) (hb : c.code = cc) {a b : Nat} (ha : a < 2 ^ 63) (h1 : b < 2 ^ 63) {off : Int} {tgt : Nat} (hdg : decode cc pc = .ok (.ifCond .ne off, 3)) (ht : (pc : Int) + off = (tgt : Int)) (kt : a ≠ b → W p l e R s m args below meth c H locs cells slots Q (F0 m tgt ls rest)) (kf : a = b → W p l e R s m args below meth c H locs cells slots Q (F0 m (pc + 3) ls rest)) : W p l e R s m args below meth c H locs cells slots Q (F0 m pc ls (.int (lg_cmp (lN a) (lN b)) :: rest)) :=
  lv_if_ne hx hb hdg ht (fun q => kt (fun h => q ((lg_cmp_eq _ _).mpr ((pk_lEQ ha h1).mpr h)))) (fun q => kf ((pk_lEQ ha h1).mp ((lg_cmp_eq _ _).mp q)))
theorem zl_lt0 (hx : p.tables.exec = Jvm.exec) (hb : c.code = cc) {a b : Nat} (ha : a < 2 ^ 63) (h1 : b < 2 ^ 63) {off : Int} {tgt : Nat} (hdg : decode cc pc = .ok (.ifCond .lt off, 3)) (ht : (pc : Int) + off = (tgt : Int)) (kt : a < b → W p l e R s m args below meth c H locs cells slots Q (F0 m tgt ls rest)) (kf : b ≤ a → W p l e R s m args below meth c H locs cells slots Q (F0 m (pc + 3) ls rest)) : W p l e R s m args below meth c H locs cells slots Q (F0 m pc ls (.int (lg_cmp (lN a) (lN b)) :: rest)) :=
  lv_if_lt hx hb hdg ht (fun q => kt ((pk_lLT ha h1).mp ((lg_cmp_lt _ _).mp q))) (fun q => kf (Nat.le_of_not_lt fun h => q ((lg_cmp_lt _ _).mpr ((pk_lLT ha h1).mpr h))))
theorem zl_ge0 (hx : p.tables.exec = Jvm.exec) (hb : c.code = cc) {a b : Nat} (ha : a < 2 ^ 63) (h1 : b < 2 ^ 63) {off : Int} {tgt : Nat} (hdg : decode cc pc = .ok (.ifCond .ge off, 3)) (ht : (pc : Int) + off = (tgt : Int)) (kt : b ≤ a → W p l e R s m args below meth c H locs cells slots Q (F0 m tgt ls rest)) (kf : a < b → W p l e R s m args below meth c H locs cells slots Q (F0 m (pc + 3) ls rest)) : W p l e R s m args below meth c H locs cells slots Q (F0 m pc ls (.int (lg_cmp (lN a) (lN b)) :: rest)) :=
  lv_if_ge hx hb hdg ht (fun q => kt ((pk_lLE h1 ha).mp ((lg_cmp_ge _ _).mp q))) (fun q => kf (Nat.lt_of_not_le fun h => q ((lg_cmp_ge _ _).mpr ((pk_lLE h1 ha).mpr h))))
theorem zl_gt0 (hx : p.tables.exec = Jvm.exec) (hb : c.code = cc) {a b : Nat} (ha : a < 2 ^ 63) (h1 : b < 2 ^ 63) {off : Int} {tgt : Nat} (hdg : decode cc pc = .ok (.ifCond .gt off, 3)) (ht : (pc : Int) + off = (tgt : Int)) (kt : b < a → W p l e R s m args below meth c H locs cells slots Q (F0 m tgt ls rest)) (kf : a ≤ b → W p l e R s m args below meth c H locs cells slots Q (F0 m (pc + 3) ls rest)) : W p l e R s m args below meth c H locs cells slots Q (F0 m pc ls (.int (lg_cmp (lN a) (lN b)) :: rest)) :=
  lv_if_gt hx hb hdg ht (fun q => kt ((pk_lLT h1 ha).mp ((lg_cmp_gt _ _).mp q))) (fun q => kf (Nat.le_of_not_lt fun h => q ((lg_cmp_gt _ _).mpr ((pk_lLT h1 ha).mpr h))))
theorem zl_le0 (hx : p.tables.exec = Jvm.exec) (hb : c.code = cc) {a b : Nat} (ha : a < 2 ^ 63) (h1 : b < 2 ^ 63) {off : Int} {tgt : Nat} (hdg : decode cc pc = .ok (.ifCond .le off, 3)) (ht : (pc : Int) + off = (tgt : Int)) (kt : a ≤ b → W p l e R s m args below meth c H locs cells slots Q (F0 m tgt ls rest)) (kf : b < a → W p l e R s m args below meth c H locs cells slots Q (F0 m (pc + 3) ls rest)) : W p l e R s m args below meth c H locs cells slots Q (F0 m pc ls (.int (lg_cmp (lN a) (lN b)) :: rest)) :=
  lv_if_le hx hb hdg ht (fun q => kt ((pk_lLE ha h1).mp ((lg_cmp_le _ _).mp q))) (fun q => kf (Nat.lt_of_not_le fun h => q ((lg_cmp_le _ _).mpr ((pk_lLE ha h1).mpr h))))
end ZL
theorem fFI_inj : ∀ j, j < 16 → ∀ k, k < 16 → fFI j = fFI k → j = k := by decide
/-- how many digits a number has, up to 19 -/
def dcF : Nat → Nat → Nat → Nat
  | 0, _, c => c
  | f + 1, r, c => if r / 10 = 0 then c else dcF f (r / 10) (c + 1)
theorem dcF_le : ∀ f r c, dcF f r c ≤ c + f
  | 0, _, _ => Nat.le_refl _
  | f + 1, r, c => by
    unfold dcF
    split
    · omega
    · have := dcF_le f (r / 10) (c + 1); omega
def dcn (n : Nat) : Nat := dcF 18 n 1
theorem dcn_le (n : Nat) : dcn n ≤ 19 := dcF_le 18 n 1
def szr (c : Nat) : Int32 := if c = 0 then -1 else nI c
def fb (x : Int32) (k : Nat) : Nat := (x >>> (nI k &&& 31)).toBitVec.toNat % 256
def lastN (cnt mk : Nat → Nat) (sl : Nat) : Nat := nm_ mk (fFM sl + (cnt sl - 18)) (cnt sl - (cnt sl - 18)) 0
def nbr (cnt mk : Nat → Nat) (sl : Nat) : Int64 := if cnt sl = 0 then -1 else lN (lastN cnt mk sl)
/-- what holds of a draft -/
def dOK (ty : Nat) (cnt mk : Nat → Nat) : Prop := ty < 10000 ∧ (∀ j, j < 16 → cnt j ≤ fMM j) ∧ (∀ j, mk j < 128) ∧ ∀ sl, sl < 16 → fHL sl = 0 → ∀ j, j < cnt sl → mk (fFM sl + j) < 10
theorem dOK.g {ty : Nat} {cnt mk : Nat → Nat} (h : dOK ty cnt mk) : ∀ sl, sl < 16 → fHL sl = 0 → ∀ j, j < cnt sl → mk (fFM sl + j) < 16 := fun sl h1 h2 j h3 => Nat.lt_trans (h.2.2.2 sl h1 h2 j h3) (by decide)
theorem dOK.c {ty : Nat} {cnt mk : Nat → Nat} (h : dOK ty cnt mk) {k : Nat} (hk : k < 16) : cnt k ≤ 42 := Nat.le_trans (h.2.1 k hk) (fMM_b k hk).2
/-- the bytes that compose lays, and how many -/
def cmpT (ty : Nat) (cnt mk tp : Nat → Nat) : Nat → Nat :=
  if s2L cnt 16 0 = true then apl (mpS 2 cnt 16 0 (nup (apl (apl tp 0 (anb ty 4)) 2 (List.replicate 16 0)) 2 ((apl (apl tp 0 (anb ty 4)) 2 (List.replicate 16 0)) 2 ^^^ 128))) 18 (flB cnt mk 16 0)
  else apl (mpS 2 cnt 16 0 (apl (apl tp 0 (anb ty 4)) 2 (List.replicate 8 0))) 10 (flB cnt mk 16 0)
def cmpN (cnt mk : Nat → Nat) : Nat := if s2L cnt 16 0 = true then 18 + (flB cnt mk 16 0).length else 10 + (flB cnt mk 16 0).length
def dct (k n : Nat) : Nat := if fCD k = 0 then fMM k else dcn n
def lct (k n : Nat) : Nat := if fCD k = 0 then fMM k else n
theorem hz_nar (n : Nat) : narrow .boolean (.int (nI (hz n))) = .int (nI (hz n)) := by unfold hz; split <;> rfl
theorem xor_lt {a b : Nat} (ha : a < 256) (hb : b < 256) : a ^^^ b < 256 := Nat.xor_lt_two_pow (n := 8) ha hb
theorem wkM_lt' {tp : Nat → Nat} (ht : ∀ j, tp j < 256) {len w : Nat} : ∀ n sl nx (m9 : Nat → Nat), wkF tp len w n sl nx = none → (∀ j, m9 j < 128) → ∀ j, wkM tp w n sl nx m9 j < 128
  | 0, _, _, _, _, h => h
  | n + 1, sl, nx, m9, hd, h => by
    cases hp : prs tp w sl with
    | true =>
      obtain ⟨h1, h2⟩ := wkF_in hd hp
      rw [wkM_in hp]
      exact wkM_lt' ht n (sl + 1) _ _ h2 (fMk_lt ht h1 h)
    | false =>
      rw [wkF_out hp] at hd
      rw [wkM_out hp]
      exact wkM_lt' ht n (sl + 1) _ _ hd h
theorem wkM_lt {tp : Nat → Nat} (ht : ∀ j, tp j < 256) {len w n sl nx : Nat} {m9 : Nat → Nat} (hd : wkF tp len w n sl nx = none) (h : ∀ j, m9 j < 128) : ∀ j, wkM tp w n sl nx m9 j < 128 := wkM_lt' ht n sl nx m9 hd h
