/-! the law: its numbers, by what they ask -/
def lv64 (a b : Int32) : Int64 := (a.toInt64 <<< ((nI 32).toInt64 &&& 63)) ||| (b.toInt64 &&& lN 4294967295)
theorem lo_hi (v : Int32) {N : Nat} (hN : N < 2 ^ 31) : (v < 0 ∨ nI N < v) ∨ ∃ n, n ≤ N ∧ v = nI n := by
  by_cases h1 : v < 0
  · exact Or.inl (Or.inl h1)
  · by_cases h2 : nI N < v
    · exact Or.inl (Or.inr h2)
    · obtain ⟨j, hj, rfl⟩ := nI_of h1
      exact Or.inr ⟨j, Nat.not_lt.mp (mt (nI_ltI hN hj).mpr h2), rfl⟩
theorem fld_ix (v : Int32) : (∀ j, j < 16 → nI (fFI j) ≠ v) ∨ ∃ kf, kf < 16 ∧ v = nI (fFI kf) := by
  by_cases h : ∃ kf, kf < 16 ∧ v = nI (fFI kf)
  · exact Or.inr h
  · exact Or.inl fun j hj z => h ⟨j, hj, z.symm⟩
theorem i64_ix (v : Int64) : v < 0 ∨ ∃ n, n < 2 ^ 63 ∧ v = lN n := by
  by_cases h : v < 0
  · exact Or.inl h
  · right
    have h1 : 0 ≤ v.toInt := by
      rw [Int64.lt_iff_toInt_lt] at h
      exact Int.not_lt.mp h
    have h2 : v.toInt < 2 ^ 63 := Int64.toInt_lt v
    have h3 : v.toInt.toNat < 2 ^ 63 := by omega
    refine ⟨v.toInt.toNat, h3, ?_⟩
    apply Int64.toInt_inj.mp
    rw [pk_lT h3]
    omega
theorem dig_ix (x : Int32) (v : Int64) : (∀ j, j < 16 → nI (fFI j) ≠ x) ∨ (∃ kf, kf < 16 ∧ x = nI (fFI kf) ∧ fHL kf ≠ 0) ∨ (∃ kf, kf < 16 ∧ x = nI (fFI kf) ∧ fHL kf = 0 ∧ v < 0) ∨
    (∃ kf n, kf < 16 ∧ x = nI (fFI kf) ∧ fHL kf = 0 ∧ n < 2 ^ 63 ∧ v = lN n ∧ fMM kf < dcn n) ∨ (∃ kf n, kf < 16 ∧ x = nI (fFI kf) ∧ fHL kf = 0 ∧ n < 2 ^ 63 ∧ v = lN n ∧ dcn n ≤ fMM kf) := by
  rcases fld_ix x with h | ⟨kf, h1, h2⟩
  · exact Or.inl h
  · right
    by_cases hh : fHL kf = 0
    · right
      rcases i64_ix v with hv | ⟨n, hn, hv⟩
      · exact Or.inl ⟨kf, h1, h2, hh, hv⟩
      · right
        rcases Nat.lt_or_ge (fMM kf) (dcn n) with hd | hd
        · exact Or.inl ⟨kf, n, h1, h2, hh, hn, hv, hd⟩
        · exact Or.inr ⟨kf, n, h1, h2, hh, hn, hv, hd⟩
    · exact Or.inl ⟨kf, h1, h2, hh⟩
theorem let_ix (x y : Int32) : (∀ j, j < 16 → nI (fFI j) ≠ x) ∨ (∃ kf, kf < 16 ∧ x = nI (fFI kf) ∧ fHL kf = 0) ∨ (∃ kf, kf < 16 ∧ x = nI (fFI kf) ∧ fHL kf ≠ 0 ∧ ((fCD kf = 0 ∧ y ≠ 0) ∨ (fCD kf ≠ 0 ∧ (y < nI 1 ∨ nI 40 < y)))) ∨
    (∃ kf n, kf < 16 ∧ x = nI (fFI kf) ∧ fHL kf ≠ 0 ∧ y = nI n ∧ (fCD kf = 0 → n = 0) ∧ (fCD kf ≠ 0 → 1 ≤ n ∧ n ≤ fMM kf) ∧ n < 2 ^ 31) := by
  rcases fld_ix x with h | ⟨kf, h1, h2⟩
  · exact Or.inl h
  · right
    by_cases hh : fHL kf = 0
    · exact Or.inl ⟨kf, h1, h2, hh⟩
    · right
      by_cases hb : (fCD kf = 0 ∧ y ≠ 0) ∨ (fCD kf ≠ 0 ∧ (y < nI 1 ∨ nI 40 < y))
      · exact Or.inl ⟨kf, h1, h2, hh, hb⟩
      · right
        by_cases hc : fCD kf = 0
        · have hy : y = 0 := Decidable.byContradiction fun z => hb (Or.inl ⟨hc, z⟩)
          exact ⟨kf, 0, h1, h2, hh, hy, fun _ => rfl, fun z => absurd hc z, by decide⟩
        · have h5 := (fFO_b kf h1).2.2.2.2 hh hc
          rcases lo_hi y (N := 40) (by decide) with hy | ⟨n, hn, hy⟩
          · refine absurd (Or.inr ⟨hc, ?_⟩) hb
            rcases hy with hy | hy
            · exact Or.inl (Int32.lt_trans hy (by decide))
            · exact Or.inr hy
          · have hn1 : ¬ n < 1 := fun z => hb (Or.inr ⟨hc, Or.inl (by rw [hy]; exact nI_lt z (by decide))⟩)
            exact ⟨kf, n, h1, h2, hh, hy, fun z => absurd z hc, fun _ => ⟨by omega, by omega⟩, by omega⟩
theorem org_ix (x1 x2 x3 : Int32) : (x1 < 0 ∨ nI 9999 < x1 ∨ x2 < 0 ∨ nI 999999 < x2 ∨ x3 < 0 ∨ nI 99999 < x3) ∨ ∃ a1 a2 a3, a1 ≤ 9999 ∧ a2 ≤ 999999 ∧ a3 ≤ 99999 ∧ x1 = nI a1 ∧ x2 = nI a2 ∧ x3 = nI a3 := by
  rcases lo_hi x1 (N := 9999) (by decide) with h | ⟨a1, h1, e1⟩
  · exact Or.inl (h.elim Or.inl fun h => Or.inr (Or.inl h))
  · rcases lo_hi x2 (N := 999999) (by decide) with h | ⟨a2, h2, e2⟩
    · exact Or.inl (Or.inr (Or.inr (h.elim Or.inl fun h => Or.inr (Or.inl h))))
    · rcases lo_hi x3 (N := 99999) (by decide) with h | ⟨a3, h3, e3⟩
      · exact Or.inl (Or.inr (Or.inr (Or.inr (Or.inr h))))
      · exact Or.inr ⟨a1, a2, a3, h1, h2, h3, e1, e2, e3⟩
theorem at_ix (cnt : Nat → Nat) (hc : ∀ j, j < 16 → cnt j < 2 ^ 31) (x y : Int32) : (∀ j, j < 16 → nI (fFI j) ≠ x) ∨ (∃ kf, kf < 16 ∧ x = nI (fFI kf) ∧ (y < 0 ∨ nI (cnt kf) ≤ y)) ∨ ∃ kf j, kf < 16 ∧ x = nI (fFI kf) ∧ j < cnt kf ∧ y = nI j := by
  rcases fld_ix x with h | ⟨kf, h1, h2⟩
  · exact Or.inl h
  · right
    rcases pk_ix y (hc kf h1) with h | h | ⟨j, hj, hy⟩
    · exact Or.inl ⟨kf, h1, h2, Or.inl h⟩
    · exact Or.inl ⟨kf, h1, h2, Or.inr h⟩
    · exact Or.inr ⟨kf, j, h1, h2, hj, hy⟩
theorem num_ix (cnt : Nat → Nat) (x : Int32) : (∀ j, j < 16 → nI (fFI j) ≠ x) ∨ (∃ kf, kf < 16 ∧ x = nI (fFI kf) ∧ fHL kf ≠ 0) ∨ (∃ kf, kf < 16 ∧ x = nI (fFI kf) ∧ fHL kf = 0 ∧ cnt kf = 0) ∨ ∃ kf, kf < 16 ∧ x = nI (fFI kf) ∧ fHL kf = 0 ∧ cnt kf ≠ 0 := by
  rcases fld_ix x with h | ⟨kf, h1, h2⟩
  · exact Or.inl h
  · right
    by_cases hh : fHL kf = 0
    · by_cases h0 : cnt kf = 0
      · exact Or.inr (Or.inl ⟨kf, h1, h2, hh, h0⟩)
      · exact Or.inr (Or.inr ⟨kf, h1, h2, hh, h0⟩)
    · exact Or.inl ⟨kf, h1, h2, hh⟩
theorem spo_ix {len : Nat} (hl : len < 2 ^ 31) (x1 x2 : Int32) : (x1 < 0 ∨ nI len ≤ x1 ∨ x2 < 0 ∨ nI 255 < x2) ∨ ∃ i x, i < len ∧ x ≤ 255 ∧ x1 = nI i ∧ x2 = nI x := by
  rcases pk_ix x1 hl with h | h | ⟨i, hi, e1⟩
  · exact Or.inl (Or.inl h)
  · exact Or.inl (Or.inr (Or.inl h))
  · rcases lo_hi x2 (N := 255) (by decide) with h | ⟨x, hx, e2⟩
    · exact Or.inl (Or.inr (Or.inr h))
    · exact Or.inr ⟨i, x, hi, hx, e1, e2⟩
theorem pF_ix (tp : Nat → Nat) (len : Nat) : pF tp len = none ∨ ∃ k2 p2, pF tp len = some (k2, p2) := by
  cases h : pF tp len with
  | none => exact Or.inl rfl
  | some q => exact Or.inr ⟨q.1, q.2, rfl⟩
theorem flt_ix (tp : Nat → Nat) (len : Nat) (x : Int32) : (x ≠ 0 ∧ x ≠ 1) ∨ (∃ wh, wh ≤ 1 ∧ x = nI wh ∧ pF tp len = none) ∨ ∃ wh k2 p2, wh ≤ 1 ∧ x = nI wh ∧ pF tp len = some (k2, p2) := by
  by_cases h0 : x = 0
  · rcases pF_ix tp len with h | ⟨k2, p2, h⟩
    · exact Or.inr (Or.inl ⟨0, by decide, h0, h⟩)
    · exact Or.inr (Or.inr ⟨0, k2, p2, by decide, h0, h⟩)
  · by_cases h1 : x = 1
    · rcases pF_ix tp len with h | ⟨k2, p2, h⟩
      · exact Or.inr (Or.inl ⟨1, by decide, h1, h⟩)
      · exact Or.inr (Or.inr ⟨1, k2, p2, by decide, h1, h⟩)
    · exact Or.inl ⟨h0, h1⟩
theorem SAM.atno {ty : Nat} {cnt mk : Nat → Nat} {len : Nat} {tp g dr : Nat → Nat} (h : SAM ty cnt mk len tp g dr) {k : Nat} {y : Int32} (hk : k < 16) (hy : y < 0 ∨ nI (cnt k) ≤ y) : y < 0 ∨ pm (g k) ≤ y := by
  rcases hy with hy | hy
  · exact Or.inl hy
  · right
    rw [h.size hk]
    unfold szr
    split
    · rename_i e
      rw [e] at hy
      exact Int32.le_trans (by decide) hy
    · exact hy
theorem fb_lt (x : Int32) (k : Nat) : fb x k < 256 := Nat.mod_lt _ (by decide)
theorem gCW {y : MethodName} {cc : ByteArray} {maxL : Nat} {ret : Option FieldType} {hh : List (Nat × Nat × Nat × Nat)} (h5 : (.codeWith y cc maxL ret hh : Cond) ∈ BIG) : GoodIn BIG (.codeWith y cc maxL ret hh :: BIG) := fun w h => big_gi w ((List.mem_cons.mp h).elim (fun e => e ▸ h5) id)
section ZS
variable {p : Program} {l : Launch} {e : Env} {R : Room} {s : State} {m : MethodId} {args : Array Value} {below : List Frame} {meth : Method} {c : Code} {H H0 : Heap} {locs : List Loc} {cells slots : Nat} {Q : State → Prop} {cc : ByteArray} {pc : Nat} {ls : Array Slot} {rest : List Value} {A : Nat → Prop}
theorem zs_ld (hexec : p.tables.exec = Jvm.exec) (hb : c.code = cc) {b L : Nat} {xs : Nat → Int32} (hX : va_X b L xs s H0) (hbl : b < H0.size) (hbA : ¬ A b) (hS : va_S A H0 H locs) {i : Nat} (hi : i < L) (hL : L < 2 ^ 31) (hdg : decode cc pc = .ok (.iaload, 1))
    (kk : W p l e R s m args below meth c H locs cells slots Q (F0 m (pc + 1) ls (.int (xs i) :: rest))) : W p l e R s m args below meth c H locs cells slots Q (F0 m pc ls (.int (nI i) :: .ref b :: rest)) :=
  va_sld hexec hb hX hbl hbA hS (vp_in_nI hi hL) hdg (by rw [nI_clamp (by omega)]; exact kk)
end ZS
theorem SAM.g43x {ty : Nat} {cnt mk : Nat → Nat} {len : Nat} {tp g dr : Nat → Nat} (h : SAM ty cnt mk len tp g dr) : ∀ j, j < 16 → g j ≤ fMM j + 1 := fun j hj => by
  have h1 := h.gk hj
  have h2 := h.1.2.1 j hj
  have h3 := gs_le (cnt j)
  omega
theorem SAM.d9x {ty : Nat} {cnt mk : Nat → Nat} {len : Nat} {tp g dr : Nat → Nat} (h : SAM ty cnt mk len tp g dr) : ∀ k, k < 16 → fHL k ≠ 0 → ∀ j, j < g k - 1 → dr (42 * k + j) < 2 ^ 31 := fun k hk _ j hj => h.d31 hk (by
  rw [h.gk hk] at hj
  have h3 := gs_le (cnt k)
  omega)
/-! the law: what holds at its loop -/
def lwW (cI cB cL : ClassId) (x0 h0 h1 h2 t0 t1 r0 f0 f1 f2 m0 n0 n1 n2 e0 e1 e2 e3 e4 e5 lo : Nat) (ty : Nat) (cnt : Nat → Nat) (mk : Nat → Nat) (len : Nat) (tp : Nat → Nat) (fk : Nat) (fp : Int32) (nx : Nat) (lnb : Nat) (gty : Nat) (gcnt : Nat → Nat) (gmk : Nat → Nat) (cd : Nat) (rt : Nat) (at9 : Nat) (fl : Nat) (pl : Int32) (wr : Nat) (g : Nat → Nat) (dr : Nat → Nat) (rd : Nat → Nat) (rs : Nat → Nat) (fw : Nat → Nat) (fo : Nat → Int64) : va_W := [(x0, .inr (3, [.ref h0, .ref t0, .ref r0])), (h0, .inr (0, [.int (nI ty), .ref h1, .ref h2])), (h1, .inl (cI, 16, .inl (aN cnt))), (h2, .inl (cB, 208, .inl (aN mk))), (t0, .inr (2, [.ref t1, .int (nI len)])), (t1, .inl (cB, 400, .inl (aB tp))), (r0, .inr (1, [.ref f0, .int (nI fk), .int fp, .ref t0, .int (nI nx), .int (nI lnb)])), (f0, .inr (0, [.int (nI gty), .ref f1, .ref f2])), (f1, .inl (cI, 16, .inl (aN gcnt))), (f2, .inl (cB, 208, .inl (aN gmk))), (m0, .inr (4, [.ref n0, .ref n1, .ref n2, .int (nI cd), .int (nI ty), .ref e0, .ref e1, .int (nI rt), .ref e2, .ref e3, .ref e4, .int (nI len), .int (nI at9), .int (nI fl), .int pl, .int (nI wr), .ref e5])), (n0, .inl (cI, 16, .inl (aN fFI))), (n1, .inl (cI, 16, .inl (aN fMM))), (n2, .inl (cI, 16, .inl (aN fFO))), (e0, .inl (cI, 672, .inl (aN dr))), (e1, .inl (cI, 16, .inl (aP g))), (e2, .inl (cI, 672, .inl (aN rd))), (e3, .inl (cI, 16, .inl (aP rs))), (e4, .inl (cI, 400, .inl (aN tp))), (e5, .inl (cI, 4, .inl (aN fw))), (lo, .inl (cL, 1, .inr (.inl fo)))]
/-- at row pc of round it, with n cells and z slots made: the walk goes on to its end -/
def LJ (p : Program) (l : Launch) (e : Env) (s : State) (m : MethodId) (below : List Frame) (meth : Method) (c : Code) (b : Nat) (A : Nat → Prop) (Q : State → Prop) (dC : Nat → ClassId) (dI : Nat → Nat → Nat) (cI cB cL : ClassId) (x0 h0 h1 h2 t0 t1 r0 f0 f1 f2 m0 n0 n1 n2 e0 e1 e2 e3 e4 e5 lo : Nat) (it n z pc : Nat) : Prop :=
  ∀ (ty : Nat) (cnt : Nat → Nat) (mk : Nat → Nat) (len : Nat) (tp : Nat → Nat) (fk : Nat) (fp : Int32) (nx : Nat) (lnb : Nat) (gty : Nat) (gcnt : Nat → Nat) (gmk : Nat → Nat) (cd : Nat) (rt : Nat) (at9 : Nat) (fl : Nat) (pl : Int32) (wr : Nat) (g : Nat → Nat) (dr : Nat → Nat) (rd : Nat → Nat) (rs : Nat → Nat) (fw : Nat → Nat) (fo : Nat → Int64), SAM ty cnt mk len tp g dr → (∀ j, gmk j < 128) → ∀ (H : Heap) (locs : List Loc) (ls : Array Slot), lv_has ls 8 [(4, .int (nI (5 * it))), (0, .ref b), (1, .ref x0), (2, .ref m0), (3, .ref lo)] → va_P (dC, dI) vwCl (lwW cI cB cL x0 h0 h1 h2 t0 t1 r0 f0 f1 f2 m0 n0 n1 n2 e0 e1 e2 e3 e4 e5 lo ty cnt mk len tp fk fp nx lnb gty gcnt gmk cd rt at9 fl pl wr g dr rd rs fw fo) H → va_D A (lwW cI cB cL x0 h0 h1 h2 t0 t1 r0 f0 f1 f2 m0 n0 n1 n2 e0 e1 e2 e3 e4 e5 lo ty cnt mk len tp fk fp nx lnb gty gcnt gmk cd rt at9 fl pl wr g dr rd rs fw fo) → va_S A s.heap H locs → W p l e room_1 s m #[Value.ref b] below meth c H locs n z Q (F0 m pc ls [])
def LC (p : Program) (l : Launch) (s : State) (m : MethodId) (c : Code) (b L : Nat) (xs : Nat → Int32) (A : Nat → Prop) (dC : Nat → ClassId) (dI : Nat → Nat → Nat) (cI cB cL : ClassId) : Prop := p.tables.exec = Jvm.exec ∧ c.code = code ∧ c.maxLocals = 8 ∧ s.vm.findClass RL = some m.cls ∧ (∀ w ∈ BIG, w.before #[Value.ref b] s = true) ∧ gS A s ∧ va_K (dC, dI) vwCl [(cI, .int), (cB, .byte), (cL, .long)] s ∧ (∀ q : Nat, s.heap.size ≤ q → A q) ∧ va_X b L xs s s.heap ∧ b < s.heap.size ∧ ¬ A b ∧ l.flags = pinnedFlags ++ [noTraceFlag]
