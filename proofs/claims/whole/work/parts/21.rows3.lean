abbrev zMl (D : va_G) (ws ws' : va_W) (sz : Nat) (post : Int64 → Prop) : Array Value → State → Outcome → State → Prop := va_Ql (fun r (_ : Unit) => post r) (fun _ t => va_P D vwCl ws' t.heap ∧ va_D (va_A ws sz) ws') (va_A ws sz)
section ZCL
variable {p : Program} {l : Launch} {e : Env} {R : Room} {s : State} {m : MethodId} {args : Array Value} {below : List Frame} {meth : Method} {c : Code} {H : Heap} {locs : List Loc} {cells slots : Nat} {Q : State → Prop}
variable {pc : Nat} {ls : Array Slot} {rest st0 : List Value} {a : Array Value} {A0 : Nat → Prop} {H0 : Heap} {mc ms : Nat} {D : va_G} {ws ws' : va_W}
theorem zc_Ml {post : Int64 → Prop} (hr : va_Run p l e R s m args below meth c H locs cells slots mc ms (F0 m pc ls st0) rest (zMl D ws ws' H.size post a) (va_A ws H.size)) (hS : va_S A0 H0 H locs) (hF : ∀ q, va_A ws H.size q → A0 q)
    (kk : ∀ (r : Int64) (H1 : Heap) (locs1 : List Loc), post r → va_P D vwCl ws' H1 → va_D (va_A ws H.size) ws' → (∀ q : Nat, q < H.size → ¬ va_A ws H.size q → H1[q]? = H[q]?) → va_S A0 H0 H1 locs1 → W p l e R s m args below meth c H1 locs1 (cells + mc) (slots + ms) Q (F0 m (pc + 3) ls (.long r :: rest))) : W p l e R s m args below meth c H locs cells slots Q (F0 m pc ls st0) :=
  va_calll hr hS (fun q _ h => hF q h) hF (fun r _ t H1 locs1 ht _ hp hB _ hk hS1 => kk r H1 locs1 hp (by rw [← ht]; exact hB.1) hB.2 hk hS1)
end ZCL
/-! the reference's own: an array of sizes, -1 for none (pm 0), n for pm (n + 1) -/
abbrev aP (f : Nat → Nat) : Nat → Int32 := fun j => pm (f j)
theorem aP_at {f : Nat → Nat} {k : Nat} (h : k < 2 ^ 31) : aP f (nI k).toNatClampNeg = pm (f k) := by
  show pm (f (nI k).toNatClampNeg) = _
  rw [nI_clamp h]
theorem aP_up {f : Nat → Nat} {k v : Nat} (h : k < 2 ^ 31) : upd (aP f) (nI k).toNatClampNeg (pm v) = aP (nup f k v) := by
  rw [nI_clamp h]
  funext j
  show (if j = k then pm v else pm (f j)) = pm (if j = k then v else f j)
  split <;> rfl
theorem pm_nat {a : Nat} (h : 1 ≤ a) : pm a = nI (a - 1) := by
  obtain ⟨b, rfl⟩ : ∃ b, a = b + 1 := ⟨a - 1, by omega⟩
  exact pm_s b
theorem pm_ge0 {a : Nat} (h : a < 2 ^ 30) : 0 ≤ pm a ↔ 1 ≤ a := by
  cases a with
  | zero => decide
  | succ b => rw [pm_s]; exact ⟨fun _ => by omega, fun _ => nI_pos' (by omega)⟩
theorem pm_lt0 {a : Nat} (h : a < 2 ^ 30) : pm a < 0 ↔ a = 0 := by
  cases a with
  | zero => decide
  | succ b => rw [pm_s]; exact ⟨fun q => absurd q (nI_pos (by omega)), fun q => by omega⟩
theorem pm_leN {a k : Nat} (h : a < 2 ^ 30) (hk : k < 2 ^ 31) : pm a ≤ nI k ↔ a ≤ k + 1 := by
  cases a with
  | zero =>
    refine ⟨fun _ => by omega, fun _ => ?_⟩
    rw [Int32.le_iff_toInt_le, nI_toInt hk, show (pm 0).toInt = -1 from by decide]
    omega
  | succ b => rw [pm_s, nI_leI (by omega) hk]; omega
section ZP3
variable {p : Program} {l : Launch} {e : Env} {R : Room} {s : State} {m : MethodId} {args : Array Value} {below : List Frame} {meth : Method} {c : Code} {H : Heap} {locs : List Loc} {cells slots : Nat} {Q : State → Prop} {cc : ByteArray} {pc : Nat} {ls : Array Slot} {rest : List Value} {D : va_G} {cl : List vw_C} {A : Nat → Prop} {a : Nat} {tys : List (ClassId × FieldType)} {ws : va_W} {H0 : Heap}
theorem za_pld (hx : p.tables.exec = Jvm.exec) (hb : c.code = cc) (hK : va_K D cl tys s) (hP : va_P D cl ws H) (q0 t0 : Nat) {cA : ClassId} {n : Nat} {f : Nat → Nat} (ha : ws[q0]? = some (a, .inl (cA, n, .inl (aP f)))) (ht : tys[t0]? = some (cA, .int)) {i : Nat} (hi : i < n) (hn : n < 2 ^ 31) (hdg : decode cc pc = .ok (.iaload, 1))
    (kk : W p l e R s m args below meth c H locs cells slots Q (F0 m (pc + 1) ls (.int (pm (f i)) :: rest))) : W p l e R s m args below meth c H locs cells slots Q (F0 m pc ls (.int (nI i) :: .ref a :: rest)) :=
  va_iald hx hb hK hP q0 t0 ha ht (vp_in_nI hi hn) hdg (by rw [aP_at (Nat.lt_trans hi hn)]; exact kk)
theorem za_pst (hx : p.tables.exec = Jvm.exec) (hb : c.code = cc) (hK : va_K D cl tys s) (hP : va_P D cl ws H) (hD : va_D A ws) (hS : va_S A H0 H locs) (q0 t0 : Nat) {cA : ClassId} {n : Nat} {f : Nat → Nat} (ha : ws[q0]? = some (a, .inl (cA, n, .inl (aP f)))) (ht : tys[t0]? = some (cA, .int)) {i x : Nat} (hi : i < n) (hn : n < 2 ^ 31) (hdg : decode cc pc = .ok (.iastore, 1))
    (kk : ∀ (H1 : Heap) (locs1 : List Loc), va_P D cl (ws.set q0 (a, .inl (cA, n, .inl (aP (nup f i x))))) H1 → va_D A (ws.set q0 (a, .inl (cA, n, .inl (aP (nup f i x))))) → va_S A H0 H1 locs1 → W p l e R s m args below meth c H1 locs1 cells slots Q (F0 m (pc + 1) ls rest)) : W p l e R s m args below meth c H locs cells slots Q (F0 m pc ls (.int (pm x) :: .int (nI i) :: .ref a :: rest)) :=
  va_iast hx hb hK hP hD hS q0 t0 ha ht (vp_in_nI hi hn) hdg (by rw [aP_up (Nat.lt_trans hi hn)]; exact kk)
theorem zp_ge0 (hx : p.tables.exec = Jvm.exec) (hb : c.code = cc) {a : Nat} (ha : a < 2 ^ 30) {off : Int} {tgt : Nat} (hdg : decode cc pc = .ok (.ifCond .ge off, 3)) (ht : (pc : Int) + off = (tgt : Int)) (kt : 1 ≤ a → W p l e R s m args below meth c H locs cells slots Q (F0 m tgt ls rest)) (kf : a = 0 → W p l e R s m args below meth c H locs cells slots Q (F0 m (pc + 3) ls rest)) : W p l e R s m args below meth c H locs cells slots Q (F0 m pc ls (.int (pm a) :: rest)) :=
  lv_if_ge hx hb hdg ht (fun q => kt ((pm_ge0 ha).mp q)) (fun q => kf (Nat.eq_zero_of_not_pos fun h => q ((pm_ge0 ha).mpr h)))
theorem zp_lt0 (hx : p.tables.exec = Jvm.exec) (hb : c.code = cc) {a : Nat} (ha : a < 2 ^ 30) {off : Int} {tgt : Nat} (hdg : decode cc pc = .ok (.ifCond .lt off, 3)) (ht : (pc : Int) + off = (tgt : Int)) (kt : a = 0 → W p l e R s m args below meth c H locs cells slots Q (F0 m tgt ls rest)) (kf : 1 ≤ a → W p l e R s m args below meth c H locs cells slots Q (F0 m (pc + 3) ls rest)) : W p l e R s m args below meth c H locs cells slots Q (F0 m pc ls (.int (pm a) :: rest)) :=
  lv_if_lt hx hb hdg ht (fun q => kt ((pm_lt0 ha).mp q)) (fun q => kf (Nat.pos_of_ne_zero fun h => q ((pm_lt0 ha).mpr h)))
/-- k ≥ a size -/
theorem zp_ge (hx : p.tables.exec = Jvm.exec) (hb : c.code = cc) {a k : Nat} (ha : a < 2 ^ 30) (hk : k < 2 ^ 31) {off : Int} {tgt : Nat} (hdg : decode cc pc = .ok (.if_icmp .ge off, 3)) (ht : (pc : Int) + off = (tgt : Int)) (kt : a ≤ k + 1 → W p l e R s m args below meth c H locs cells slots Q (F0 m tgt ls rest)) (kf : k + 1 < a → W p l e R s m args below meth c H locs cells slots Q (F0 m (pc + 3) ls rest)) : W p l e R s m args below meth c H locs cells slots Q (F0 m pc ls (.int (pm a) :: .int (nI k) :: rest)) :=
  lv_icmp_ge hx hb hdg ht (fun q => kt ((pm_leN ha hk).mp q)) (fun q => kf (Nat.lt_of_not_le fun h => q ((pm_leN ha hk).mpr h)))
/-- a size ≤ b -/
theorem zp_le (hx : p.tables.exec = Jvm.exec) (hb : c.code = cc) {a k : Nat} (ha : a < 2 ^ 30) (hk : k < 2 ^ 31) {off : Int} {tgt : Nat} (hdg : decode cc pc = .ok (.if_icmp .le off, 3)) (ht : (pc : Int) + off = (tgt : Int)) (kt : a ≤ k + 1 → W p l e R s m args below meth c H locs cells slots Q (F0 m tgt ls rest)) (kf : k + 1 < a → W p l e R s m args below meth c H locs cells slots Q (F0 m (pc + 3) ls rest)) : W p l e R s m args below meth c H locs cells slots Q (F0 m pc ls (.int (nI k) :: .int (pm a) :: rest)) :=
  lv_icmp_le hx hb hdg ht (fun q => kt ((pm_leN ha hk).mp q)) (fun q => kf (Nat.lt_of_not_le fun h => q ((pm_leN ha hk).mpr h)))
end ZP3
def fFO : Nat → Nat := tl [1, 0, 0, 0, 1, 2, 2, 2, 2, 0, 3, 0, 0, 0, 0, 0]
theorem fFO_b : ∀ k, k < 16 → fFO k ≤ 3 ∧ (fFO k < 2 ↔ fHL k = 0) ∧ (fFO k = 1 ↔ fHL k = 0 ∧ fCD k ≠ 0) ∧ (fFO k = 3 ↔ fHL k ≠ 0 ∧ fCD k ≠ 0) ∧ (fHL k ≠ 0 → fCD k ≠ 0 → fMM k = 40) := by decide
def wd9 : Nat → Nat → Nat → Nat
  | 0, _, c => c
  | f + 1, r, c => if r = 0 then c else wd9 f (r / 10) (c + 1)
theorem wd9_0 : ∀ f c, wd9 f 0 c = c
  | 0, _ => rfl
  | f + 1, c => by unfold wd9; rw [if_pos rfl]
theorem dcF_wd : ∀ f x c, dcF f x c = wd9 f (x / 10) c
  | 0, _, _ => rfl
  | f + 1, x, c => by
    unfold dcF wd9
    split
    · rfl
    · exact dcF_wd f (x / 10) (c + 1)
theorem wd9_pos {f r : Nat} (h : r < 10 ^ f) (h0 : 0 < r) : ∃ f1, f = f1 + 1 ∧ r / 10 < 10 ^ f1 := by
  cases f with
  | zero => exact absurd h (by show ¬ r < 1; omega)
  | succ f1 =>
    refine ⟨f1, rfl, ?_⟩
    rw [Nat.pow_succ] at h
    omega
/-- the last place at which a field was found, so far -/
def fo (k j : Nat) : Nat := if k < j then k + 1 else 0
def lsetM (v : Int64) (b : Nat) : Nat → Nat → (Nat → Nat) → (Nat → Nat)
  | 0, _, f => f
  | n + 1, k, f => lsetM v b n (k + 1) (nup f (b + k) (lt_ v k))
theorem and31 (y : Int64) : (y &&& 31).toInt32 = nI (y.toInt32.toBitVec.toNat % 2 ^ 5) := by
  rw [Int64.toInt32_and, show (31 : Int64).toInt32 = (31 : Int32) from rfl]
  exact pk_and _ 5 (by decide)
/-- the number of the last digits, the reference's way -/
def nmL (f : Nat → Nat) : Nat → Nat → Nat → Nat
  | _, 0, acc => acc
  | b, n + 1, acc => nmL f (b + 1) n (10 * acc + f b)
def gc (g : Nat → Nat) : Nat → Nat
  | 0 => 0
  | k + 1 => gc g k + hz (g k)
def mka (dr : Nat → Nat) (k j : Nat) : Nat := if fHL k = 0 then dr (42 * k + j) else if dr (42 * k + j) < 10 then 48 + dr (42 * k + j) else 55 + dr (42 * k + j)
theorem fFO_cd : ∀ k, k < 16 → (fFO k % 2 = 1 ↔ fCD k ≠ 0) ∧ (fFO k = 1 → fCD k = 2) ∧ (fFO k = 3 → fCD k = 3) := by decide
