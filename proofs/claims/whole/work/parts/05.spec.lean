/-! the class's own numbers and what its methods do to them, as functions of naturals -/
def tl (xs : List Nat) (k : Nat) : Nat := xs.getD k 0
def fFI : Nat → Nat := tl [2, 3, 4, 11, 32, 37, 38, 39, 41, 49, 54, 70, 74, 86, 90, 95]
def fMM : Nat → Nat := tl [19, 6, 12, 6, 11, 12, 6, 2, 8, 3, 40, 3, 10, 16, 42, 12]
def fCD : Nat → Nat := tl [2, 0, 0, 0, 2, 0, 0, 0, 0, 0, 3, 0, 0, 0, 0, 0]
def fHL : Nat → Nat := tl [0, 0, 0, 0, 0, 1, 1, 1, 1, 0, 1, 0, 0, 0, 0, 0]
def fFM : Nat → Nat := tl [0, 19, 25, 37, 43, 54, 66, 72, 74, 82, 85, 125, 128, 138, 154, 196]
def fTY : Nat → Nat := tl [100, 101, 110, 220, 221, 230, 400, 401, 410, 420, 421, 430, 500, 501, 510, 800, 810]
def fKB : Nat → Nat := tl [240, 32, 0, 1, 14, 128, 132, 0, 4, 64, 4, 66, 0, 0, 0, 0]
theorem fFI_b : ∀ k, k < 16 → 2 ≤ fFI k ∧ fFI k ≤ 95 := by decide
theorem fMM_b : ∀ k, k < 16 → 2 ≤ fMM k ∧ fMM k ≤ 42 := by decide
theorem fCD_b : ∀ k, k < 16 → fCD k ≤ 3 := by decide
theorem fHL_b : ∀ k, k < 16 → fHL k ≤ 1 := by decide
theorem fFM_b : ∀ k, k < 16 → fFM k + fMM k ≤ 208 := by decide
theorem fTY_b : ∀ k, k < 17 → fTY k ≤ 810 := by decide
theorem fKB_b : ∀ k, k < 16 → fKB k < 256 := by decide
/-- there or not -/
def hz (n : Nat) : Nat := if n = 0 then 0 else 1
theorem hz_lt (n : Nat) : hz n < 2 ^ 31 := by unfold hz; split <;> decide
theorem hz_le (n : Nat) : hz n ≤ 1 := by unfold hz; split <;> decide
theorem hz_0 {n : Nat} : hz n = 0 ↔ n = 0 := by unfold hz; split <;> simp_all
/-- the first k are 0 -/
def zc (f : Nat → Nat) (k : Nat) : Nat → Nat := fun j => if j < k then 0 else f j
theorem zc_0 (f : Nat → Nat) : f = zc f 0 := by funext j; simp [zc]
theorem zc_s (f : Nat → Nat) (k : Nat) : nup (zc f k) k 0 = zc f (k + 1) := by
  funext j
  unfold nup zc
  by_cases h : j = k
  · subst h; simp
  · by_cases h2 : j < k
    · rw [if_neg h, if_pos h2, if_pos (by omega)]
    · rw [if_neg h, if_neg h2, if_neg (by omega)]
/-- the first n out of the one, the rest out of the other -/
def cp (f g : Nat → Nat) (n : Nat) : Nat → Nat := fun j => if j < n then f j else g j
theorem cp_N (f g : Nat → Nat) {n : Nat} (h : n < 2 ^ 31) : va_cpy (aN f) (aN g) (nI 0).toNatClampNeg (nI 0).toNatClampNeg (nI n).toNatClampNeg = aN (cp f g n) := by
  rw [nI_clamp (n := 0) (by decide), nI_clamp h]
  funext j
  show (if 0 ≤ j ∧ j < 0 + n then nI (f (0 + (j - 0))) else nI (g j)) = nI (if j < n then f j else g j)
  by_cases h2 : j < n
  · rw [if_pos ⟨Nat.zero_le _, by omega⟩, if_pos h2, Nat.zero_add, Nat.sub_zero]
  · rw [if_neg (by omega), if_neg h2]
/-- how many of the first k are there -/
def fc (cnt : Nat → Nat) : Nat → Nat
  | 0 => 0
  | k + 1 => fc cnt k + hz (cnt k)
theorem fc_le (cnt : Nat → Nat) : ∀ k, fc cnt k ≤ k
  | 0 => Nat.le_refl 0
  | k + 1 => by
    have h1 := fc_le cnt k
    have h2 : hz (cnt k) ≤ 1 := by unfold hz; split <;> omega
    unfold fc
    omega
/-- n digits of v from the place b on -/
def ds (mk : Nat → Nat) (b : Nat) : Nat → Nat → (Nat → Nat)
  | 0, _ => mk
  | n + 1, v => ds (nup mk (b + n) (v % 10)) b n (v / 10)
/-- n letters of v from the place b on, the first of them being letter k -/
def lt_ (v : Int64) (k : Nat) : Nat := (v >>> ((nI (5 * (k % 12))).toInt64 &&& 63)).toInt32.toBitVec.toNat % 2 ^ 5
def lb (w : Nat) : Nat := if w < 10 then 48 + w else 65 + w - 10
def lset (v : Int64) (b : Nat) : Nat → Nat → (Nat → Nat) → (Nat → Nat)
  | 0, _, m9 => m9
  | n + 1, k, m9 => lset v b n (k + 1) (nup m9 (b + k) (lb (lt_ v k)))
/-- the number that n digits from the place b on are, behind acc -/
def nm_ (mk : Nat → Nat) (b : Nat) : Nat → Nat → Nat
  | 0, acc => acc
  | n + 1, acc => nm_ mk (b + 1) n (acc * 10 + mk b)
/-- one before -/
def pm (a : Nat) : Int32 := nI a - 1
theorem pm_s (a : Nat) : pm (a + 1) = nI a := by unfold pm; exact nI_pred a
theorem pm_m (a : Nat) : nI a + Int32.ofInt (-1) = pm a := by
  unfold pm
  rw [Int32.sub_eq_add_neg]
  rfl
theorem pm_lt {a n : Nat} (h : a + n < 2 ^ 30) : pm (a + n) < nI a ↔ n = 0 := by
  cases n with
  | zero =>
    refine ⟨fun _ => rfl, fun _ => ?_⟩
    rw [Int32.lt_iff_toInt_lt]
    have := pk_sub_toInt (a := a) (b := 1) (by omega) (by decide)
    rw [nI_toInt (by omega)]
    show (nI a - nI 1).toInt < _
    rw [this]
    omega
  | succ n =>
    rw [show a + (n + 1) = (a + n) + 1 from by omega, pm_s, nI_ltI (by omega) (by omega)]
    omega
theorem max_0 {a b : Nat} (ha : a < 2 ^ 30) (hb : b < 2 ^ 30) : (if nI 0 < nI a - nI b then nI a - nI b else nI 0) = nI (a - b) := by
  by_cases h : b ≤ a
  · rw [pk_sub h]
    split
    · rfl
    · rename_i q
      have : ¬ 0 < a - b := fun z => q ((nI_ltI (a := 0) (b := a - b) (by decide) (by omega)).mpr z)
      rw [show a - b = 0 by omega]
  · have h2 := pk_sneg (a := a) (b := b) hb (by omega)
    rw [if_neg (fun q => ?_), show a - b = 0 by omega]
    rw [Int32.lt_iff_toInt_lt] at q h2
    rw [show (nI 0).toInt = 0 from rfl] at q
    rw [show (0 : Int32).toInt = 0 from rfl] at h2
    omega
/-! the tape: a byte's halves, digits ahead, letters ahead -/
def hf (tp : Nat → Nat) (nx h : Nat) : Nat := if h % 2 = 0 then tp (nx + h / 2) / 16 else tp (nx + h / 2) % 16
theorem hf_lt {tp : Nat → Nat} (ht : ∀ j, tp j < 256) (nx h : Nat) : hf tp nx h < 16 := by
  have := ht (nx + h / 2)
  unfold hf
  split <;> omega
def dgL (tp : Nat → Nat) (nx odd : Nat) : Nat → Nat → Option (Nat × Nat)
  | 0, _ => none
  | n + 1, h => if (if h < odd then 0 else 9) < hf tp nx h then some (2, nx + h / 2) else dgL tp nx odd n (h + 1)
/-- the fault of ct digits at nx -/
def dgF (tp : Nat → Nat) (len nx ct : Nat) : Option (Nat × Nat) := if len < nx + (ct + 1) / 2 then some (1, len) else dgL tp nx (ct % 2) (ct % 2 + ct) 0
/-- the number that they are -/
def nmA (tp : Nat → Nat) (nx ct : Nat) : Nat → Nat → Nat → Nat
  | 0, _, acc => acc
  | n + 1, k, acc => nmA tp nx ct n (k + 1) (acc * 10 + hf tp nx (ct % 2 + k))
/-- them, laid from the place b on -/
def dgC (tp : Nat → Nat) (nx ct b : Nat) : Nat → Nat → (Nat → Nat) → (Nat → Nat)
  | 0, _, m9 => m9
  | n + 1, k, m9 => dgC tp nx ct b n (k + 1) (nup m9 (b + k) (hf tp nx (ct % 2 + k)))
def isL (v : Nat) : Bool := (decide (48 ≤ v) && decide (v ≤ 57)) || (decide (65 ≤ v) && decide (v ≤ 90))
def ltL (tp : Nat → Nat) : Nat → Nat → Option (Nat × Nat)
  | 0, _ => none
  | n + 1, i => if isL (tp i) then ltL tp n (i + 1) else some (6, i)
def ltF (tp : Nat → Nat) (len nx n : Nat) : Option (Nat × Nat) := if len < nx + n then some (1, len) else ltL tp n nx
def ltC (tp : Nat → Nat) (nx b : Nat) : Nat → Nat → (Nat → Nat) → (Nat → Nat)
  | 0, _, m9 => m9
  | n + 1, k, m9 => ltC tp nx b n (k + 1) (nup m9 (b + k) (tp (nx + k)))
theorem dgF_fit {tp : Nat → Nat} {len nx ct : Nat} (h : dgF tp len nx ct = none) : nx + (ct + 1) / 2 ≤ len := by
  unfold dgF at h
  by_cases q : len < nx + (ct + 1) / 2
  · rw [if_pos q] at h; cases h
  · omega
theorem dgF_ok {tp : Nat → Nat} {len nx ct : Nat} (h : dgF tp len nx ct = none) : dgL tp nx (ct % 2) (ct % 2 + ct) 0 = none := by
  have q := dgF_fit h
  unfold dgF at h
  rwa [if_neg (by omega)] at h
/-! what comes behind the tape, as rows of bytes -/
def apl (tp : Nat → Nat) (len : Nat) : List Nat → (Nat → Nat)
  | [] => tp
  | b :: bs => apl (nup tp len b) (len + 1) bs
theorem apl_app (tp : Nat → Nat) (len : Nat) (xs ys : List Nat) : apl tp len (xs ++ ys) = apl (apl tp len xs) (len + xs.length) ys := by
  induction xs generalizing tp len with
  | nil => rfl
  | cons b bs ih =>
    show apl (nup tp len b) (len + 1) (bs ++ ys) = apl (apl (nup tp len b) (len + 1) bs) (len + (bs.length + 1)) ys
    rw [ih, show len + (bs.length + 1) = len + 1 + bs.length by omega]
def anb (v dc : Nat) : List Nat := (if (dc + 1) / 2 = 2 then [v / 1000 % 10 * 16 + v / 100 % 10] else []) ++ [v / 10 % 10 * 16 + v % 10]
def pB (mk : Nat → Nat) (b : Nat) : Nat → Nat → List Nat
  | 0, _ => []
  | n + 1, k => (mk (b + k) * 16 + mk (b + (k + 1))) :: pB mk b n (k + 2)
def dgB (mk : Nat → Nat) (b ct : Nat) : List Nat := (if ct % 2 = 0 then [] else [0 * 16 + mk (b + 0)]) ++ pB mk b (ct / 2) (ct % 2)
def lB (mk : Nat → Nat) (b : Nat) : Nat → Nat → List Nat
  | 0, _ => []
  | n + 1, k => mk (b + k) :: lB mk b n (k + 1)
def fldB (cnt mk : Nat → Nat) (sl : Nat) : List Nat := (if fCD sl = 0 then [] else anb (cnt sl) (fCD sl)) ++ (if fHL sl = 0 then dgB mk (fFM sl) (cnt sl) else lB mk (fFM sl) (cnt sl) 0)
theorem or16 {a b : Nat} (ha : a < 16) (hb : b < 16) : nI (a * 16) ||| nI b = nI (a * 16 + b) := by
  have : ∀ a, a < 16 → ∀ b, b < 16 → nI (a * 16) ||| nI b = nI (a * 16 + b) := by decide
  exact this a ha b hb
theorem fit_small {n : Nat} (h : n < 128) : fits .byte (.int (nI n)) = true := by
  rw [← sB_small n h]
  exact pk_fb (nI n)
theorem ltF_fit {tp : Nat → Nat} {len nx ct : Nat} (h : ltF tp len nx ct = none) : nx + ct ≤ len := by
  unfold ltF at h
  by_cases q : len < nx + ct
  · rw [if_pos q] at h; cases h
  · omega
theorem ltF_ok {tp : Nat → Nat} {len nx ct : Nat} (h : ltF tp len nx ct = none) : ltL tp ct nx = none := by
  have q := ltF_fit h
  unfold ltF at h
  rwa [if_neg (by omega)] at h
theorem isL_lt {v : Nat} (h : isL v = true) : v < 128 := by
  simp only [isL, Bool.or_eq_true, Bool.and_eq_true, decide_eq_true_eq] at h
  omega
theorem nup_lt {f : Nat → Nat} {k v m : Nat} (h : ∀ j, f j < m) (hv : v < m) : ∀ j, nup f k v j < m := fun j => by
  unfold nup
  split
  · exact hv
  · exact h j
theorem lB_len (mk : Nat → Nat) (b : Nat) : ∀ n k, (lB mk b n k).length = n
  | 0, _ => rfl
  | n + 1, k => by
    show (lB mk b n (k + 1)).length + 1 = n + 1
    rw [lB_len mk b n (k + 1)]
theorem sl_32 : ∀ n, n < 32 → ((nI n &&& 31).toBitVec.smod 32).toNat = n := by decide
theorem shr_N {a b : Nat} (ha : a < 2 ^ 31) (hb : b < 32) : nI a >>> (nI b &&& 31) = nI (a / 2 ^ b) := pk_shrN ha _ b (sl_32 b hb)
theorem sB_of (x : Int32) : x.toInt8.toInt32 = sB (x.toBitVec.toNat % 256) := by
  unfold sB
  congr 1
  apply Int8.toBitVec_inj.mp
  apply BitVec.eq_of_toNat_eq
  show (x.toBitVec.signExtend 8).toNat = ((BitVec.ofNat 32 (x.toBitVec.toNat % 256)).signExtend 8).toNat
  rw [BitVec.signExtend_eq_setWidth_of_le _ (by decide), BitVec.signExtend_eq_setWidth_of_le _ (by decide)]
  rw [BitVec.toNat_setWidth, BitVec.toNat_setWidth, BitVec.toNat_ofNat]
  omega
theorem nI_and (a b : Nat) : nI a &&& nI b = nI (a &&& b) := by
  apply Int32.toBitVec_inj.mp
  show BitVec.ofNat 32 a &&& BitVec.ofNat 32 b = BitVec.ofNat 32 (a &&& b)
  apply BitVec.eq_of_getLsbD_eq
  intro i hi
  simp [hi]
theorem nI_xor (a b : Nat) : nI a ^^^ nI b = nI (a ^^^ b) := by
  apply Int32.toBitVec_inj.mp
  show BitVec.ofNat 32 a ^^^ BitVec.ofNat 32 b = BitVec.ofNat 32 (a ^^^ b)
  apply BitVec.eq_of_getLsbD_eq
  intro i hi
  simp [hi]
theorem sB_xor (a b : Nat) : (sB a ^^^ nI b).toInt8.toInt32 = sB (a ^^^ b) := by
  unfold sB
  congr 1
  rw [Int32.toInt8_xor, Int8.toInt8_toInt32, ← Int32.toInt8_xor]
  congr 1
  exact nI_xor a b
theorem lt_lt (v : Int64) (k : Nat) : lt_ v k < 32 := Nat.mod_lt _ (by decide)
theorem lb_lt {w : Nat} (h : w < 36) : lb w < 128 := by unfold lb; split <;> omega
/-! a field of the tape -/
def valF (tp : Nat → Nat) (len nx sl ct : Nat) : Option (Nat × Nat) := if fHL sl = 0 then dgF tp len nx ct else ltF tp len nx ct
def fCt (tp : Nat → Nat) (nx sl : Nat) : Nat := if fCD sl = 0 then fMM sl else nmA tp nx (fCD sl) (fCD sl) 0 0
def fVp (nx sl : Nat) : Nat := nx + (fCD sl + 1) / 2
def fieldF (tp : Nat → Nat) (len nx sl : Nat) : Option (Nat × Nat) :=
  if fCD sl = 0 then valF tp len nx sl (fMM sl)
  else match dgF tp len nx (fCD sl) with
    | some q => some q
    | none => if nmA tp nx (fCD sl) (fCD sl) 0 0 < 1 ∨ fMM sl < nmA tp nx (fCD sl) (fCD sl) 0 0 then some (5, nx) else valF tp len (nx + (fCD sl + 1) / 2) sl (nmA tp nx (fCD sl) (fCD sl) 0 0)
def vMk (tp : Nat → Nat) (p sl ct : Nat) (mk : Nat → Nat) : Nat → Nat := if fHL sl = 0 then dgC tp p ct (fFM sl) ct 0 mk else ltC tp p (fFM sl) ct 0 mk
def vNx (p sl ct : Nat) : Nat := if fHL sl = 0 then p + (ct + 1) / 2 else p + ct
def fMk (tp : Nat → Nat) (nx sl : Nat) (mk : Nat → Nat) : Nat → Nat := vMk tp (fVp nx sl) sl (fCt tp nx sl) mk
def fNx (tp : Nat → Nat) (nx sl : Nat) : Nat := vNx (fVp nx sl) sl (fCt tp nx sl)
def fLn (tp : Nat → Nat) (nx sl lnb : Nat) : Nat := if fCD sl = 0 then lnb else nmA tp nx (fCD sl) (fCD sl) 0 0
theorem fVp_0 {nx sl : Nat} (h : fCD sl = 0) : fVp nx sl = nx := by unfold fVp; rw [h]; rfl
theorem nmA_lt {tp : Nat → Nat} (ht : ∀ j, tp j < 256) (nx ct : Nat) : ∀ n k acc, nmA tp nx ct n k acc + 1 ≤ (acc + 1) * 16 ^ n
  | 0, _, acc => by show acc + 1 ≤ _; omega
  | n + 1, k, acc => by
    have h1 := nmA_lt ht nx ct n (k + 1) (acc * 10 + hf tp nx (ct % 2 + k))
    have h2 := hf_lt ht nx (ct % 2 + k)
    have h3 : (acc * 10 + hf tp nx (ct % 2 + k) + 1) * 16 ^ n ≤ ((acc + 1) * 16) * 16 ^ n := Nat.mul_le_mul_right _ (by omega)
    show nmA tp nx ct n (k + 1) (acc * 10 + hf tp nx (ct % 2 + k)) + 1 ≤ _
    rw [Nat.pow_succ, Nat.mul_comm (16 ^ n) 16, ← Nat.mul_assoc]
    exact Nat.le_trans h1 h3
theorem nmA_b {tp : Nat → Nat} (ht : ∀ j, tp j < 256) {nx ct : Nat} (h : ct ≤ 4) : nmA tp nx ct ct 0 0 < 65536 := by
  have h1 := nmA_lt ht nx ct ct 0 0
  have h2 : 16 ^ ct ≤ 16 ^ 4 := Nat.pow_le_pow_right (by decide) h
  have h3 : (16 : Nat) ^ 4 = 65536 := rfl
  omega
/-! the maps -/
def anyB (tp : Nat → Nat) : Nat → Nat → Bool
  | 0, _ => false
  | n + 1, i => if tp i = 0 then anyB tp n (i + 1) else true
def mpL (tp : Nat → Nat) (a : Nat) : Nat → Nat → Option (Nat × Nat)
  | 0, _ => none
  | n + 1, j => if tp (a + j) &&& (255 - fKB j) = 0 then mpL tp a n (j + 1) else some (4, a + j)
def wid (tp : Nat → Nat) (a : Nat) : Nat := if tp a < 128 then 8 else 16
def mapsF (tp : Nat → Nat) (len a : Nat) : Option (Nat × Nat) :=
  if len < a + 8 then some (1, len)
  else if tp a < 128 then mpL tp a 8 0
  else if len < a + 16 then some (1, len)
  else match mpL tp a 16 0 with
    | some q => some q
    | none => if anyB tp 8 (a + 8) = true then none else some (4, a + 8)
theorem and_128 : ∀ v, v < 256 → (v &&& 128 = 0 ↔ v < 128) := by decide +kernel
theorem kb_iff : ∀ j, j < 16 → ∀ v, v < 256 → ((nI v &&& (nI (fKB j) ^^^ (-1))) = 0 ↔ v &&& (255 - fKB j) = 0) := by decide +kernel
/-! the whole message -/
def prs (tp : Nat → Nat) (w sl : Nat) : Bool := decide (2 + (fFI sl - 1) / 8 < 2 + w ∧ tp (2 + (fFI sl - 1) / 8) &&& 128 / 2 ^ ((fFI sl - 1) % 8) ≠ 0)
def wkF (tp : Nat → Nat) (len w : Nat) : Nat → Nat → Nat → Option (Nat × Nat)
  | 0, _, nx => if nx = len then none else some (7, nx)
  | n + 1, sl, nx => if prs tp w sl = true then (match fieldF tp len nx sl with
      | some q => some q
      | none => wkF tp len w n (sl + 1) (fNx tp nx sl)) else wkF tp len w n (sl + 1) nx
def wkC (tp : Nat → Nat) (w : Nat) : Nat → Nat → Nat → (Nat → Nat) → (Nat → Nat)
  | 0, _, _, c9 => c9
  | n + 1, sl, nx, c9 => if prs tp w sl = true then wkC tp w n (sl + 1) (fNx tp nx sl) (nup c9 sl (fCt tp nx sl)) else wkC tp w n (sl + 1) nx c9
def wkM (tp : Nat → Nat) (w : Nat) : Nat → Nat → Nat → (Nat → Nat) → (Nat → Nat)
  | 0, _, _, m9 => m9
  | n + 1, sl, nx, m9 => if prs tp w sl = true then wkM tp w n (sl + 1) (fNx tp nx sl) (fMk tp nx sl m9) else wkM tp w n (sl + 1) nx m9
theorem valF_fit {tp : Nat → Nat} {len p sl ct : Nat} (h : valF tp len p sl ct = none) : vNx p sl ct ≤ len := by
  unfold valF at h
  unfold vNx
  split at h
  · rename_i q; rw [if_pos q]; exact dgF_fit h
  · rename_i q; rw [if_neg q]; exact ltF_fit h
theorem fieldF_val {tp : Nat → Nat} {len nx sl : Nat} (h : fieldF tp len nx sl = none) : valF tp len (fVp nx sl) sl (fCt tp nx sl) = none := by
  unfold fieldF at h
  unfold fVp fCt
  split at h
  · rename_i q; rw [if_pos q, q]; exact h
  · rename_i q
    rw [if_neg q]
    split at h
    · cases h
    · split at h
      · cases h
      · exact h
theorem fieldF_fit {tp : Nat → Nat} {len nx sl : Nat} (h : fieldF tp len nx sl = none) : fNx tp nx sl ≤ len := valF_fit (fieldF_val h)
theorem dgC_lt {tp : Nat → Nat} (ht : ∀ j, tp j < 256) (nx ct b : Nat) : ∀ n k (m9 : Nat → Nat), (∀ j, m9 j < 128) → ∀ j, dgC tp nx ct b n k m9 j < 128
  | 0, _, _, h => h
  | n + 1, k, m9, h => dgC_lt ht nx ct b n (k + 1) _ (nup_lt h (Nat.lt_trans (hf_lt ht nx _) (by decide)))
theorem ltC_lt {tp : Nat → Nat} (nx b : Nat) : ∀ n k (m9 : Nat → Nat), ltL tp n (nx + k) = none → (∀ j, m9 j < 128) → ∀ j, ltC tp nx b n k m9 j < 128
  | 0, _, _, _, h => h
  | n + 1, k, m9, hL, h => by
    unfold ltL at hL
    split at hL
    · rename_i q
      exact ltC_lt nx b n (k + 1) _ hL (nup_lt h (isL_lt q))
    · cases hL
theorem fMk_lt {tp : Nat → Nat} (ht : ∀ j, tp j < 256) {len nx sl : Nat} {mk : Nat → Nat} (h : fieldF tp len nx sl = none) (hm : ∀ j, mk j < 128) : ∀ j, fMk tp nx sl mk j < 128 := by
  have hv := fieldF_val h
  unfold valF at hv
  unfold fMk vMk
  split at hv
  · rename_i q; rw [if_pos q]; exact dgC_lt ht _ _ _ _ _ _ hm
  · rename_i q; rw [if_neg q]; exact ltC_lt _ _ _ _ _ (ltF_ok hv) hm
theorem fieldF_num {tp : Nat → Nat} {len nx sl : Nat} (h : fieldF tp len nx sl = none) (q : ¬ fCD sl = 0) : dgF tp len nx (fCD sl) = none ∧ 1 ≤ nmA tp nx (fCD sl) (fCD sl) 0 0 ∧ nmA tp nx (fCD sl) (fCD sl) 0 0 ≤ fMM sl := by
  unfold fieldF at h
  rw [if_neg q] at h
  split at h
  · cases h
  · rename_i e
    split at h
    · cases h
    · rename_i w
      exact ⟨e, by omega, by omega⟩
/-- the three ways to a field's fault -/
theorem fieldF_no {tp : Nat → Nat} {len nx sl k p : Nat} (h : fieldF tp len nx sl = some (k, p)) (q : ¬ fCD sl = 0) :
    dgF tp len nx (fCD sl) = some (k, p) ∨ (dgF tp len nx (fCD sl) = none ∧ (nmA tp nx (fCD sl) (fCD sl) 0 0 < 1 ∨ fMM sl < nmA tp nx (fCD sl) (fCD sl) 0 0) ∧ 5 = k ∧ nx = p) ∨
    (dgF tp len nx (fCD sl) = none ∧ 1 ≤ nmA tp nx (fCD sl) (fCD sl) 0 0 ∧ nmA tp nx (fCD sl) (fCD sl) 0 0 ≤ fMM sl ∧ valF tp len (nx + (fCD sl + 1) / 2) sl (nmA tp nx (fCD sl) (fCD sl) 0 0) = some (k, p)) := by
  unfold fieldF at h
  rw [if_neg q] at h
  split at h
  · rename_i e
    cases h
    exact Or.inl e
  · rename_i e
    split at h
    · rename_i w
      cases h
      exact Or.inr (Or.inl ⟨e, w, rfl, rfl⟩)
    · rename_i w
      exact Or.inr (Or.inr ⟨e, by omega, by omega, h⟩)
