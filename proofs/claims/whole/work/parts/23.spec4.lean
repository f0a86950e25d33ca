/-! the reference's bytes and its reading -/
def lBM (f : Nat → Nat) (b : Nat) : Nat → Nat → List Nat
  | 0, _ => []
  | n + 1, k => (if f (b + k) < 10 then 48 + f (b + k) else 55 + f (b + k)) :: lBM f b n (k + 1)
theorem lBM_len (f : Nat → Nat) (b : Nat) : ∀ n k, (lBM f b n k).length = n
  | 0, _ => rfl
  | n + 1, k => by
    show (lBM f b n (k + 1)).length + 1 = n + 1
    rw [lBM_len f b n (k + 1)]
def fldM (dr : Nat → Nat) (k n : Nat) : List Nat := (if fCD k = 0 then [] else anb n (fCD k)) ++ (if fHL k = 0 then dgB dr (42 * k) n else lBM dr (42 * k) n 0)
theorem ds_at (f : Nat → Nat) (b : Nat) : ∀ n v i, i < n → ds f b n v (b + i) = v / 10 ^ (n - 1 - i) % 10
  | 0, _, _, h => absurd h (Nat.not_lt_zero _)
  | n + 1, v, i, h => by
    show ds (nup f (b + n) (v % 10)) b n (v / 10) (b + i) = _
    rcases Nat.lt_or_ge i n with q | q
    · rw [ds_at _ b n (v / 10) i q, Nat.div_div_eq_div_mul, show n + 1 - 1 - i = (n - 1 - i) + 1 by omega, Nat.pow_succ, Nat.mul_comm]
    · obtain rfl : i = n := by omega
      rw [ds_out _ b i (v / 10) (b + i) (by omega), nup_s, show i + 1 - 1 - i = 0 by omega, Nat.pow_zero, Nat.div_one]
where
  ds_out (f : Nat → Nat) (b : Nat) : ∀ n v j, (j < b ∨ b + n ≤ j) → ds f b n v j = f j
    | 0, _, _, _ => rfl
    | n + 1, v, j, h => by
      show ds (nup f (b + n) (v % 10)) b n (v / 10) j = _
      rw [ds_out _ b n (v / 10) j (by omega), nup_n (by omega)]
theorem pk4 (fw : Nat → Nat) {v : Nat} (h : v < 10000) : dgB (ds fw 0 4 v) 0 4 = anb v 4 := by
  have h0 := ds_at fw 0 4 v 0 (by decide)
  have h1 := ds_at fw 0 4 v 1 (by decide)
  have h2 := ds_at fw 0 4 v 2 (by decide)
  have h3 := ds_at fw 0 4 v 3 (by decide)
  simp only [Nat.zero_add] at h0 h1 h2 h3
  show [ds fw 0 4 v (0 + 0) * 16 + ds fw 0 4 v (0 + (0 + 1)), ds fw 0 4 v (0 + (0 + 2)) * 16 + ds fw 0 4 v (0 + (0 + 2 + 1))] = [_, _]
  simp only [Nat.zero_add, Nat.reduceAdd, h0, h1, h2, h3]
  simp
theorem pk2 (fw : Nat → Nat) (v : Nat) : dgB (ds fw 0 2 v) 0 2 = anb v 2 := by
  have h0 := ds_at fw 0 2 v 0 (by decide)
  have h1 := ds_at fw 0 2 v 1 (by decide)
  simp only [Nat.zero_add] at h0 h1
  show [ds fw 0 2 v (0 + 0) * 16 + ds fw 0 2 v (0 + (0 + 1))] = [_]
  simp only [Nat.zero_add, h0, h1]
  simp
theorem pk3 (fw : Nat → Nat) {v : Nat} (h : v < 1000) : dgB (ds fw 0 3 v) 0 3 = anb v 3 := by
  have h0 := ds_at fw 0 3 v 0 (by decide)
  have h1 := ds_at fw 0 3 v 1 (by decide)
  have h2 := ds_at fw 0 3 v 2 (by decide)
  simp only [Nat.zero_add] at h0 h1 h2
  show [0 * 16 + ds fw 0 3 v (0 + 0), ds fw 0 3 v (0 + 1) * 16 + ds fw 0 3 v (0 + (1 + 1))] = [_, _]
  simp only [Nat.zero_add, Nat.reduceAdd, h0, h1, h2]
  have : v / 1000 = 0 := by omega
  simp [this]
/-- the reference's write: maps and fields in one go -/
def wrT (g dr : Nat → Nat) : Nat → Nat → Nat → (Nat → Nat) → (Nat → Nat)
  | 0, _, _, f => f
  | n + 1, k, q, f => if g k = 0 then wrT g dr n (k + 1) q f else wrT g dr n (k + 1) (q + (fldM dr k (g k - 1)).length) (apl (nup f (2 + (fFI k - 1) / 8) (f (2 + (fFI k - 1) / 8) + 128 / 2 ^ ((fFI k - 1) % 8))) q (fldM dr k (g k - 1)))
def wrQ (g dr : Nat → Nat) : Nat → Nat → Nat → Nat
  | 0, _, q => q
  | n + 1, k, q => if g k = 0 then wrQ g dr n (k + 1) q else wrQ g dr n (k + 1) (q + (fldM dr k (g k - 1)).length)
theorem fldM_le {dr : Nat → Nat} {k n : Nat} (h : n ≤ fMM k) : (fldM dr k n).length ≤ mxl k := by
  unfold fldM mxl
  rw [List.length_append]
  have h1 : (if fCD k = 0 then [] else anb n (fCD k)).length = if fCD k = 0 then 0 else (if (fCD k + 1) / 2 = 2 then 2 else 1) := by
    split
    · rfl
    · exact anb_len _ _
  have h2 : (if fHL k = 0 then dgB dr (42 * k) n else lBM dr (42 * k) n 0).length ≤ if fHL k = 0 then (fMM k + 1) / 2 else fMM k := by
    split
    · rw [dgB_len]; omega
    · rw [lBM_len]; exact h
  omega
theorem hf_e (tp : Nat → Nat) (nx kb : Nat) : hf tp nx (2 * kb) = tp (nx + kb) / 16 := by
  unfold hf
  rw [if_pos (by omega), show 2 * kb / 2 = kb by omega]
theorem hf_o (tp : Nat → Nat) (nx kb : Nat) : hf tp nx (2 * kb + 1) = tp (nx + kb) % 16 := by
  unfold hf
  rw [if_neg (by omega), show (2 * kb + 1) / 2 = kb by omega]
theorem dgL_two {tp : Nat → Nat} {nx odd n h : Nat} (q : dgL tp nx odd (n + 2) h = none) : ¬ (if h < odd then 0 else 9) < hf tp nx h ∧ ¬ (if h + 1 < odd then 0 else 9) < hf tp nx (h + 1) ∧ dgL tp nx odd n (h + 2) = none := by
  have q : (if (if h < odd then 0 else 9) < hf tp nx h then some (2, nx + h / 2) else (if (if h + 1 < odd then 0 else 9) < hf tp nx (h + 1) then some (2, nx + (h + 1) / 2) else dgL tp nx odd n (h + 1 + 1))) = none := q
  by_cases q1 : (if h < odd then 0 else 9) < hf tp nx h
  · rw [if_pos q1] at q; cases q
  · rw [if_neg q1] at q
    by_cases q2 : (if h + 1 < odd then 0 else 9) < hf tp nx (h + 1)
    · rw [if_pos q2] at q; cases q
    · rw [if_neg q2] at q; exact ⟨q1, q2, q⟩
theorem dgL_twoN {tp : Nat → Nat} {nx odd n h k p : Nat} (q : dgL tp nx odd (n + 2) h = some (k, p)) :
    (((if h < odd then 0 else 9) < hf tp nx h) ∧ 2 = k ∧ nx + h / 2 = p) ∨ (¬ ((if h < odd then 0 else 9) < hf tp nx h) ∧ ((if h + 1 < odd then 0 else 9) < hf tp nx (h + 1)) ∧ 2 = k ∧ nx + (h + 1) / 2 = p) ∨
    (¬ ((if h < odd then 0 else 9) < hf tp nx h) ∧ ¬ ((if h + 1 < odd then 0 else 9) < hf tp nx (h + 1)) ∧ dgL tp nx odd n (h + 2) = some (k, p)) := by
  have q : (if (if h < odd then 0 else 9) < hf tp nx h then some (2, nx + h / 2) else (if (if h + 1 < odd then 0 else 9) < hf tp nx (h + 1) then some (2, nx + (h + 1) / 2) else dgL tp nx odd n (h + 1 + 1))) = some (k, p) := q
  by_cases q1 : (if h < odd then 0 else 9) < hf tp nx h
  · rw [if_pos q1] at q; cases q; exact Or.inl ⟨q1, rfl, rfl⟩
  · rw [if_neg q1] at q
    by_cases q2 : (if h + 1 < odd then 0 else 9) < hf tp nx (h + 1)
    · rw [if_pos q2] at q; cases q; exact Or.inr (Or.inl ⟨q1, q2, rfl, rfl⟩)
    · rw [if_neg q2] at q; exact Or.inr (Or.inr ⟨q1, q2, q⟩)
theorem dgC_byte {tp : Nat → Nat} {nx ct b kb : Nat} (f : Nat → Nat) (h1 : ct % 2 ≤ 2 * kb) (h2 : 2 * kb + 2 ≤ ct % 2 + ct) :
    dgC tp nx ct b (ct - (2 * kb - ct % 2)) (2 * kb - ct % 2) f = dgC tp nx ct b (ct - (2 * (kb + 1) - ct % 2)) (2 * (kb + 1) - ct % 2) (nup (nup f (b + 2 * kb - ct % 2) (tp (nx + kb) / 16)) (b + 2 * kb + 1 - ct % 2) (tp (nx + kb) % 16)) := by
  rw [show ct - (2 * kb - ct % 2) = ct - (2 * (kb + 1) - ct % 2) + 1 + 1 by omega]
  show dgC tp nx ct b _ (2 * kb - ct % 2 + 1 + 1) (nup (nup f (b + (2 * kb - ct % 2)) (hf tp nx (ct % 2 + (2 * kb - ct % 2)))) (b + (2 * kb - ct % 2 + 1)) (hf tp nx (ct % 2 + (2 * kb - ct % 2 + 1)))) = _
  rw [show ct % 2 + (2 * kb - ct % 2) = 2 * kb by omega, show ct % 2 + (2 * kb - ct % 2 + 1) = 2 * kb + 1 by omega, hf_e, hf_o, show 2 * kb - ct % 2 + 1 + 1 = 2 * (kb + 1) - ct % 2 by omega,
    show b + (2 * kb - ct % 2) = b + 2 * kb - ct % 2 by omega, show b + (2 * kb - ct % 2 + 1) = b + 2 * kb + 1 - ct % 2 by omega]
theorem dgC_front {tp : Nat → Nat} {nx ct b : Nat} (f : Nat → Nat) (h1 : ct % 2 = 1) :
    dgC tp nx ct b (ct - (2 * 0 - ct % 2)) (2 * 0 - ct % 2) f = dgC tp nx ct b (ct - (2 * (0 + 1) - ct % 2)) (2 * (0 + 1) - ct % 2) (nup f (b + 2 * 0 + 1 - ct % 2) (tp (nx + 0) % 16)) := by
  rw [h1, show ct - (2 * 0 - 1) = ct - (2 * (0 + 1) - 1) + 1 by omega]
  show dgC tp nx ct b _ (2 * 0 - 1 + 1) (nup f (b + (2 * 0 - 1)) (hf tp nx (ct % 2 + (2 * 0 - 1)))) = _
  rw [h1, show 1 + (2 * 0 - 1) = 2 * 0 + 1 by omega, hf_o]
  rfl
def lnum (b : Nat) : Nat := if b < 58 then b - 48 else b - 55
def ltCM (tp : Nat → Nat) (nx b : Nat) : Nat → Nat → (Nat → Nat) → (Nat → Nat)
  | 0, _, f => f
  | n + 1, k, f => ltCM tp nx b n (k + 1) (nup f (b + k) (lnum (tp (nx + k))))
theorem isTy_or {t : Nat} : isTy t = true ↔ (t = 100 ∨ t = 101 ∨ t = 110 ∨ t = 220 ∨ t = 221 ∨ t = 230 ∨ t = 400 ∨ t = 401 ∨ t = 410 ∨ t = 420 ∨ t = 421 ∨ t = 430 ∨ t = 500 ∨ t = 501 ∨ t = 510 ∨ t = 800 ∨ t = 810) := by
  constructor
  · intro h
    obtain ⟨i, h1, h2⟩ := isTy_t h
    have h3 : ∀ i, i < 17 → (fTY i = 100 ∨ fTY i = 101 ∨ fTY i = 110 ∨ fTY i = 220 ∨ fTY i = 221 ∨ fTY i = 230 ∨ fTY i = 400 ∨ fTY i = 401 ∨ fTY i = 410 ∨ fTY i = 420 ∨ fTY i = 421 ∨ fTY i = 430 ∨ fTY i = 500 ∨ fTY i = 501 ∨ fTY i = 510 ∨ fTY i = 800 ∨ fTY i = 810) := by decide
    have h4 := h3 i h1
    rw [h2] at h4
    exact h4
  · intro h
    rcases h with rfl | rfl | rfl | rfl | rfl | rfl | rfl | rfl | rfl | rfl | rfl | rfl | rfl | rfl | rfl | rfl | rfl <;> decide
