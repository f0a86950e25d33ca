/-! the maps by their bits -/
def tbit (tp : Nat → Nat) (b : Nat) : Prop := tp (2 + b / 8) / 2 ^ (7 - b % 8) % 2 = 1
def kno (b : Nat) : Prop := ∃ k, k < 16 ∧ fFI k = b + 1
theorem kb_bits : ∀ j, j < 16 → ∀ v, v < 256 → (v &&& (255 - fKB j) = 0 ↔ ∀ i, i < 8 → v / 2 ^ (7 - i) % 2 = 1 → (8 * j + i = 0 ∨ ∃ k, k < 16 ∧ fFI k = 8 * j + i + 1)) := by decide +kernel
theorem v_bits : ∀ v, v < 256 → v ≠ 0 → ∃ i, i < 8 ∧ v / 2 ^ (7 - i) % 2 = 1 := by decide +kernel
theorem mpL_none {tp : Nat → Nat} : ∀ n j, mpL tp 2 n j = none → ∀ i, j ≤ i → i < j + n → tp (2 + i) &&& (255 - fKB i) = 0
  | 0, j, _, i, h1, h2 => absurd h2 (by omega)
  | n + 1, j, h, i, h1, h2 => by
    unfold mpL at h
    split at h
    · rename_i q
      rcases Nat.lt_or_ge j i with h3 | h3
      · exact mpL_none n (j + 1) h i (by omega) (by omega)
      · rw [show i = j by omega]; exact q
    · cases h
theorem mpL_some {tp : Nat → Nat} {k p : Nat} : ∀ n j, mpL tp 2 n j = some (k, p) → ∃ i, j ≤ i ∧ i < j + n ∧ 4 = k ∧ 2 + i = p ∧ tp (2 + i) &&& (255 - fKB i) ≠ 0 ∧ ∀ z, j ≤ z → z < i → tp (2 + z) &&& (255 - fKB z) = 0
  | 0, j, h => by cases h
  | n + 1, j, h => by
    unfold mpL at h
    split at h
    · rename_i q
      obtain ⟨i, h1, h2, h3, h4, h5, h6⟩ := mpL_some n (j + 1) h
      refine ⟨i, by omega, by omega, h3, h4, h5, fun z z1 z2 => ?_⟩
      rcases Nat.lt_or_ge j z with h7 | h7
      · exact h6 z (by omega) z2
      · rw [show z = j by omega]; exact q
    · rename_i q
      cases h
      exact ⟨j, by omega, by omega, rfl, rfl, q, fun z z1 z2 => absurd z2 (by omega)⟩
theorem kno_of {tp : Nat → Nat} (ht : ∀ j, tp j < 256) {b : Nat} (hb : 1 ≤ b) (h8 : b / 8 < 16) (h : tp (2 + b / 8) &&& (255 - fKB (b / 8)) = 0) (hs : tbit tp b) : kno b := by
  rcases (kb_bits (b / 8) h8 _ (ht _)).mp h (b % 8) (by omega) hs with q | ⟨k, h1, h2⟩
  · exact absurd q (by omega)
  · exact ⟨k, h1, by omega⟩
theorem unk_of {tp : Nat → Nat} (ht : ∀ j, tp j < 256) {j : Nat} (h8 : j < 16) (h : tp (2 + j) &&& (255 - fKB j) ≠ 0) : ∃ b, b / 8 = j ∧ 1 ≤ b ∧ tbit tp b ∧ ¬ kno b := by
  have h1 := mt (kb_bits j h8 _ (ht (2 + j))).mpr h
  have h2 : ∃ i, i < 8 ∧ tp (2 + j) / 2 ^ (7 - i) % 2 = 1 ∧ ¬ (8 * j + i = 0 ∨ ∃ k, k < 16 ∧ fFI k = 8 * j + i + 1) := by
    apply Decidable.byContradiction
    intro q
    exact h1 (fun i hi hs => Decidable.byContradiction fun z => q ⟨i, hi, hs, z⟩)
  obtain ⟨i, hi, hs, hn⟩ := h2
  refine ⟨8 * j + i, by omega, ?_, ?_, fun ⟨k, k1, k2⟩ => hn (Or.inr ⟨k, k1, k2⟩)⟩
  · exact Nat.pos_of_ne_zero fun z => hn (Or.inl z)
  · unfold tbit
    rw [show (8 * j + i) / 8 = j by omega, show (8 * j + i) % 8 = i by omega]
    exact hs
theorem anyB_t {tp : Nat → Nat} : ∀ n i, anyB tp n i = true → ∃ j, i ≤ j ∧ j < i + n ∧ tp j ≠ 0
  | 0, i, h => by cases h
  | n + 1, i, h => by
    unfold anyB at h
    split at h
    · obtain ⟨j, h1, h2, h3⟩ := anyB_t n (i + 1) h
      exact ⟨j, by omega, by omega, h3⟩
    · rename_i q; exact ⟨i, by omega, by omega, q⟩
theorem anyB_f {tp : Nat → Nat} : ∀ n i, anyB tp n i = false → ∀ j, i ≤ j → j < i + n → tp j = 0
  | 0, i, _, j, h1, h2 => absurd h2 (by omega)
  | n + 1, i, h, j, h1, h2 => by
    unfold anyB at h
    split at h
    · rename_i q
      rcases Nat.lt_or_ge i j with h3 | h3
      · exact anyB_f n (i + 1) h j (by omega) (by omega)
      · rw [show j = i by omega]; exact q
    · cases h
theorem any_bit {tp : Nat → Nat} (ht : ∀ j, tp j < 256) (h : anyB tp 8 10 = true) : ∃ b, 64 ≤ b ∧ b < 128 ∧ tbit tp b := by
  obtain ⟨j, h1, h2, h3⟩ := anyB_t 8 10 h
  obtain ⟨i, h4, h5⟩ := v_bits (tp j) (ht j) h3
  refine ⟨8 * (j - 2) + i, by omega, by omega, ?_⟩
  unfold tbit
  rw [show 2 + (8 * (j - 2) + i) / 8 = j by omega, show (8 * (j - 2) + i) % 8 = i by omega]
  exact h5
theorem no_bit {tp : Nat → Nat} (h : anyB tp 8 10 = false) {b : Nat} (h1 : 64 ≤ b) (h2 : b < 128) : ¬ tbit tp b := by
  unfold tbit
  rw [anyB_f 8 10 h (2 + b / 8) (by omega) (by omega), Nat.zero_div]
  decide
noncomputable def RSb (tp : Nat → Nat) (b : Nat) (r : Nat → Nat) : Nat → Nat := fun j => @ite Nat (j < 16 ∧ fFI j ≤ b ∧ tbit tp (fFI j - 1)) (Classical.propDecidable _) 1 (r j)
theorem RSb_1 (tp r : Nat → Nat) : r = RSb tp 1 r := by
  funext j
  unfold RSb
  rw [if_neg (fun h => ?_)]
  have := (fFI_b j h.1).1
  omega
theorem RSb_set {tp r : Nat → Nat} {b k : Nat} (hk : k < 16) (hf : fFI k = b + 1) (hs : tbit tp b) : nup (RSb tp b r) k (0 + 1) = RSb tp (b + 1) r := by
  funext j
  unfold nup RSb
  by_cases hj : j = k
  · subst hj
    rw [if_pos rfl, if_pos ⟨hk, by omega, by rw [hf]; exact hs⟩]
  · rw [if_neg hj]
    by_cases h1 : j < 16 ∧ fFI j ≤ b ∧ tbit tp (fFI j - 1)
    · rw [if_pos h1, if_pos ⟨h1.1, by omega, h1.2.2⟩]
    · rw [if_neg h1, if_neg (fun h => h1 ⟨h.1, ?_, h.2.2⟩)]
      have : fFI j ≠ b + 1 := fun z => hj (fFI_inj j h.1 k hk (by omega))
      omega
theorem RSb_skip {tp r : Nat → Nat} {b : Nat} (hs : ¬ tbit tp b) : RSb tp b r = RSb tp (b + 1) r := by
  funext j
  unfold RSb
  by_cases h1 : j < 16 ∧ fFI j ≤ b ∧ tbit tp (fFI j - 1)
  · rw [if_pos h1, if_pos ⟨h1.1, by omega, h1.2.2⟩]
  · rw [if_neg h1, if_neg (fun h => h1 ⟨h.1, ?_, h.2.2⟩)]
    have : fFI j ≠ b + 1 := fun z => hs (by have := h.2.2; rw [z] at this; exact this)
    omega
theorem dgF_k {tp : Nat → Nat} {len nx ct k p : Nat} (h : dgF tp len nx ct = some (k, p)) : 1 ≤ k ∧ k ≤ 2 := by
  unfold dgF at h
  split at h
  · cases h; omega
  · have : ∀ n j, dgL tp nx (ct % 2) n j = some (k, p) → k = 2 := by
      intro n
      induction n with
      | zero => intro j h; cases h
      | succ n ih =>
        intro j h
        have h : (if (if j < ct % 2 then 0 else 9) < hf tp nx j then some (2, nx + j / 2) else dgL tp nx (ct % 2) n (j + 1)) = some (k, p) := h
        by_cases q : (if j < ct % 2 then 0 else 9) < hf tp nx j
        · rw [if_pos q] at h; cases h; rfl
        · rw [if_neg q] at h; exact ih _ h
    have := this _ _ h
    omega
theorem ltF_k {tp : Nat → Nat} {len nx ct k p : Nat} (h : ltF tp len nx ct = some (k, p)) : 1 ≤ k ∧ k ≤ 6 := by
  unfold ltF at h
  split at h
  · cases h; omega
  · have : ∀ n j, ltL tp n j = some (k, p) → k = 6 := by
      intro n
      induction n with
      | zero => intro j h; cases h
      | succ n ih =>
        intro j h
        unfold ltL at h
        split at h
        · exact ih _ h
        · cases h; rfl
    have := this _ _ h
    omega
theorem valF_k {tp : Nat → Nat} {len p sl ct k q : Nat} (h : valF tp len p sl ct = some (k, q)) : 1 ≤ k ∧ k ≤ 6 := by
  unfold valF at h
  split at h
  · have := dgF_k h; omega
  · exact ltF_k h
theorem nm_2 {tp fw : Nat → Nat} {nx : Nat} : 10 * dgC tp nx 2 0 2 0 fw 0 + dgC tp nx 2 0 2 0 fw 1 = nmA tp nx 2 2 0 0 := by
  show 10 * nup (nup fw (0 + 0) (hf tp nx (2 % 2 + 0))) (0 + 1) (hf tp nx (2 % 2 + 1)) 0 + nup (nup fw (0 + 0) (hf tp nx (2 % 2 + 0))) (0 + 1) (hf tp nx (2 % 2 + 1)) 1 = (0 * 10 + hf tp nx (2 % 2 + 0)) * 10 + hf tp nx (2 % 2 + 1)
  simp [nup]
  omega
theorem nm_3 {tp fw : Nat → Nat} {nx : Nat} : 100 * dgC tp nx 3 0 3 0 fw 0 + 10 * dgC tp nx 3 0 3 0 fw 1 + dgC tp nx 3 0 3 0 fw 2 = nmA tp nx 3 3 0 0 := by
  show 100 * nup (nup (nup fw (0 + 0) (hf tp nx (3 % 2 + 0))) (0 + 1) (hf tp nx (3 % 2 + 1))) (0 + 2) (hf tp nx (3 % 2 + 2)) 0 + 10 * nup (nup (nup fw (0 + 0) (hf tp nx (3 % 2 + 0))) (0 + 1) (hf tp nx (3 % 2 + 1))) (0 + 2) (hf tp nx (3 % 2 + 2)) 1 + nup (nup (nup fw (0 + 0) (hf tp nx (3 % 2 + 0))) (0 + 1) (hf tp nx (3 % 2 + 1))) (0 + 2) (hf tp nx (3 % 2 + 2)) 2 = ((0 * 10 + hf tp nx (3 % 2 + 0)) * 10 + hf tp nx (3 % 2 + 1)) * 10 + hf tp nx (3 % 2 + 2)
  simp [nup]
  omega
theorem nm_4 {tp fw : Nat → Nat} {nx : Nat} : 1000 * dgC tp nx 4 0 4 0 fw 0 + 100 * dgC tp nx 4 0 4 0 fw 1 + 10 * dgC tp nx 4 0 4 0 fw 2 + dgC tp nx 4 0 4 0 fw 3 = nmA tp nx 4 4 0 0 := by
  show 1000 * nup (nup (nup (nup fw (0 + 0) (hf tp nx (4 % 2 + 0))) (0 + 1) (hf tp nx (4 % 2 + 1))) (0 + 2) (hf tp nx (4 % 2 + 2))) (0 + 3) (hf tp nx (4 % 2 + 3)) 0 + 100 * nup (nup (nup (nup fw (0 + 0) (hf tp nx (4 % 2 + 0))) (0 + 1) (hf tp nx (4 % 2 + 1))) (0 + 2) (hf tp nx (4 % 2 + 2))) (0 + 3) (hf tp nx (4 % 2 + 3)) 1 + 10 * nup (nup (nup (nup fw (0 + 0) (hf tp nx (4 % 2 + 0))) (0 + 1) (hf tp nx (4 % 2 + 1))) (0 + 2) (hf tp nx (4 % 2 + 2))) (0 + 3) (hf tp nx (4 % 2 + 3)) 2 + nup (nup (nup (nup fw (0 + 0) (hf tp nx (4 % 2 + 0))) (0 + 1) (hf tp nx (4 % 2 + 1))) (0 + 2) (hf tp nx (4 % 2 + 2))) (0 + 3) (hf tp nx (4 % 2 + 3)) 3 = (((0 * 10 + hf tp nx (4 % 2 + 0)) * 10 + hf tp nx (4 % 2 + 1)) * 10 + hf tp nx (4 % 2 + 2)) * 10 + hf tp nx (4 % 2 + 3)
  simp [nup]
  omega
/-- a field's value, the reference's way -/
def fMd (tp : Nat → Nat) (nx k : Nat) (rd : Nat → Nat) : Nat → Nat := if fHL k = 0 then dgC tp (fVp nx k) (fCt tp nx k) (42 * k) (fCt tp nx k) 0 rd else ltCM tp (fVp nx k) (42 * k) (fCt tp nx k) 0 rd
def wkR (tp : Nat → Nat) (w : Nat) : Nat → Nat → Nat → (Nat → Nat) → (Nat → Nat)
  | 0, _, _, r => r
  | n + 1, sl, nx, r => if prs tp w sl = true then wkR tp w n (sl + 1) (fNx tp nx sl) (nup r sl (fCt tp nx sl + 1)) else wkR tp w n (sl + 1) nx r
def wkD (tp : Nat → Nat) (w : Nat) : Nat → Nat → Nat → (Nat → Nat) → (Nat → Nat)
  | 0, _, _, d => d
  | n + 1, sl, nx, d => if prs tp w sl = true then wkD tp w n (sl + 1) (fNx tp nx sl) (fMd tp nx sl d) else wkD tp w n (sl + 1) nx d
theorem pm_eq0 {a : Nat} (h : a < 2 ^ 30) : pm a = 0 ↔ a = 1 := by
  cases a with
  | zero => decide
  | succ b => rw [pm_s, show (0 : Int32) = nI 0 from rfl, nI_eq (by omega) (by decide)]; omega
theorem cp_s (f g : Nat → Nat) (k : Nat) : nup (cp f g k) k (f k) = cp f g (k + 1) := by
  funext j
  unfold nup cp
  by_cases h : j = k
  · subst h; rw [if_pos rfl, if_pos (by omega)]
  · rw [if_neg h]
    by_cases h2 : j < k
    · rw [if_pos h2, if_pos (by omega)]
    · rw [if_neg h2, if_neg (by omega)]
theorem cp_0 (f g : Nat → Nat) : g = cp f g 0 := by funext j; simp [cp]
def cpI (rd : Nat → Nat) (b : Nat) : Nat → Nat → (Nat → Nat) → (Nat → Nat)
  | 0, _, d => d
  | n + 1, j, d => cpI rd b n (j + 1) (nup d (b + j) (rd (b + j)))
def cpD (rs rd : Nat → Nat) : Nat → Nat → (Nat → Nat) → (Nat → Nat)
  | 0, _, d => d
  | n + 1, k, d => cpD rs rd n (k + 1) (cpI rd (42 * k) (rs k - 1) 0 d)
