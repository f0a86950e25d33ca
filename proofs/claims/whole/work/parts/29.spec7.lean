/-! the reference's reading as one -/
theorem bit_and : ∀ v, v < 256 → ∀ i, i < 8 → (v &&& 128 / 2 ^ i ≠ 0 ↔ v / 2 ^ (7 - i) % 2 = 1) := by decide +kernel
theorem RSb_prs {tp rs : Nat → Nat} (htp : ∀ j, tp j < 256) {w j : Nat} (hj : j < 16) : RSb tp (8 * w) (zc rs 16) j = if prs tp w j = true then 1 else 0 := by
  have hb := fFI_b j hj
  have h1 : prs tp w j = true ↔ (j < 16 ∧ fFI j ≤ 8 * w ∧ tbit tp (fFI j - 1)) := by
    unfold prs tbit
    rw [decide_eq_true_eq, bit_and _ (htp _) _ (Nat.mod_lt _ (by decide))]
    constructor
    · intro h; exact ⟨hj, by omega, h.2⟩
    · intro h; exact ⟨by omega, h.2.2⟩
  unfold RSb
  by_cases h : prs tp w j = true
  · rw [if_pos h, if_pos (h1.mp h)]
  · rw [if_neg h, if_neg (mt h1.mpr h)]; unfold zc; rw [if_pos hj]
theorem wkR_in {tp : Nat → Nat} {w n sl nx : Nat} {r : Nat → Nat} (hp : prs tp w sl = true) : wkR tp w (n + 1) sl nx r = wkR tp w n (sl + 1) (fNx tp nx sl) (nup r sl (fCt tp nx sl + 1)) := by
  show (if prs tp w sl = true then _ else _) = _
  rw [if_pos hp]
theorem wkR_out {tp : Nat → Nat} {w n sl nx : Nat} {r : Nat → Nat} (hp : ¬ prs tp w sl = true) : wkR tp w (n + 1) sl nx r = wkR tp w n (sl + 1) nx r := by
  show (if prs tp w sl = true then _ else _) = _
  rw [if_neg hp]
theorem wkD_in {tp : Nat → Nat} {w n sl nx : Nat} {r : Nat → Nat} (hp : prs tp w sl = true) : wkD tp w (n + 1) sl nx r = wkD tp w n (sl + 1) (fNx tp nx sl) (fMd tp nx sl r) := by
  show (if prs tp w sl = true then _ else _) = _
  rw [if_pos hp]
theorem wkD_out {tp : Nat → Nat} {w n sl nx : Nat} {r : Nat → Nat} (hp : ¬ prs tp w sl = true) : wkD tp w (n + 1) sl nx r = wkD tp w n (sl + 1) nx r := by
  show (if prs tp w sl = true then _ else _) = _
  rw [if_neg hp]
theorem fieldF_ct {tp : Nat → Nat} {len nx sl : Nat} (h : fieldF tp len nx sl = none) : fCt tp nx sl ≤ fMM sl := by
  unfold fCt
  by_cases q : fCD sl = 0
  · rw [if_pos q]; exact Nat.le_refl _
  · rw [if_neg q]; exact (fieldF_num h q).2.2
theorem wkR_b {tp : Nat → Nat} {len w : Nat} : ∀ n sl nx (r : Nat → Nat), sl + n ≤ 16 → wkF tp len w n sl nx = none → (∀ j, j < 16 → r j ≤ fMM j + 1) → ∀ j, j < 16 → wkR tp w n sl nx r j ≤ fMM j + 1
  | 0, _, _, _, _, _, h => h
  | n + 1, sl, nx, r, hs, hw, h => by
    by_cases hp : prs tp w sl = true
    · obtain ⟨h1, h2⟩ := wkF_in hw hp
      rw [wkR_in hp]
      refine wkR_b n (sl + 1) _ _ (by omega) h2 (fun j hj => ?_)
      unfold nup
      split
      · rename_i q; rw [q]; have := fieldF_ct h1; omega
      · exact h j hj
    · rw [wkR_out hp]
      rw [wkF_out (Bool.eq_false_iff.mpr hp)] at hw
      exact wkR_b n (sl + 1) _ _ (by omega) hw h
theorem RS_b {tp : Nat → Nat} (htp : ∀ j, tp j < 256) {len : Nat} {rs : Nat → Nat} {w nx : Nat} (h : wkF tp len w 16 0 nx = none) : ∀ j, j < 16 → wkR tp w 16 0 nx (RSb tp (8 * w) (zc rs 16)) j ≤ 43 := by
  intro j hj
  have := wkR_b 16 0 nx (RSb tp (8 * w) (zc rs 16)) (by omega) h (fun j hj => by rw [RSb_prs htp hj]; split <;> omega) j hj
  have := (fMM_b j hj).2
  omega
theorem fieldF_k {tp : Nat → Nat} {len nx sl k p : Nat} (h : fieldF tp len nx sl = some (k, p)) : 1 ≤ k ∧ k ≤ 6 := by
  by_cases q : fCD sl = 0
  · unfold fieldF at h; rw [if_pos q] at h; exact valF_k h
  · rcases fieldF_no h q with h1 | ⟨-, -, h1, -⟩ | ⟨-, -, -, h1⟩
    · have := dgF_k h1; omega
    · omega
    · exact valF_k h1
theorem mapsF_k {tp : Nat → Nat} {len k p : Nat} (h : mapsF tp len 2 = some (k, p)) : 1 ≤ k ∧ k ≤ 6 := by
  rcases mapsF_no h with ⟨-, h1, -⟩ | ⟨-, -, h1⟩ | ⟨-, -, -, h1, -⟩ | ⟨-, -, h1⟩ | ⟨-, -, -, -, h1, -⟩
  · omega
  · obtain ⟨i, -, -, h2, -⟩ := mpL_some _ _ h1; omega
  · omega
  · obtain ⟨i, -, -, h2, -⟩ := mpL_some _ _ h1; omega
  · omega
theorem cpI_s (rd : Nat → Nat) (b n j : Nat) (d : Nat → Nat) : cpI rd b (n + 1) j d = cpI rd b n (j + 1) (nup d (b + j) (rd (b + j))) := rfl
/-- what the reference has read -/
noncomputable def mRS (tp rs : Nat → Nat) : Nat → Nat := wkR tp (wid tp 2) 16 0 (2 + wid tp 2) (RSb tp (8 * wid tp 2) (zc rs 16))
def mRD (tp rd : Nat → Nat) : Nat → Nat := wkD tp (wid tp 2) 16 0 (2 + wid tp 2) rd
