theorem mapsF_ok {tp : Nat → Nat} {len a : Nat} (h : mapsF tp len a = none) : a + 8 ≤ len ∧ ((tp a < 128 ∧ mpL tp a 8 0 = none) ∨ (¬ tp a < 128 ∧ a + 16 ≤ len ∧ mpL tp a 16 0 = none ∧ anyB tp 8 (a + 8) = true)) := by
  unfold mapsF at h
  split at h
  · cases h
  · rename_i q1
    split at h
    · rename_i q2; exact ⟨by omega, Or.inl ⟨q2, h⟩⟩
    · rename_i q2
      split at h
      · cases h
      · rename_i q3
        split at h
        · cases h
        · rename_i q4
          split at h
          · rename_i q5; exact ⟨by omega, Or.inr ⟨q2, by omega, q4, q5⟩⟩
          · cases h
theorem mapsF_no {tp : Nat → Nat} {len a k p : Nat} (h : mapsF tp len a = some (k, p)) :
    (len < a + 8 ∧ 1 = k ∧ len = p) ∨ (a + 8 ≤ len ∧ tp a < 128 ∧ mpL tp a 8 0 = some (k, p)) ∨ (a + 8 ≤ len ∧ ¬ tp a < 128 ∧ len < a + 16 ∧ 1 = k ∧ len = p) ∨
    (¬ tp a < 128 ∧ a + 16 ≤ len ∧ mpL tp a 16 0 = some (k, p)) ∨ (¬ tp a < 128 ∧ a + 16 ≤ len ∧ mpL tp a 16 0 = none ∧ anyB tp 8 (a + 8) = false ∧ 4 = k ∧ a + 8 = p) := by
  unfold mapsF at h
  split at h
  · rename_i q1; cases h; exact Or.inl ⟨q1, rfl, rfl⟩
  · rename_i q1
    split at h
    · rename_i q2; exact Or.inr (Or.inl ⟨by omega, q2, h⟩)
    · rename_i q2
      split at h
      · rename_i q3; cases h; exact Or.inr (Or.inr (Or.inl ⟨by omega, q2, q3, rfl, rfl⟩))
      · rename_i q3
        split at h
        · rename_i q4; cases h; exact Or.inr (Or.inr (Or.inr (Or.inl ⟨q2, by omega, q4⟩)))
        · rename_i q4
          split at h
          · cases h
          · rename_i q5; cases h; exact Or.inr (Or.inr (Or.inr (Or.inr ⟨q2, by omega, q4, Bool.eq_false_iff.mpr q5, rfl, rfl⟩)))
theorem lt_and {a b : Nat} (h : b < 2 ^ 31) : a &&& b < 2 ^ 31 := Nat.lt_of_le_of_lt Nat.and_le_right h
def isTy (t : Nat) : Bool := (List.range 17).any (fun i => fTY i == t)
theorem isTy_t {t : Nat} (h : isTy t = true) : ∃ i, i < 17 ∧ fTY i = t := by
  obtain ⟨i, h1, h2⟩ := List.any_eq_true.mp h
  exact ⟨i, List.mem_range.mp h1, beq_iff_eq.mp h2⟩
theorem isTy_f {t : Nat} (h : isTy t = false) : ∀ i, i < 17 → fTY i ≠ t := fun i h1 h2 => by
  have : isTy t = true := List.any_eq_true.mpr ⟨i, List.mem_range.mpr h1, beq_iff_eq.mpr h2⟩
  rw [h] at this
  cases this
/-- the tape's fault -/
def pF (tp : Nat → Nat) (len : Nat) : Option (Nat × Nat) :=
  match dgF tp len 0 4 with
  | some q => some q
  | none => if isTy (nmA tp 0 4 4 0 0) = true then (match mapsF tp len 2 with
      | some q => some q
      | none => wkF tp len (wid tp 2) 16 0 (2 + wid tp 2)) else some (3, 0)
theorem pF_ok {tp : Nat → Nat} {len : Nat} (h : pF tp len = none) : dgF tp len 0 4 = none ∧ isTy (nmA tp 0 4 4 0 0) = true ∧ mapsF tp len 2 = none ∧ wkF tp len (wid tp 2) 16 0 (2 + wid tp 2) = none := by
  unfold pF at h
  split at h
  · cases h
  · rename_i q1
    split at h
    · rename_i q2
      split at h
      · cases h
      · rename_i q3; exact ⟨q1, q2, q3, h⟩
    · cases h
theorem pF_no {tp : Nat → Nat} {len k p : Nat} (h : pF tp len = some (k, p)) : dgF tp len 0 4 = some (k, p) ∨ (dgF tp len 0 4 = none ∧ isTy (nmA tp 0 4 4 0 0) = false ∧ 3 = k ∧ 0 = p) ∨
    (dgF tp len 0 4 = none ∧ isTy (nmA tp 0 4 4 0 0) = true ∧ mapsF tp len 2 = some (k, p)) ∨ (dgF tp len 0 4 = none ∧ isTy (nmA tp 0 4 4 0 0) = true ∧ mapsF tp len 2 = none ∧ wkF tp len (wid tp 2) 16 0 (2 + wid tp 2) = some (k, p)) := by
  unfold pF at h
  split at h
  · rename_i q1; cases h; exact Or.inl q1
  · rename_i q1
    split at h
    · rename_i q2
      split at h
      · rename_i q3; cases h; exact Or.inr (Or.inr (Or.inl ⟨q1, q2, q3⟩))
      · rename_i q3; exact Or.inr (Or.inr (Or.inr ⟨q1, q2, q3, h⟩))
    · rename_i q2; cases h; exact Or.inr (Or.inl ⟨q1, Bool.eq_false_iff.mpr q2, rfl, rfl⟩)
theorem mapsF_fit {tp : Nat → Nat} {len a : Nat} (h : mapsF tp len a = none) : a + wid tp a ≤ len := by
  obtain ⟨h1, ⟨h2, -⟩ | ⟨h2, h3, -⟩⟩ := mapsF_ok h
  · unfold wid; rw [if_pos h2]; omega
  · unfold wid; rw [if_neg h2]; omega
theorem wid_le (tp : Nat → Nat) (a : Nat) : wid tp a ≤ 16 := by unfold wid; split <;> omega
theorem wkF_in {tp : Nat → Nat} {len w n sl nx : Nat} (h : wkF tp len w (n + 1) sl nx = none) (hp : prs tp w sl = true) : fieldF tp len nx sl = none ∧ wkF tp len w n (sl + 1) (fNx tp nx sl) = none := by
  unfold wkF at h
  rw [if_pos hp] at h
  split at h
  · cases h
  · rename_i q; exact ⟨q, h⟩
theorem wkF_inN {tp : Nat → Nat} {len w n sl nx k p : Nat} (h : wkF tp len w (n + 1) sl nx = some (k, p)) (hp : prs tp w sl = true) : fieldF tp len nx sl = some (k, p) ∨ (fieldF tp len nx sl = none ∧ wkF tp len w n (sl + 1) (fNx tp nx sl) = some (k, p)) := by
  unfold wkF at h
  rw [if_pos hp] at h
  split at h
  · rename_i q; cases h; exact Or.inl q
  · rename_i q; exact Or.inr ⟨q, h⟩
theorem wkF_out {tp : Nat → Nat} {len w n sl nx : Nat} (hp : prs tp w sl = false) : wkF tp len w (n + 1) sl nx = wkF tp len w n (sl + 1) nx := by
  show (if prs tp w sl = true then _ else _) = _
  rw [hp]
  rfl
theorem wkC_in {tp : Nat → Nat} {w n sl nx : Nat} {c9 : Nat → Nat} (hp : prs tp w sl = true) : wkC tp w (n + 1) sl nx c9 = wkC tp w n (sl + 1) (fNx tp nx sl) (nup c9 sl (fCt tp nx sl)) := by
  show (if prs tp w sl = true then _ else _) = _
  rw [if_pos hp]
theorem wkC_out {tp : Nat → Nat} {w n sl nx : Nat} {c9 : Nat → Nat} (hp : prs tp w sl = false) : wkC tp w (n + 1) sl nx c9 = wkC tp w n (sl + 1) nx c9 := by
  show (if prs tp w sl = true then _ else _) = _
  rw [hp]
  rfl
theorem wkM_in {tp : Nat → Nat} {w n sl nx : Nat} {m9 : Nat → Nat} (hp : prs tp w sl = true) : wkM tp w (n + 1) sl nx m9 = wkM tp w n (sl + 1) (fNx tp nx sl) (fMk tp nx sl m9) := by
  show (if prs tp w sl = true then _ else _) = _
  rw [if_pos hp]
theorem wkM_out {tp : Nat → Nat} {w n sl nx : Nat} {m9 : Nat → Nat} (hp : prs tp w sl = false) : wkM tp w (n + 1) sl nx m9 = wkM tp w n (sl + 1) nx m9 := by
  show (if prs tp w sl = true then _ else _) = _
  rw [hp]
  rfl
theorem bit_lt (x : Nat) : 128 / 2 ^ x < 2 ^ 31 := Nat.lt_of_le_of_lt (Nat.div_le_self _ _) (by decide)
