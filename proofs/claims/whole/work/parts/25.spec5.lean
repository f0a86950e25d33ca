theorem isL_or {v : Nat} (h : isL v = true) : (48 ≤ v ∧ v ≤ 57) ∨ (65 ≤ v ∧ v ≤ 90) := by
  simp only [isL, Bool.or_eq_true, Bool.and_eq_true, decide_eq_true_eq] at h
  exact h
theorem isL_no {v : Nat} (h : isL v = false) : ¬ ((48 ≤ v ∧ v ≤ 57) ∨ (65 ≤ v ∧ v ≤ 90)) := by
  simp only [isL, Bool.or_eq_false_iff, Bool.and_eq_false_iff, decide_eq_false_iff_not] at h
  omega
/-- what the reference's compose lays -/
def mT (g dr : Nat → Nat) (ty : Nat) (tp : Nat → Nat) : Nat → Nat :=
  if s2L g 16 0 = true then wrT g dr 16 0 18 (nup (apl (apl tp 0 (anb ty 4)) 2 (List.replicate 16 0)) 2 128) else wrT g dr 16 0 10 (nup (apl (apl tp 0 (anb ty 4)) 2 (List.replicate 8 0)) 2 0)
def mN (g dr : Nat → Nat) : Nat := if s2L g 16 0 = true then wrQ g dr 16 0 18 else wrQ g dr 16 0 10
