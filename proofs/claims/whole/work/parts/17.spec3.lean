theorem pB_len (mk : Nat → Nat) (b : Nat) : ∀ n k, (pB mk b n k).length = n
  | 0, _ => rfl
  | n + 1, k => by
    show (pB mk b n (k + 2)).length + 1 = n + 1
    rw [pB_len mk b n (k + 2)]
theorem dgB_len (mk : Nat → Nat) (b ct : Nat) : (dgB mk b ct).length = (ct + 1) / 2 := by
  unfold dgB
  rw [List.length_append, pB_len]
  split
  · show 0 + _ = _; omega
  · show 1 + _ = _; omega
theorem anb_len (v dc : Nat) : (anb v dc).length = if (dc + 1) / 2 = 2 then 2 else 1 := by
  unfold anb
  split <;> rfl
theorem anb_le (v dc : Nat) : (anb v dc).length ≤ 2 := by rw [anb_len]; split <;> omega
def mxl (sl : Nat) : Nat := (if fCD sl = 0 then 0 else (if (fCD sl + 1) / 2 = 2 then 2 else 1)) + (if fHL sl = 0 then (fMM sl + 1) / 2 else fMM sl)
/-- how many bytes the fields from sl on have at most -/
def fRM : Nat → Nat := tl [144, 133, 130, 124, 121, 114, 102, 96, 94, 86, 84, 42, 40, 35, 27, 6, 0]
theorem fRM_s : ∀ sl, sl < 16 → mxl sl + fRM (sl + 1) = fRM sl := by decide
theorem fldB_le {cnt mk : Nat → Nat} {sl : Nat} (h : cnt sl ≤ fMM sl) : (fldB cnt mk sl).length ≤ mxl sl := by
  unfold fldB mxl
  rw [List.length_append]
  have h1 : (if fCD sl = 0 then [] else anb (cnt sl) (fCD sl)).length = if fCD sl = 0 then 0 else (if (fCD sl + 1) / 2 = 2 then 2 else 1) := by
    split
    · rfl
    · exact anb_len _ _
  have h2 : (if fHL sl = 0 then dgB mk (fFM sl) (cnt sl) else lB mk (fFM sl) (cnt sl) 0).length ≤ if fHL sl = 0 then (fMM sl + 1) / 2 else fMM sl := by
    split
    · rw [dgB_len]; omega
    · rw [lB_len]; exact h
  omega
def flB (cnt mk : Nat → Nat) : Nat → Nat → List Nat
  | 0, _ => []
  | n + 1, sl => (if cnt sl = 0 then [] else fldB cnt mk sl) ++ flB cnt mk n (sl + 1)
def s2L (cnt : Nat → Nat) : Nat → Nat → Bool
  | 0, _ => false
  | n + 1, sl => if 64 < fFI sl ∧ cnt sl ≠ 0 then true else s2L cnt n (sl + 1)
def mpS (b : Nat) (cnt : Nat → Nat) : Nat → Nat → (Nat → Nat) → (Nat → Nat)
  | 0, _, f => f
  | n + 1, sl, f => mpS b cnt n (sl + 1) (if cnt sl = 0 then f else nup f (b + (fFI sl - 1) / 8) (f (b + (fFI sl - 1) / 8) ^^^ 128 / 2 ^ ((fFI sl - 1) % 8)))
theorem bit_s (x : Nat) : 128 / 2 ^ x ≤ 128 := Nat.div_le_self _ _
