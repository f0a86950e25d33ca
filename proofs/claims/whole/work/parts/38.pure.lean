/-! the class and the reference side by side -/
def gs (c : Nat) : Nat := if c = 0 then 0 else c + 1
theorem gs_0 {c : Nat} : gs c = 0 ↔ c = 0 := by unfold gs; split <;> omega
theorem gs_p {c : Nat} (h : c ≠ 0) : gs c - 1 = c := by unfold gs; rw [if_neg h]; rfl
theorem gs_s {c : Nat} (h : 1 ≤ c) : c + 1 = gs c := by unfold gs; rw [if_neg (by omega)]
theorem gs_le (c : Nat) : gs c ≤ c + 1 := by unfold gs; split <;> omega
def mR (f a b : Nat) : Prop := (fHL f = 0 → a = b) ∧ (fHL f ≠ 0 → a = lb b ∧ b < 36)
def SAM (ty : Nat) (cnt mk : Nat → Nat) (len : Nat) (tp g dr : Nat → Nat) : Prop :=
  dOK ty cnt mk ∧ len ≤ 400 ∧ (∀ j, tp j < 256) ∧ (∀ j, j < 16 → g j = gs (cnt j)) ∧ ∀ f, f < 16 → ∀ k, k < cnt f → mR f (mk (fFM f + k)) (dr (42 * f + k))
section SAMS
variable {ty : Nat} {cnt mk : Nat → Nat} {len : Nat} {tp g dr : Nat → Nat}
theorem SAM.tape (h : SAM ty cnt mk len tp g dr) {len' : Nat} {tp' : Nat → Nat} (h1 : len' ≤ 400) (h2 : ∀ j, tp' j < 256) : SAM ty cnt mk len' tp' g dr := ⟨h.1, h1, h2, h.2.2.2⟩
theorem SAM.gk (h : SAM ty cnt mk len tp g dr) {k : Nat} (hk : k < 16) : g k = gs (cnt k) := h.2.2.2.1 k hk
theorem SAM.g43 (h : SAM ty cnt mk len tp g dr) {k : Nat} (hk : k < 16) : g k ≤ 43 := by
  have h1 := h.gk hk
  have h2 := h.1.c hk
  have h3 := gs_le (cnt k)
  omega
theorem SAM.g100 (h : SAM ty cnt mk len tp g dr) : ∀ j, j < 16 → g j < 100 := fun j hj => by have := h.g43 hj; omega
theorem SAM.c31 (h : SAM ty cnt mk len tp g dr) : ∀ j, j < 16 → cnt j < 2 ^ 31 := fun j hj => by have := h.1.c hj; omega
theorem far : ∀ a, a < 16 → ∀ b, b < 16 → a ≠ b → fFM a + fMM a ≤ fFM b ∨ fFM b + fMM b ≤ fFM a := by decide
theorem SAM.set (h : SAM ty cnt mk len tp g dr) {f n : Nat} {mk' dr' : Nat → Nat} (hf : f < 16) (hn1 : 1 ≤ n) (hn : n ≤ fMM f) (ho : ∀ j, (j < fFM f ∨ fFM f + fMM f ≤ j) → mk' j = mk j) (hd : ∀ j, (j < 42 * f ∨ 42 * f + 42 ≤ j) → dr' j = dr j) (hm : ∀ j, mk' j < 128)
    (hr : ∀ k, k < n → mR f (mk' (fFM f + k)) (dr' (42 * f + k))) (h10 : fHL f = 0 → ∀ k, k < n → mk' (fFM f + k) < 10) : SAM ty (nup cnt f n) mk' len tp (nup g f (n + 1)) dr' := by
  obtain ⟨⟨a1, a2, a3, a4⟩, b, c, d, e⟩ := h
  refine ⟨⟨a1, ?_, hm, ?_⟩, b, c, ?_, ?_⟩
  · intro j hj
    by_cases q : j = f
    · rw [q, nup_s]; exact hn
    · rw [nup_n q]; exact a2 j hj
  · intro sl hs hl j hj
    by_cases q : sl = f
    · subst q; rw [nup_s] at hj; exact h10 hl j hj
    · rw [nup_n q] at hj
      have h1 := a2 sl hs
      have h2 := far sl hs f hf q
      rw [ho _ (by omega)]; exact a4 sl hs hl j hj
  · intro j hj
    by_cases q : j = f
    · rw [q, nup_s, nup_s]; exact gs_s hn1
    · rw [nup_n q, nup_n q]; exact d j hj
  · intro f2 h2 k hk
    by_cases q : f2 = f
    · subst q; rw [nup_s] at hk; exact hr k hk
    · rw [nup_n q] at hk
      have h1 := a2 f2 h2
      have h3 := far f2 h2 f hf q
      have h4 := fMM_b f2 h2
      rw [ho _ (by omega), hd _ (by omega)]
      exact e f2 h2 k hk
theorem SAM.gone (h : SAM ty cnt mk len tp g dr) {f : Nat} : SAM ty (nup cnt f 0) mk len tp (nup g f 0) dr := by
  obtain ⟨⟨a1, a2, a3, a4⟩, b, c, d, e⟩ := h
  refine ⟨⟨a1, ?_, a3, ?_⟩, b, c, ?_, ?_⟩
  · intro j hj
    by_cases q : j = f
    · rw [q, nup_s]; exact Nat.zero_le _
    · rw [nup_n q]; exact a2 j hj
  · intro sl hs hl j hj
    by_cases q : sl = f
    · subst q; rw [nup_s] at hj; omega
    · rw [nup_n q] at hj; exact a4 sl hs hl j hj
  · intro j hj
    by_cases q : j = f
    · rw [q, nup_s, nup_s]; rfl
    · rw [nup_n q, nup_n q]; exact d j hj
  · intro f2 h2 k hk
    by_cases q : f2 = f
    · subst q; rw [nup_s] at hk; omega
    · rw [nup_n q] at hk; exact e f2 h2 k hk
theorem SAM.message (h : SAM ty cnt mk len tp g dr) {n : Nat} (hn : n ≤ 9999) : SAM n (zc cnt 16) mk len tp (zc g 16) dr := by
  obtain ⟨⟨a1, a2, a3, a4⟩, b, c, d, e⟩ := h
  have z : ∀ (f : Nat → Nat) j, j < 16 → zc f 16 j = 0 := fun f j hj => if_pos hj
  refine ⟨⟨by omega, fun j hj => by rw [z _ j hj]; exact Nat.zero_le _, a3, fun sl hs _ j hj => by rw [z _ sl hs] at hj; omega⟩, b, c, fun j hj => by rw [z _ j hj, z _ j hj]; rfl, fun f hf k hk => by rw [z _ f hf] at hk; omega⟩
/-! digits and letters laid -/
theorem dcF_pos : ∀ n r c, 1 ≤ c → 1 ≤ dcF n r c
  | 0, _, _, h => h
  | n + 1, r, c, h => by
    unfold dcF
    split
    · exact h
    · exact dcF_pos n _ _ (by omega)
theorem dct_pos {k n : Nat} (hk : k < 16) : 1 ≤ dct k n := by
  unfold dct
  split
  · have := (fMM_b k hk).1; omega
  · exact dcF_pos 18 n 1 (Nat.le_refl _)
theorem dct_le {k n : Nat} (hd : dcn n ≤ fMM k) : dct k n ≤ fMM k := by
  unfold dct
  split
  · exact Nat.le_refl _
  · exact hd
theorem dso (f : Nat → Nat) (b : Nat) : ∀ n v j, (j < b ∨ b + n ≤ j) → ds f b n v j = f j
  | 0, _, _, _ => rfl
  | n + 1, v, j, h => by
    show ds (nup f (b + n) (v % 10)) b n (v / 10) j = _
    rw [dso _ b n (v / 10) j (by omega), nup_n (by omega)]
theorem ds_lt {f : Nat → Nat} {b n v : Nat} (h : ∀ j, f j < 128) : ∀ j, ds f b n v j < 128 := by
  intro j
  by_cases q : j < b ∨ b + n ≤ j
  · rw [dso f b n v j q]; exact h j
  · rw [show j = b + (j - b) by omega, ds_at f b n v (j - b) (by omega)]
    exact Nat.lt_trans (Nat.mod_lt _ (by decide)) (by decide)
theorem SAM.digits (h : SAM ty cnt mk len tp g dr) {k n v : Nat} (hk : k < 16) (hh : fHL k = 0) (hn1 : 1 ≤ n) (hn : n ≤ fMM k) : SAM ty (nup cnt k n) (ds mk (fFM k + 0) n v) len tp (nup g k (n + 1)) (ds dr (42 * k) n v) := by
  have hmm := fMM_b k hk
  refine h.set hk hn1 hn (fun j hj => dso _ _ _ _ j (by omega)) (fun j hj => dso _ _ _ _ j (by omega)) (ds_lt h.1.2.2.1) (fun i hi => ⟨fun _ => ?_, fun q => absurd hh q⟩) (fun _ i hi => ?_)
  · rw [Nat.add_zero, ds_at _ _ n v i hi, ds_at _ _ n v i hi]
  · rw [Nat.add_zero, ds_at _ _ n v i hi]; exact Nat.mod_lt _ (by decide)
theorem lset_out (v : Int64) (b : Nat) : ∀ n k (m : Nat → Nat) j, (j < b + k ∨ b + k + n ≤ j) → lset v b n k m j = m j
  | 0, _, _, _, _ => rfl
  | n + 1, k, m, j, h => by
    show lset v b n (k + 1) (nup m (b + k) (lb (lt_ v k))) j = _
    rw [lset_out v b n (k + 1) _ j (by omega), nup_n (by omega)]
theorem lset_at (v : Int64) (b : Nat) : ∀ n k (m : Nat → Nat) i, i < n → lset v b n k m (b + k + i) = lb (lt_ v (k + i))
  | 0, _, _, _, h => absurd h (Nat.not_lt_zero _)
  | n + 1, k, m, i, h => by
    show lset v b n (k + 1) (nup m (b + k) (lb (lt_ v k))) (b + k + i) = _
    cases i with
    | zero => rw [lset_out v b n (k + 1) _ _ (by omega), Nat.add_zero, nup_s, Nat.add_zero]
    | succ i => rw [show b + k + (i + 1) = b + (k + 1) + i by omega, lset_at v b n (k + 1) _ i (by omega), show k + (i + 1) = k + 1 + i by omega]
theorem lsetM_out (v : Int64) (b : Nat) : ∀ n k (m : Nat → Nat) j, (j < b + k ∨ b + k + n ≤ j) → lsetM v b n k m j = m j
  | 0, _, _, _, _ => rfl
  | n + 1, k, m, j, h => by
    show lsetM v b n (k + 1) (nup m (b + k) (lt_ v k)) j = _
    rw [lsetM_out v b n (k + 1) _ j (by omega), nup_n (by omega)]
theorem lsetM_at (v : Int64) (b : Nat) : ∀ n k (m : Nat → Nat) i, i < n → lsetM v b n k m (b + k + i) = lt_ v (k + i)
  | 0, _, _, _, h => absurd h (Nat.not_lt_zero _)
  | n + 1, k, m, i, h => by
    show lsetM v b n (k + 1) (nup m (b + k) (lt_ v k)) (b + k + i) = _
    cases i with
    | zero => rw [lsetM_out v b n (k + 1) _ _ (by omega), Nat.add_zero, nup_s, Nat.add_zero]
    | succ i => rw [show b + k + (i + 1) = b + (k + 1) + i by omega, lsetM_at v b n (k + 1) _ i (by omega), show k + (i + 1) = k + 1 + i by omega]
theorem lt_36 (v : Int64) (k : Nat) : lt_ v k < 36 := Nat.lt_trans (Nat.mod_lt _ (by decide)) (by decide : 2 ^ 5 < 36)
theorem lb_128 {w : Nat} (h : w < 36) : lb w < 128 := by unfold lb; split <;> omega
theorem SAM.letters (h : SAM ty cnt mk len tp g dr) {k n : Nat} {v : Int64} (hk : k < 16) (hh : fHL k ≠ 0) (hn1 : 1 ≤ n) (hn : n ≤ fMM k) : SAM ty (nup cnt k n) (lset v (fFM k) n 0 mk) len tp (nup g k (n + 1)) (lsetM v (42 * k) n 0 dr) := by
  have hmm := fMM_b k hk
  have e1 : ∀ i, i < n → lset v (fFM k) n 0 mk (fFM k + i) = lb (lt_ v i) := fun i hi => by have := lset_at v (fFM k) n 0 mk i hi; rw [Nat.add_zero, Nat.zero_add] at this; exact this
  have e2 : ∀ i, i < n → lsetM v (42 * k) n 0 dr (42 * k + i) = lt_ v i := fun i hi => by have := lsetM_at v (42 * k) n 0 dr i hi; rw [Nat.add_zero, Nat.zero_add] at this; exact this
  refine h.set hk hn1 hn (fun j hj => lset_out _ _ _ _ _ j (by omega)) (fun j hj => lsetM_out _ _ _ _ _ j (by omega)) (fun j => ?_) (fun i hi => ⟨fun q => absurd q hh, fun _ => ?_⟩) (fun q => absurd q hh)
  · by_cases q : j < fFM k ∨ fFM k + n ≤ j
    · rw [lset_out _ _ _ _ _ j (by omega)]; exact h.1.2.2.1 j
    · rw [show j = fFM k + (j - fFM k) by omega, e1 _ (by omega)]; exact lb_128 (lt_36 v _)
  · rw [e1 i hi, e2 i hi]; exact ⟨rfl, lt_36 v i⟩
theorem lct_pos {k n : Nat} (hk : k < 16) (h1 : fCD k ≠ 0 → 1 ≤ n ∧ n ≤ fMM k) : 1 ≤ lct k n ∧ lct k n ≤ fMM k := by
  unfold lct
  split
  · have := fMM_b k hk; omega
  · exact h1 (by assumption)
theorem SAM.original (h : SAM ty cnt mk len tp g dr) {a1 a2 a3 : Nat} (h3 : a3 ≤ 99999) :
    SAM ty (nup cnt 14 (fMM 14)) (ds (ds (ds (ds (ds mk (fFM 14 + 0) 4 a1) (fFM 14 + 4) 6 a2) (fFM 14 + 10) 10 0) (fFM 14 + 20) 11 a3) (fFM 14 + 31) 11 0) len tp (nup g 14 (42 + 1)) (ds (ds (ds (ds dr 588 4 a1) (588 + 4) 6 a2) (588 + 10) 21 a3) (588 + 31) 11 0) := by
  have e0 : fMM 14 = 42 := rfl
  have e9 : fFM 14 = 154 := rfl
  have key : ∀ i, i < 42 → ds (ds (ds (ds (ds mk (fFM 14 + 0) 4 a1) (fFM 14 + 4) 6 a2) (fFM 14 + 10) 10 0) (fFM 14 + 20) 11 a3) (fFM 14 + 31) 11 0 (fFM 14 + i) = ds (ds (ds (ds dr 588 4 a1) (588 + 4) 6 a2) (588 + 10) 21 a3) (588 + 31) 11 0 (588 + i) ∧ ds (ds (ds (ds dr 588 4 a1) (588 + 4) 6 a2) (588 + 10) 21 a3) (588 + 31) 11 0 (588 + i) < 10 := by
    intro i hi
    rw [e9]
    rcases Nat.lt_or_ge i 31 with q | q
    · rw [dso _ _ 11 0 _ (by omega), dso _ _ 11 0 (588 + i) (by omega)]
      rcases Nat.lt_or_ge i 10 with q2 | q2
      · rw [dso _ _ 11 a3 _ (by omega), dso _ _ 10 0 _ (by omega), dso _ _ 21 a3 _ (by omega)]
        rcases Nat.lt_or_ge i 4 with q3 | q3
        · rw [dso _ _ 6 a2 _ (by omega), dso _ _ 6 a2 (588 + i) (by omega), show 154 + i = 154 + 0 + i by omega, ds_at _ _ 4 a1 i q3, ds_at _ _ 4 a1 i q3]
          exact ⟨rfl, Nat.mod_lt _ (by decide)⟩
        · rw [show 154 + i = 154 + 4 + (i - 4) by omega, show 588 + i = 588 + 4 + (i - 4) by omega, ds_at _ _ 6 a2 (i - 4) (by omega), ds_at _ _ 6 a2 (i - 4) (by omega)]
          exact ⟨rfl, Nat.mod_lt _ (by decide)⟩
      · rw [show 588 + i = 588 + 10 + (i - 10) by omega, ds_at _ _ 21 a3 (i - 10) (by omega)]
        refine ⟨?_, Nat.mod_lt _ (by decide)⟩
        rcases Nat.lt_or_ge i 20 with q3 | q3
        · rw [dso _ _ 11 a3 _ (by omega), show 154 + i = 154 + 10 + (i - 10) by omega, ds_at _ _ 10 0 (i - 10) (by omega), Nat.zero_div, Nat.div_eq_of_lt]
          exact Nat.lt_of_lt_of_le (show a3 < 10 ^ 5 by omega) (Nat.pow_le_pow_right (by decide) (by omega))
        · rw [show 154 + i = 154 + 20 + (i - 20) by omega, ds_at _ _ 11 a3 (i - 20) (by omega), show 11 - 1 - (i - 20) = 21 - 1 - (i - 10) by omega]
    · rw [show 154 + i = 154 + 31 + (i - 31) by omega, show 588 + i = 588 + 31 + (i - 31) by omega, ds_at _ _ 11 0 (i - 31) (by omega), ds_at _ _ 11 0 (i - 31) (by omega)]
      exact ⟨rfl, Nat.mod_lt _ (by decide)⟩
  have := h.set (f := 14) (n := 42) (mk' := ds (ds (ds (ds (ds mk (fFM 14 + 0) 4 a1) (fFM 14 + 4) 6 a2) (fFM 14 + 10) 10 0) (fFM 14 + 20) 11 a3) (fFM 14 + 31) 11 0) (dr' := ds (ds (ds (ds dr 588 4 a1) (588 + 4) 6 a2) (588 + 10) 21 a3) (588 + 31) 11 0) (by decide) (by decide) (by decide)
    (fun j hj => by rw [e0, e9] at hj; rw [e9, dso _ _ _ _ j (by omega), dso _ _ _ _ j (by omega), dso _ _ _ _ j (by omega), dso _ _ _ _ j (by omega), dso _ _ _ _ j (by omega)])
    (fun j hj => by rw [dso _ _ _ _ j (by omega), dso _ _ _ _ j (by omega), dso _ _ _ _ j (by omega), dso _ _ _ _ j (by omega)])
    (ds_lt (ds_lt (ds_lt (ds_lt (ds_lt h.1.2.2.1))))) (fun i hi => ⟨fun _ => (key i hi).1, fun q => absurd rfl q⟩) (fun _ i hi => by rw [(key i hi).1]; exact (key i hi).2)
  exact this
/-! what the calls answer -/
theorem SAM.size (h : SAM ty cnt mk len tp g dr) {k : Nat} (hk : k < 16) : pm (g k) = szr (cnt k) := by
  rw [h.gk hk]
  unfold gs szr
  split
  · decide
  · exact pm_s _
theorem SAM.at (h : SAM ty cnt mk len tp g dr) {k j : Nat} (hk : k < 16) (hj : j < cnt k) : mka dr k j = mk (fFM k + j) := by
  have h1 := h.2.2.2.2 k hk j hj
  unfold mka
  by_cases q : fHL k = 0
  · rw [if_pos q]; exact (h1.1 q).symm
  · rw [if_neg q, (h1.2 q).1]
    unfold lb
    split <;> omega
theorem SAM.d31 (h : SAM ty cnt mk len tp g dr) {k j : Nat} (hk : k < 16) (hj : j < cnt k) : dr (42 * k + j) < 2 ^ 31 := by
  have h1 := h.2.2.2.2 k hk j hj
  by_cases q : fHL k = 0
  · rw [← h1.1 q]; have := h.1.2.2.1 (fFM k + j); omega
  · have := (h1.2 q).2; omega
theorem nm_nmL {f f' : Nat → Nat} : ∀ n b b' acc, (∀ i, i < n → f (b + i) = f' (b' + i)) → nm_ f b n acc = nmL f' b' n acc
  | 0, _, _, _, _ => rfl
  | n + 1, b, b', acc, h => by
    show nm_ f (b + 1) n (acc * 10 + f b) = nmL f' (b' + 1) n (10 * acc + f' b')
    rw [show acc * 10 + f b = 10 * acc + f' b' by have := h 0 (by omega); rw [Nat.add_zero, Nat.add_zero] at this; omega]
    exact nm_nmL n (b + 1) (b' + 1) _ fun i hi => by rw [show b + 1 + i = b + (i + 1) by omega, show b' + 1 + i = b' + (i + 1) by omega]; exact h (i + 1) (by omega)
theorem SAM.number (h : SAM ty cnt mk len tp g dr) {k : Nat} (hk : k < 16) (hh : fHL k = 0) (h0 : cnt k ≠ 0) : nbr cnt mk k = lN (nmL dr (42 * k + (g k - 1 - 18)) (g k - 1 - (g k - 1 - 18)) 0) := by
  unfold nbr lastN
  rw [if_neg h0, h.gk hk, gs_p h0]
  rw [nm_nmL _ _ (42 * k + (cnt k - 18)) 0 (fun i hi => ?_)]
  rw [show fFM k + (cnt k - 18) + i = fFM k + (cnt k - 18 + i) by omega, show 42 * k + (cnt k - 18) + i = 42 * k + (cnt k - 18 + i) by omega]
  exact (h.2.2.2.2 k hk _ (by omega)).1 hh
theorem fc_gc {cnt g : Nat → Nat} : ∀ n, (∀ j, j < n → g j = gs (cnt j)) → fc cnt n = gc g n
  | 0, _ => rfl
  | n + 1, h => by
    show fc cnt n + hz (cnt n) = gc g n + hz (g n)
    rw [fc_gc n fun j hj => h j (by omega), h n (by omega)]
    congr 1
    unfold hz
    by_cases q : cnt n = 0
    · rw [if_pos q, if_pos (gs_0.mpr q)]
    · rw [if_neg q, if_neg (mt gs_0.mp q)]
theorem SAM.hz (h : SAM ty cnt mk len tp g dr) {k : Nat} (hk : k < 16) : hz (g k) = hz (cnt k) := by
  rw [h.gk hk]
  unfold Jvm.Pilot.CCardMessagesLaw_law_r2607_a770f5.hz
  by_cases q : cnt k = 0
  · rw [if_pos q, if_pos (gs_0.mpr q)]
  · rw [if_neg q, if_neg (mt gs_0.mp q)]
end SAMS
/-! reading, side by side -/
theorem dgC_out {tp : Nat → Nat} {nx ct b : Nat} : ∀ n k (m : Nat → Nat) j, (j < b + k ∨ b + k + n ≤ j) → dgC tp nx ct b n k m j = m j
  | 0, _, _, _, _ => rfl
  | n + 1, k, m, j, h => by
    show dgC tp nx ct b n (k + 1) (nup m (b + k) (hf tp nx (ct % 2 + k))) j = _
    rw [dgC_out n (k + 1) _ j (by omega), nup_n (by omega)]
theorem dgC_at {tp : Nat → Nat} {nx ct b : Nat} : ∀ n k (m : Nat → Nat) i, i < n → dgC tp nx ct b n k m (b + k + i) = hf tp nx (ct % 2 + (k + i))
  | 0, _, _, _, h => absurd h (Nat.not_lt_zero _)
  | n + 1, k, m, i, h => by
    show dgC tp nx ct b n (k + 1) (nup m (b + k) (hf tp nx (ct % 2 + k))) (b + k + i) = _
    cases i with
    | zero => rw [dgC_out n (k + 1) _ _ (by omega), Nat.add_zero, nup_s, Nat.add_zero]
    | succ i => rw [show b + k + (i + 1) = b + (k + 1) + i by omega, dgC_at n (k + 1) _ i (by omega), show k + (i + 1) = k + 1 + i by omega]
theorem ltC_out {tp : Nat → Nat} {nx b : Nat} : ∀ n k (m : Nat → Nat) j, (j < b + k ∨ b + k + n ≤ j) → ltC tp nx b n k m j = m j
  | 0, _, _, _, _ => rfl
  | n + 1, k, m, j, h => by
    show ltC tp nx b n (k + 1) (nup m (b + k) (tp (nx + k))) j = _
    rw [ltC_out n (k + 1) _ j (by omega), nup_n (by omega)]
theorem ltC_at {tp : Nat → Nat} {nx b : Nat} : ∀ n k (m : Nat → Nat) i, i < n → ltC tp nx b n k m (b + k + i) = tp (nx + (k + i))
  | 0, _, _, _, h => absurd h (Nat.not_lt_zero _)
  | n + 1, k, m, i, h => by
    show ltC tp nx b n (k + 1) (nup m (b + k) (tp (nx + k))) (b + k + i) = _
    cases i with
    | zero => rw [ltC_out n (k + 1) _ _ (by omega), Nat.add_zero, nup_s, Nat.add_zero]
    | succ i => rw [show b + k + (i + 1) = b + (k + 1) + i by omega, ltC_at n (k + 1) _ i (by omega), show k + (i + 1) = k + 1 + i by omega]
theorem ltCM_out {tp : Nat → Nat} {nx b : Nat} : ∀ n k (m : Nat → Nat) j, (j < b + k ∨ b + k + n ≤ j) → ltCM tp nx b n k m j = m j
  | 0, _, _, _, _ => rfl
  | n + 1, k, m, j, h => by
    show ltCM tp nx b n (k + 1) (nup m (b + k) (lnum (tp (nx + k)))) j = _
    rw [ltCM_out n (k + 1) _ j (by omega), nup_n (by omega)]
theorem ltCM_at {tp : Nat → Nat} {nx b : Nat} : ∀ n k (m : Nat → Nat) i, i < n → ltCM tp nx b n k m (b + k + i) = lnum (tp (nx + (k + i)))
  | 0, _, _, _, h => absurd h (Nat.not_lt_zero _)
  | n + 1, k, m, i, h => by
    show ltCM tp nx b n (k + 1) (nup m (b + k) (lnum (tp (nx + k)))) (b + k + i) = _
    cases i with
    | zero => rw [ltCM_out n (k + 1) _ _ (by omega), Nat.add_zero, nup_s, Nat.add_zero]
    | succ i => rw [show b + k + (i + 1) = b + (k + 1) + i by omega, ltCM_at n (k + 1) _ i (by omega), show k + (i + 1) = k + 1 + i by omega]
theorem dgL_le {tp : Nat → Nat} {nx odd : Nat} : ∀ n h, dgL tp nx odd n h = none → ∀ j, h ≤ j → j < h + n → odd ≤ j → hf tp nx j < 10
  | 0, h, _, j, h1, h2, _ => absurd h2 (by omega)
  | n + 1, h, hd, j, h1, h2, h3 => by
    have hd : (if (if h < odd then 0 else 9) < hf tp nx h then some (2, nx + h / 2) else dgL tp nx odd n (h + 1)) = none := hd
    by_cases q : (if h < odd then 0 else 9) < hf tp nx h
    · rw [if_pos q] at hd; cases hd
    · rw [if_neg q] at hd
      by_cases q2 : j = h
      · subst q2; rw [if_neg (by omega)] at q; omega
      · exact dgL_le n (h + 1) hd j (by omega) (by omega) h3
theorem ltL_isL {tp : Nat → Nat} : ∀ n i, ltL tp n i = none → ∀ j, j < n → isL (tp (i + j)) = true
  | 0, _, _, j, h => absurd h (Nat.not_lt_zero _)
  | n + 1, i, h, j, hj => by
    unfold ltL at h
    split at h
    · rename_i q
      cases j with
      | zero => exact q
      | succ j => rw [show i + (j + 1) = i + 1 + j by omega]; exact ltL_isL n (i + 1) h j (by omega)
    · cases h
theorem lb_lnum {b : Nat} (h : isL b = true) : b = lb (lnum b) ∧ lnum b < 36 := by
  have h := isL_or h
  rcases h with h | h
  · have e : lnum b = b - 48 := if_pos (by omega)
    rw [e]; unfold lb; rw [if_pos (by omega)]; omega
  · have e : lnum b = b - 55 := if_neg (by omega)
    rw [e]; unfold lb; rw [if_neg (by omega)]; omega
/-- a field read, side by side -/
theorem fld_same {tp : Nat → Nat} {len nx sl : Nat} (h : fieldF tp len nx sl = none) (m d : Nat → Nat) : ∀ i, i < fCt tp nx sl → mR sl (fMk tp nx sl m (fFM sl + i)) (fMd tp nx sl d (42 * sl + i)) ∧ (fHL sl = 0 → fMk tp nx sl m (fFM sl + i) < 10) := by
  intro i hi
  have hv := fieldF_val h
  unfold valF at hv
  unfold fMk vMk fMd
  by_cases q : fHL sl = 0
  · rw [if_pos q] at hv
    rw [if_pos q, if_pos q]
    have e1 := dgC_at (tp := tp) (nx := fVp nx sl) (ct := fCt tp nx sl) (b := fFM sl) (fCt tp nx sl) 0 m i hi
    have e2 := dgC_at (tp := tp) (nx := fVp nx sl) (ct := fCt tp nx sl) (b := 42 * sl) (fCt tp nx sl) 0 d i hi
    rw [Nat.add_zero] at e1 e2
    rw [e1, e2]
    have h9 := dgL_le _ _ (dgF_ok hv) (fCt tp nx sl % 2 + (0 + i)) (by omega) (by omega) (by omega)
    exact ⟨⟨fun _ => rfl, fun z => absurd q z⟩, fun _ => h9⟩
  · rw [if_neg q] at hv
    rw [if_neg q, if_neg q]
    have e1 := ltC_at (tp := tp) (nx := fVp nx sl) (b := fFM sl) (fCt tp nx sl) 0 m i hi
    have e2 := ltCM_at (tp := tp) (nx := fVp nx sl) (b := 42 * sl) (fCt tp nx sl) 0 d i hi
    rw [Nat.add_zero] at e1 e2
    rw [e1, e2]
    have h9 := ltL_isL _ _ (ltF_ok hv) i hi
    rw [Nat.zero_add]
    exact ⟨⟨fun z => absurd z q, fun _ => lb_lnum h9⟩, fun z => absurd z q⟩
theorem fMk_out {tp : Nat → Nat} {len nx sl : Nat} (h : fieldF tp len nx sl = none) (m : Nat → Nat) (j : Nat) (hj : j < fFM sl ∨ fFM sl + fMM sl ≤ j) : fMk tp nx sl m j = m j := by
  have hc := fieldF_ct h
  unfold fMk vMk
  split
  · exact dgC_out _ _ _ j (by omega)
  · exact ltC_out _ _ _ j (by omega)
theorem fMd_out {tp : Nat → Nat} {len nx sl : Nat} (hs : sl < 16) (h : fieldF tp len nx sl = none) (m : Nat → Nat) (j : Nat) (hj : j < 42 * sl ∨ 42 * sl + 42 ≤ j) : fMd tp nx sl m j = m j := by
  have hc := fieldF_ct h
  have hm := fMM_b sl hs
  unfold fMd
  split
  · exact dgC_out _ _ _ j (by omega)
  · exact ltCM_out _ _ _ j (by omega)
theorem fCt_pos {tp : Nat → Nat} {len nx sl : Nat} (hs : sl < 16) (h : fieldF tp len nx sl = none) : 1 ≤ fCt tp nx sl := by
  unfold fCt
  by_cases q : fCD sl = 0
  · rw [if_pos q]; have := (fMM_b sl hs).1; omega
  · rw [if_neg q]; exact (fieldF_num h q).2.1
/-- a field of two drafts -/
def fS (f : Nat) (c m r d : Nat → Nat) : Prop := c f ≤ fMM f ∧ r f = gs (c f) ∧ ∀ i, i < c f → mR f (m (fFM f + i)) (d (42 * f + i)) ∧ (fHL f = 0 → m (fFM f + i) < 10)
theorem wk_same {tp : Nat → Nat} {len w : Nat} : ∀ n sl nx (c m r d : Nat → Nat), sl + n = 16 → wkF tp len w n sl nx = none → (∀ f, f < sl → fS f c m r d) → (∀ f, sl ≤ f → f < 16 → c f = 0 ∧ r f = if prs tp w f = true then 1 else 0) →
    ∀ f, f < 16 → fS f (wkC tp w n sl nx c) (wkM tp w n sl nx m) (wkR tp w n sl nx r) (wkD tp w n sl nx d)
  | 0, sl, nx, c, m, r, d, hs, _, h1, _, f, hf => h1 f (by omega)
  | n + 1, sl, nx, c, m, r, d, hs, hw, h1, h2, f, hf => by
    by_cases hp : prs tp w sl = true
    · obtain ⟨hF, hw2⟩ := wkF_in hw hp
      rw [wkC_in hp, wkM_in hp, wkR_in hp, wkD_in hp]
      refine wk_same n (sl + 1) _ _ _ _ _ (by omega) hw2 (fun f2 hf2 => ?_) (fun f2 h3 h4 => ?_) f hf
      · by_cases q : f2 = sl
        · subst q
          refine ⟨by rw [nup_s]; exact fieldF_ct hF, by rw [nup_s, nup_s]; exact gs_s (fCt_pos (by omega) hF), ?_⟩
          rw [nup_s]
          exact fld_same hF m d
        · obtain ⟨a1, a2, a3⟩ := h1 f2 (by omega)
          unfold fS
          rw [nup_n q, nup_n q]
          refine ⟨a1, a2, fun i hi => ?_⟩
          have h5 := far f2 (by omega) sl (by omega) q
          have h6 := fMM_b f2 (by omega)
          rw [fMk_out hF m _ (by omega), fMd_out (by omega) hF d _ (by omega)]
          exact a3 i hi
      · rw [nup_n (by omega), nup_n (by omega)]
        exact h2 f2 (by omega) h4
    · rw [wkC_out (Bool.eq_false_iff.mpr hp), wkM_out (Bool.eq_false_iff.mpr hp), wkR_out hp, wkD_out hp]
      rw [wkF_out (Bool.eq_false_iff.mpr hp)] at hw
      refine wk_same n (sl + 1) _ _ _ _ _ (by omega) hw (fun f2 hf2 => ?_) (fun f2 h3 h4 => h2 f2 (by omega) h4) f hf
      by_cases q : f2 = sl
      · subst q
        obtain ⟨a1, a2⟩ := h2 f2 (Nat.le_refl _) (by omega)
        rw [if_neg hp] at a2
        refine ⟨by rw [a1]; exact Nat.zero_le _, by rw [a1, a2]; rfl, fun i hi => ?_⟩
        rw [a1] at hi; omega
      · exact h1 f2 (by omega)
theorem cpI_out {rd : Nat → Nat} {b : Nat} : ∀ n j (d : Nat → Nat) x, (x < b + j ∨ b + j + n ≤ x) → cpI rd b n j d x = d x
  | 0, _, _, _, _ => rfl
  | n + 1, j, d, x, h => by
    rw [cpI_s, cpI_out n (j + 1) _ x (by omega), nup_n (by omega)]
theorem cpI_at {rd : Nat → Nat} {b : Nat} : ∀ n j (d : Nat → Nat) i, i < n → cpI rd b n j d (b + j + i) = rd (b + j + i)
  | 0, _, _, _, h => absurd h (Nat.not_lt_zero _)
  | n + 1, j, d, i, h => by
    rw [cpI_s]
    cases i with
    | zero => rw [cpI_out n (j + 1) _ _ (by omega), Nat.add_zero, nup_s]
    | succ i => rw [show b + j + (i + 1) = b + (j + 1) + i by omega]; exact cpI_at n (j + 1) _ i (by omega)
theorem cpD_out {rs rd : Nat → Nat} : ∀ n k (d : Nat → Nat) x, x < 42 * k → cpD rs rd n k d x = d x
  | 0, _, _, _, _ => rfl
  | n + 1, k, d, x, h => by
    show cpD rs rd n (k + 1) (cpI rd (42 * k) (rs k - 1) 0 d) x = _
    rw [cpD_out n (k + 1) _ x (by omega), cpI_out _ _ _ x (by omega)]
theorem cpD_at {rs rd : Nat → Nat} (hb : ∀ j, j < 16 → rs j ≤ 43) : ∀ n k (d : Nat → Nat) f i, k + n ≤ 16 → k ≤ f → f < k + n → i < rs f - 1 → cpD rs rd n k d (42 * f + i) = rd (42 * f + i)
  | 0, _, _, _, _, _, h1, h2, _ => absurd h2 (by omega)
  | n + 1, k, d, f, i, hn, h1, h2, hi => by
    show cpD rs rd n (k + 1) (cpI rd (42 * k) (rs k - 1) 0 d) (42 * f + i) = _
    by_cases q : f = k
    · subst q
      have := hb f (by omega)
      rw [cpD_out n (f + 1) _ _ (by omega)]
      have := cpI_at (rd := rd) (b := 42 * f) (rs f - 1) 0 d i hi
      rw [Nat.add_zero] at this
      exact this
    · exact cpD_at hb n (k + 1) _ f i (by omega) (by omega) (by omega) hi
theorem isTy_le {t : Nat} (h : isTy t = true) : t < 10000 := by have := isTy_or.mp h; omega
theorem SAM.read {ty : Nat} {cnt mk : Nat → Nat} {len : Nat} {tp g dr : Nat → Nat} (h : SAM ty cnt mk len tp g dr) (hd : pF tp len = none) {gcnt gmk rs rd : Nat → Nat} (hm : ∀ j, gmk j < 128) :
    SAM (nmA tp 0 4 4 0 0) (cp (wkC tp (wid tp 2) 16 0 (2 + wid tp 2) (zc gcnt 16)) cnt 16) (cp (wkM tp (wid tp 2) 16 0 (2 + wid tp 2) gmk) mk 208) len tp (cp (mRS tp rs) g 16) (cpD (mRS tp rs) (mRD tp rd) 16 0 dr) := by
  obtain ⟨hd1, hty, hmp, hwk⟩ := pF_ok hd
  have htp := h.2.2.1
  have key := wk_same 16 0 (2 + wid tp 2) (zc gcnt 16) gmk (RSb tp (8 * wid tp 2) (zc rs 16)) rd rfl hwk (fun f hf => absurd hf (Nat.not_lt_zero _)) (fun f _ hf => ⟨if_pos hf, RSb_prs htp hf⟩)
  have hrb : ∀ j, j < 16 → mRS tp rs j ≤ 43 := RS_b htp hwk
  have ec : ∀ j, j < 16 → cp (wkC tp (wid tp 2) 16 0 (2 + wid tp 2) (zc gcnt 16)) cnt 16 j = wkC tp (wid tp 2) 16 0 (2 + wid tp 2) (zc gcnt 16) j := fun j hj => if_pos hj
  have em : ∀ j, j < 208 → cp (wkM tp (wid tp 2) 16 0 (2 + wid tp 2) gmk) mk 208 j = wkM tp (wid tp 2) 16 0 (2 + wid tp 2) gmk j := fun j hj => if_pos hj
  refine ⟨⟨isTy_le hty, fun j hj => ?_, fun j => ?_, fun sl hs hl j hj => ?_⟩, h.2.1, htp, fun j hj => ?_, fun f hf k hk => ?_⟩
  · rw [ec j hj]; exact (key j hj).1
  · unfold cp
    split
    · exact wkM_lt htp hwk hm j
    · exact h.1.2.2.1 j
  · rw [ec sl hs] at hj
    have := (key sl hs).1
    have h9 := fFM_b sl hs
    rw [em _ (by omega)]
    exact ((key sl hs).2.2 j hj).2 hl
  · rw [ec j hj, show cp (mRS tp rs) g 16 j = mRS tp rs j from if_pos hj]
    exact (key j hj).2.1
  · rw [ec f hf] at hk
    have h1 := (key f hf).1
    have h2 := (key f hf).2.1
    have h9 := fFM_b f hf
    have h3 : k < mRS tp rs f - 1 := by
      show k < wkR tp (wid tp 2) 16 0 (2 + wid tp 2) (RSb tp (8 * wid tp 2) (zc rs 16)) f - 1
      rw [h2, gs_p (by omega)]; exact hk
    rw [em _ (by omega), cpD_at hrb 16 0 dr f k (by omega) (Nat.zero_le _) (by omega) h3]
    exact ((key f hf).2.2 k hk).1
/-! composing, side by side -/
theorem apl_out : ∀ (xs : List Nat) (f : Nat → Nat) (q j : Nat), (j < q ∨ q + xs.length ≤ j) → apl f q xs j = f j
  | [], _, _, _, _ => rfl
  | x :: xs, f, q, j, h => by
    show apl (nup f q x) (q + 1) xs j = f j
    have h : j < q ∨ q + (xs.length + 1) ≤ j := h
    rw [apl_out xs _ (q + 1) j (by omega), nup_n (by omega)]
theorem apl_zero : ∀ (n : Nat) (f : Nat → Nat) (q j : Nat), q ≤ j → j < q + n → apl f q (List.replicate n 0) j = 0
  | 0, _, _, _, h1, h2 => absurd h2 (by omega)
  | n + 1, f, q, j, h1, h2 => by
    show apl (nup f q 0) (q + 1) (List.replicate n 0) j = 0
    by_cases e : j = q
    · subst e; rw [apl_out _ _ _ _ (by omega), nup_s]
    · exact apl_zero n _ (q + 1) j (by omega) (by omega)
theorem nup_nup {f : Nat → Nat} {a b x y : Nat} (h : a ≠ b) : nup (nup f a x) b y = nup (nup f b y) a x := by
  funext j
  unfold nup
  by_cases h1 : j = b
  · rw [if_pos h1, if_neg (by omega), if_pos h1]
  · by_cases h2 : j = a
    · rw [if_neg h1, if_pos h2, if_pos h2]
    · rw [if_neg h1, if_neg h2, if_neg h2, if_neg h1]
theorem apl_nup : ∀ (xs : List Nat) (f : Nat → Nat) (q a x : Nat), a < q → apl (nup f a x) q xs = nup (apl f q xs) a x
  | [], _, _, _, _, _ => rfl
  | y :: xs, f, q, a, x, h => by
    show apl (nup (nup f a x) q y) (q + 1) xs = nup (apl (nup f q y) (q + 1) xs) a x
    rw [nup_nup (by omega), apl_nup xs _ (q + 1) a x (by omega)]
/-- the maps' bytes lie ahead of q -/
theorem mpS_apl {cnt : Nat → Nat} (xs : List Nat) {q : Nat} : ∀ n k (f : Nat → Nat), k + n ≤ 16 → (∀ j, j < 16 → cnt j ≠ 0 → 2 + (fFI j - 1) / 8 < q) → mpS 2 cnt n k (apl f q xs) = apl (mpS 2 cnt n k f) q xs
  | 0, _, _, _, _ => rfl
  | n + 1, k, f, hn, h => by
    show mpS 2 cnt n (k + 1) _ = apl (mpS 2 cnt n (k + 1) _) q xs
    rw [← mpS_apl xs n (k + 1) _ (by omega) h]
    by_cases q0 : cnt k = 0
    · rw [if_pos q0, if_pos q0]
    · rw [if_neg q0, if_neg q0, apl_nup _ _ _ _ _ (h k (by omega) q0), apl_out _ _ _ _ (Or.inl (h k (by omega) q0))]
/-- bit x (from the left) of v is clear -/
def bcl (v x : Nat) : Prop := v < 256 ∧ v / 2 ^ (7 - x) % 2 = 0
theorem bcl_xor : ∀ v, v < 256 → ∀ x, x < 8 → v / 2 ^ (7 - x) % 2 = 0 → v ^^^ 128 / 2 ^ x = v + 128 / 2 ^ x := by decide +kernel
theorem bcl_o1 : ∀ v, v < 256 → ∀ x, x < 8 → v / 2 ^ (7 - x) % 2 = 0 → v + 128 / 2 ^ x < 256 := by decide +kernel
theorem bcl_o2 : ∀ v, v < 256 → ∀ x, x < 8 → ∀ y, y < 8 → (y ≠ x ∧ v / 2 ^ (7 - x) % 2 = 0 ∧ v / 2 ^ (7 - y) % 2 = 0) → (v + 128 / 2 ^ x) / 2 ^ (7 - y) % 2 = 0 := by decide +kernel
theorem bcl_oth (v : Nat) (hv : v < 256) (x : Nat) (hx : x < 8) (h : v / 2 ^ (7 - x) % 2 = 0) : v + 128 / 2 ^ x < 256 ∧ ∀ y, y < 8 → y ≠ x → v / 2 ^ (7 - y) % 2 = 0 → (v + 128 / 2 ^ x) / 2 ^ (7 - y) % 2 = 0 := ⟨bcl_o1 v hv x hx h, fun y h1 h2 h3 => bcl_o2 v hv x hx y h1 ⟨h2, h, h3⟩⟩
theorem pB_eq {f f' : Nat → Nat} {b b' : Nat} : ∀ n k, (∀ i, i < k + 2 * n → f (b + i) = f' (b' + i)) → pB f b n k = pB f' b' n k
  | 0, _, _ => rfl
  | n + 1, k, h => by
    show (f (b + k) * 16 + f (b + (k + 1))) :: pB f b n (k + 2) = (f' (b' + k) * 16 + f' (b' + (k + 1))) :: pB f' b' n (k + 2)
    rw [h k (by omega), h (k + 1) (by omega), pB_eq n (k + 2) fun i hi => h i (by omega)]
theorem dgB_eq {f f' : Nat → Nat} {b b' ct : Nat} (h : ∀ i, i < ct → f (b + i) = f' (b' + i)) : dgB f b ct = dgB f' b' ct := by
  unfold dgB
  rw [pB_eq (f' := f') (b' := b') (ct / 2) (ct % 2) fun i hi => h i (by omega)]
  by_cases q : ct % 2 = 0
  · rw [if_pos q, if_pos q]
  · rw [if_neg q, if_neg q, h 0 (by omega)]
theorem lB_eq {f f' : Nat → Nat} {b b' : Nat} : ∀ n k, (∀ i, i < k + n → f (b + i) = lb (f' (b' + i))) → lB f b n k = lBM f' b' n k
  | 0, _, _ => rfl
  | n + 1, k, h => by
    show f (b + k) :: lB f b n (k + 1) = (if f' (b' + k) < 10 then 48 + f' (b' + k) else 55 + f' (b' + k)) :: lBM f' b' n (k + 1)
    rw [h k (by omega), lB_eq n (k + 1) fun i hi => h i (by omega)]
    congr 1
    unfold lb
    split <;> omega
section SAM3
variable {ty : Nat} {cnt mk : Nat → Nat} {len : Nat} {tp g dr : Nat → Nat}
theorem SAM.fld (h : SAM ty cnt mk len tp g dr) {k : Nat} (hk : k < 16) (h0 : cnt k ≠ 0) : fldM dr k (g k - 1) = fldB cnt mk k := by
  rw [h.gk hk, gs_p h0]
  unfold fldM fldB
  congr 1
  by_cases q : fHL k = 0
  · rw [if_pos q, if_pos q]
    exact (dgB_eq fun i hi => (h.2.2.2.2 k hk i hi).1 q).symm
  · rw [if_neg q, if_neg q]
    exact (lB_eq (cnt k) 0 fun i hi => ((h.2.2.2.2 k hk i (by omega)).2 q).1).symm
theorem SAM.wr (h : SAM ty cnt mk len tp g dr) : ∀ n k q (f : Nat → Nat), k + n = 16 → (∀ j, j < 16 → cnt j ≠ 0 → 2 + (fFI j - 1) / 8 < q) → (∀ j, k ≤ j → j < 16 → cnt j ≠ 0 → bcl (f (2 + (fFI j - 1) / 8)) ((fFI j - 1) % 8)) →
    wrT g dr n k q f = apl (mpS 2 cnt n k f) q (flB cnt mk n k) ∧ wrQ g dr n k q = q + (flB cnt mk n k).length
  | 0, _, _, _, _, _, _ => ⟨rfl, rfl⟩
  | n + 1, k, q, f, hn, hq, hb => by
    have hgk := h.gk (k := k) (by omega)
    by_cases q0 : cnt k = 0
    · obtain ⟨e1, e2⟩ := SAM.wr h n (k + 1) q f (by omega) hq (fun j h1 h2 h3 => hb j (by omega) h2 h3)
      have hg0 : g k = 0 := by rw [hgk]; exact gs_0.mpr q0
      constructor
      · show (if g k = 0 then _ else _) = apl (mpS 2 cnt n (k + 1) (if cnt k = 0 then f else _)) q ((if cnt k = 0 then [] else _) ++ flB cnt mk n (k + 1))
        rw [if_pos hg0, if_pos q0, if_pos q0, List.nil_append, e1]
      · show (if g k = 0 then _ else _) = q + ((if cnt k = 0 then [] else _) ++ flB cnt mk n (k + 1)).length
        rw [if_pos hg0, if_pos q0, List.nil_append, e2]
    · have hg0 : ¬ g k = 0 := by rw [hgk]; exact mt gs_0.mp q0
      have hbk := hb k (Nat.le_refl _) (by omega) q0
      have hxk : (fFI k - 1) % 8 < 8 := Nat.mod_lt _ (by decide)
      have hx := bcl_xor _ hbk.1 _ hxk hbk.2
      have hof := bcl_oth _ hbk.1 _ hxk hbk.2
      have hfl := h.fld (k := k) (by omega) q0
      have hqk := hq k (by omega) q0
      have step : ∀ j, k + 1 ≤ j → j < 16 → cnt j ≠ 0 → bcl (apl (nup f (2 + (fFI k - 1) / 8) (f (2 + (fFI k - 1) / 8) + 128 / 2 ^ ((fFI k - 1) % 8))) q (fldB cnt mk k) (2 + (fFI j - 1) / 8)) ((fFI j - 1) % 8) := by
        intro j h1 h2 h3
        have hbj := hb j (by omega) h2 h3
        rw [apl_out _ _ _ _ (Or.inl (hq j h2 h3))]
        by_cases e : (fFI j - 1) / 8 = (fFI k - 1) / 8
        · rw [e, nup_s]
          rw [e] at hbj
          refine ⟨hof.1, hof.2 _ (Nat.mod_lt _ (by decide)) (fun z => ?_) hbj.2⟩
          have a1 := fFI_b j h2
          have a2 := fFI_b k (by omega)
          have := fFI_inj j h2 k (by omega) (by omega)
          omega
        · rw [nup_n (by omega)]; exact hbj
      obtain ⟨e1, e2⟩ := SAM.wr h n (k + 1) (q + (fldB cnt mk k).length) (apl (nup f (2 + (fFI k - 1) / 8) (f (2 + (fFI k - 1) / 8) + 128 / 2 ^ ((fFI k - 1) % 8))) q (fldB cnt mk k)) (by omega) (fun j h1 h2 => by have := hq j h1 h2; omega) step
      constructor
      · show (if g k = 0 then _ else _) = apl (mpS 2 cnt n (k + 1) (if cnt k = 0 then f else _)) q ((if cnt k = 0 then [] else _) ++ flB cnt mk n (k + 1))
        rw [if_neg hg0, if_neg q0, if_neg q0, hfl, e1, mpS_apl _ n (k + 1) _ (by omega) hq, hx, apl_app]
      · show (if g k = 0 then _ else _) = q + ((if cnt k = 0 then [] else _) ++ flB cnt mk n (k + 1)).length
        rw [if_neg hg0, if_neg q0, hfl, e2, List.length_append, Nat.add_assoc]
theorem s2L_eq {cnt g : Nat → Nat} : ∀ n k, k + n = 16 → (∀ j, j < 16 → g j = gs (cnt j)) → s2L g n k = s2L cnt n k
  | 0, _, _, _ => rfl
  | n + 1, k, hn, h => by
    have e : (64 < fFI k ∧ g k ≠ 0) ↔ (64 < fFI k ∧ cnt k ≠ 0) := by rw [h k (by omega)]; exact and_congr_right fun _ => not_congr gs_0
    show (if 64 < fFI k ∧ g k ≠ 0 then true else s2L g n (k + 1)) = (if 64 < fFI k ∧ cnt k ≠ 0 then true else s2L cnt n (k + 1))
    rw [s2L_eq n (k + 1) (by omega) h]
    by_cases q : 64 < fFI k ∧ cnt k ≠ 0
    · rw [if_pos q, if_pos (e.mpr q)]
    · rw [if_neg q, if_neg (mt e.mp q)]
theorem s2L_f {cnt : Nat → Nat} : ∀ n k, ¬ s2L cnt n k = true → ∀ j, k ≤ j → j < k + n → cnt j ≠ 0 → fFI j ≤ 64
  | 0, _, _, j, h1, h2, _ => absurd h2 (by omega)
  | n + 1, k, h, j, h1, h2, h3 => by
    have h : ¬ (if 64 < fFI k ∧ cnt k ≠ 0 then true else s2L cnt n (k + 1)) = true := h
    by_cases q : 64 < fFI k ∧ cnt k ≠ 0
    · rw [if_pos q] at h; exact absurd rfl h
    · rw [if_neg q] at h
      by_cases e : j = k
      · subst e; exact Nat.not_lt.mp fun z => q ⟨z, h3⟩
      · exact s2L_f n (k + 1) h j (by omega) (by omega) h3
theorem bcl_127 : ∀ x, x < 8 → 1 ≤ x → 128 / 2 ^ (7 - x) % 2 = 0 := by decide +kernel
theorem bcl_128 (x : Nat) (h1 : 1 ≤ x) (h2 : x < 8) : bcl 128 x := ⟨by decide, bcl_127 x h2 h1⟩
theorem bcl_0 (x : Nat) : bcl 0 x := ⟨by decide, by rw [Nat.zero_div]⟩
theorem nup_id {f : Nat → Nat} {a x : Nat} (h : f a = x) : nup f a x = f := by
  funext j
  unfold nup
  split
  · rename_i e; rw [e, h]
  · rfl
theorem anb4 (v : Nat) : (anb v 4).length = 2 := rfl
theorem SAM.compose (h : SAM ty cnt mk len tp g dr) : cmpT ty cnt mk tp = mT g dr ty tp ∧ cmpN cnt mk = mN g dr := by
  have e2 := s2L_eq 16 0 rfl h.2.2.2.1
  unfold cmpT cmpN mT mN
  rw [e2]
  have zz : ∀ n j, 2 ≤ j → j < 2 + n → apl (apl tp 0 (anb ty 4)) 2 (List.replicate n 0) j = 0 := fun n j h1 h2 => apl_zero n _ 2 j h1 h2
  by_cases q : s2L cnt 16 0 = true
  · rw [if_pos q, if_pos q, if_pos q, if_pos q, zz 16 2 (by decide) (by decide), show (0 ^^^ 128 : Nat) = 128 from rfl]
    obtain ⟨a1, a2⟩ := h.wr 16 0 18 (nup (apl (apl tp 0 (anb ty 4)) 2 (List.replicate 16 0)) 2 128) rfl (fun j hj _ => by have := fFI_b j hj; omega) (fun j _ hj _ => by
      have hb := fFI_b j hj
      by_cases e : (fFI j - 1) / 8 = 0
      · rw [e, nup_s]; exact bcl_128 _ (by omega) (by omega)
      · rw [nup_n (by omega), zz 16 _ (by omega) (by omega)]; exact bcl_0 _)
    exact ⟨a1.symm, a2.symm⟩
  · rw [if_neg q, if_neg q, if_neg q, if_neg q, nup_id (zz 8 2 (by decide) (by decide))]
    have hle := s2L_f 16 0 q
    obtain ⟨a1, a2⟩ := h.wr 16 0 10 (apl (apl tp 0 (anb ty 4)) 2 (List.replicate 8 0)) rfl (fun j hj h3 => by have := hle j (Nat.zero_le _) (by omega) h3; omega) (fun j _ hj h3 => by
      have := hle j (Nat.zero_le _) (by omega) h3
      rw [zz 8 _ (by omega) (by omega)]; exact bcl_0 _)
    exact ⟨a1.symm, a2.symm⟩
/-! the bytes are bytes -/
theorem apl_lt : ∀ (xs : List Nat) (f : Nat → Nat) (q : Nat), (∀ j, f j < 256) → (∀ x ∈ xs, x < 256) → ∀ j, apl f q xs j < 256
  | [], _, _, h, _ => h
  | x :: xs, f, q, h, hx => apl_lt xs _ (q + 1) (nup_lt h (hx x List.mem_cons_self)) (fun y hy => hx y (List.mem_cons_of_mem _ hy))
theorem mpS_lt {cnt : Nat → Nat} : ∀ n k (f : Nat → Nat), (∀ j, f j < 256) → ∀ j, mpS 2 cnt n k f j < 256
  | 0, _, _, h => h
  | n + 1, k, f, h => by
    refine mpS_lt n (k + 1) _ ?_
    split
    · exact h
    · exact nup_lt h (xor_lt (h _) (Nat.lt_of_le_of_lt (bit_s _) (by decide)))
theorem anb_lt (v dc : Nat) : ∀ x ∈ anb v dc, x < 256 := by
  intro x hx
  unfold anb at hx
  rcases List.mem_append.mp hx with h | h
  · split at h
    · rw [List.mem_singleton.mp h]; omega
    · cases h
  · rw [List.mem_singleton.mp h]; omega
theorem pB_lt {f : Nat → Nat} {b : Nat} : ∀ n k, (∀ i, i < k + 2 * n → f (b + i) < 10) → ∀ x ∈ pB f b n k, x < 256
  | 0, _, _, x, hx => by cases hx
  | n + 1, k, h, x, hx => by
    have hx : x ∈ (f (b + k) * 16 + f (b + (k + 1))) :: pB f b n (k + 2) := hx
    rcases List.mem_cons.mp hx with e | e
    · have := h k (by omega); have := h (k + 1) (by omega); omega
    · exact pB_lt n (k + 2) (fun i hi => h i (by omega)) x e
theorem dgB_lt {f : Nat → Nat} {b ct : Nat} (h : ∀ i, i < ct → f (b + i) < 10) : ∀ x ∈ dgB f b ct, x < 256 := by
  intro x hx
  unfold dgB at hx
  rcases List.mem_append.mp hx with e | e
  · split at e
    · cases e
    · rw [List.mem_singleton.mp e]; have := h 0 (by omega); omega
  · exact pB_lt (ct / 2) (ct % 2) (fun i hi => h i (by omega)) x e
theorem lB_lt {f : Nat → Nat} {b : Nat} (h : ∀ j, f j < 128) : ∀ n k, ∀ x ∈ lB f b n k, x < 256
  | 0, _, x, hx => by cases hx
  | n + 1, k, x, hx => by
    have hx : x ∈ f (b + k) :: lB f b n (k + 1) := hx
    rcases List.mem_cons.mp hx with e | e
    · have := h (b + k); omega
    · exact lB_lt h n (k + 1) x e
theorem flB_lt (h : dOK ty cnt mk) : ∀ n k, k + n ≤ 16 → (∀ x ∈ flB cnt mk n k, x < 256) ∧ (flB cnt mk n k).length + fRM (k + n) ≤ fRM k
  | 0, k, _ => ⟨fun x hx => (by cases hx), by show 0 + fRM (k + 0) ≤ fRM k; rw [Nat.zero_add, Nat.add_zero]; exact Nat.le_refl _⟩
  | n + 1, k, hn => by
    obtain ⟨a1, a2⟩ := flB_lt h n (k + 1) (by omega)
    have hs := fRM_s k (by omega)
    have hl := fldB_le (mk := mk) (h.2.1 k (by omega))
    rw [show k + 1 + n = k + (n + 1) by omega] at a2
    constructor
    · intro x hx
      have hx : x ∈ (if cnt k = 0 then [] else fldB cnt mk k) ++ flB cnt mk n (k + 1) := hx
      rcases List.mem_append.mp hx with e | e
      · split at e
        · cases e
        · unfold fldB at e
          rcases List.mem_append.mp e with e | e
          · split at e
            · cases e
            · exact anb_lt _ _ x e
          · split at e
            · exact dgB_lt (h.2.2.2 k (by omega) (by assumption)) x e
            · exact lB_lt h.2.2.1 _ _ x e
      · exact a1 x e
    · show ((if cnt k = 0 then [] else fldB cnt mk k) ++ flB cnt mk n (k + 1)).length + fRM (k + (n + 1)) ≤ fRM k
      rw [List.length_append]
      split
      · show 0 + _ + _ ≤ _; omega
      · omega
theorem SAM.composed (h : SAM ty cnt mk len tp g dr) : SAM ty cnt mk (cmpN cnt mk) (cmpT ty cnt mk tp) g dr := by
  obtain ⟨a1, a2⟩ := flB_lt h.1 16 0 (by decide)
  have e0 : fRM 0 = 144 := rfl
  have rz : ∀ n, ∀ x ∈ List.replicate n 0, x < 256 := fun n x hx => by rw [(List.mem_replicate.mp hx).2]; decide
  have hz := fun n => apl_lt (List.replicate n 0) (apl tp 0 (anb ty 4)) 2 (apl_lt _ _ _ h.2.2.1 (anb_lt _ _)) (rz n)
  refine h.tape ?_ ?_
  · unfold cmpN; split <;> omega
  · unfold cmpT
    split
    · exact apl_lt _ _ _ (mpS_lt _ _ _ (nup_lt (hz 16) (xor_lt (hz 16 _) (by decide)))) a1
    · exact apl_lt _ _ _ (mpS_lt _ _ _ (hz 8)) a1
end SAM3
