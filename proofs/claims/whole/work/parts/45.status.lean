/-! the call status, given the bit count of a long (hB) -/
def smA (S : pS) : Nat → Int32
  | 0 => 0
  | i + 1 => smA S i + S.2.1 5 i
theorem st_8L {S : pS} {ν : gN} {k : Int32 → gN → Option (Int32 × gN)} (h : RP 1 S ν) (hc : S.1 ≤ 7) : ∀ j n i, i + j = S.1 → j < n → f_X4_satTogether_L4 1 k n (smA S i) (nI i) ν = k (smA S S.1) ν := by
  intro j
  induction j with
  | zero =>
    intro n i hi hn
    obtain ⟨n, rfl⟩ : ∃ m, n = m + 1 := ⟨n - 1, by omega⟩
    have e : i = S.1 := by omega
    rw [f_X4_satTogether_L4, h.1, e, if_pos (nI_le (Nat.le_refl _) (by omega))]
  | succ j ih =>
    intro n i hi hn
    obtain ⟨n, rfl⟩ : ∃ m, n = m + 1 := ⟨n - 1, by omega⟩
    have hi7 : i < 7 := by omega
    have ih := ih n (i + 1) (by omega) (by omega)
    have e5 : ν.1 (1 + 6) i = S.2.1 5 i := h.c5 hi7
    rw [smA] at ih
    rw [f_X4_satTogether_L4, h.1, if_neg (nI_ge (by omega) (by omega)), if_pos (ib_in hi7 (by decide)), nI_clamp (by omega), e5, nI_1]
    exact ih
theorem st_9L {S : pS} {ν : gN} {k : Int32 → gN → Option (Int32 × gN)} (h : RM S ν) (hc : S.1 ≤ 7) : ∀ j n i, i + j = S.1 → j < n → f_X9_status_L96 k n (smA S i) (nI i) ν = k (smA S S.1) ν := by
  intro j
  induction j with
  | zero =>
    intro n i hi hn
    obtain ⟨n, rfl⟩ : ∃ m, n = m + 1 := ⟨n - 1, by omega⟩
    have e : i = S.1 := by omega
    rw [f_X9_status_L96, h.1, e, if_pos (nI_le (Nat.le_refl _) (by omega))]
  | succ j ih =>
    intro n i hi hn
    obtain ⟨n, rfl⟩ : ∃ m, n = m + 1 := ⟨n - 1, by omega⟩
    have hi7 : i < 7 := by omega
    have ih := ih n (i + 1) (by omega) (by omega)
    rw [smA] at ih
    rw [f_X9_status_L96, h.1, if_neg (nI_ge (by omega) (by omega)), if_pos (ib_in hi7 (by decide)), nI_clamp (by omega), h.c5 hi7, nI_1]
    exact ih
theorem sf_9L {S : pS} {ν : gN} {k : Int32 → gN → Option (Int32 × gN)} (h : RM S ν) : ∀ j n i, i + j = 49 → j < n → f_X9_status_L59 k n (nI (cnt S.2.2.1 i)) (nI i) ν = k (nI (cnt S.2.2.1 49)) ν := by
  intro j
  induction j with
  | zero =>
    intro n i hi hn
    obtain ⟨n, rfl⟩ : ∃ m, n = m + 1 := ⟨n - 1, by omega⟩
    have e : i = 49 := by omega
    subst e
    rw [f_X9_status_L59, if_pos (by decide)]
  | succ j ih =>
    intro n i hi hn
    obtain ⟨n, rfl⟩ : ∃ m, n = m + 1 := ⟨n - 1, by omega⟩
    have hi49 : i < 49 := by omega
    have ih := ih n (i + 1) (by omega) (by omega)
    rw [cnt] at ih
    rw [f_X9_status_L59, if_neg (by rw [le_cn (c := 49) (k := 49) rfl (by omega) (by decide)]; omega), if_pos (ib_in hi49 (by decide)), nI_clamp (by omega), h.2.2.1 i hi49]
    cases hf : S.2.2.1 i with
    | false =>
      rw [if_pos (show (if false = true then (1 : Int32) else 0) = 0 from rfl), nI_1]
      rw [if_neg (by rw [hf]; decide)] at ih
      exact ih
    | true =>
      rw [if_neg (show ¬ (if true = true then (1 : Int32) else 0) = 0 by decide), nI_1, nI_1]
      rw [if_pos hf] at ih
      exact ih
theorem op_status (hB : ∀ (m : Int64) (F : Nat → Bool) (ν : gN), MK F m → (∀ i, 49 ≤ i → F i = false) → f_J13_bitCount_95d88 m ν = some (nI (cnt F 49), ν)) (x : Int32) {Z : zS} (hZ : okZ Z) : both (f_X8_status x) (f_X9_status x) Z := by
  have hc := hZ.1.1
  have lo : ∀ a, (bt x 11 17 = false) → (∀ ν, IC Z ν → f_X8_status x ν = some (a, ν)) → (∀ ν, IM Z ν → f_X9_status x ν = some (a, ν)) → both (f_X8_status x) (f_X9_status x) Z := fun a _ h8 h9 => both_rd hZ h8 h9
  by_cases h0 : x = 0
  · subst h0
    refine both_rd (a := nI Z.1.1) hZ (fun ν h => ?_) (fun ν h => ?_)
    · simp only [f_X8_status, bw8, show bt 0 11 17 = false from by decide, i01_f, Option.bind_some, ↓reduceIte, h.1.1]
    · simp only [f_X9_status, ↓reduceIte, h.1.1]
  by_cases h1 : x = 1
  · subst h1
    refine both_rd (a := nI (cnt Z.1.2.2.1 49)) hZ (fun ν h => ?_) (fun ν h => ?_)
    · rw [f_X8_status, bw8, show bt 1 11 17 = false from by decide, Option.bind_some, if_pos (show i01 false = 0 from rfl), if_neg (show ¬ (1 : Int32) = 0 by decide), if_pos rfl]
      show (f_J13_bitCount_95d88 (ν.2 1 7) ν).bind _ = _
      rw [hB _ _ ν h.1.2.2.1 hZ.1.2.2.2.1]; rfl
    · have l := sf_9L (k := fun z2_4 ν_5 => some (z2_4, ν_5)) h.1 49 FU 0 rfl (by decide)
      rw [f_X9_status, if_neg (show ¬ (1 : Int32) = 0 by decide), if_pos rfl]
      exact l
  by_cases h6 : x = 6
  · subst h6
    refine both_rd (a := smA Z.1 Z.1.1) hZ (fun ν h => ?_) (fun ν h => ?_)
    · have l := st_8L (k := fun z1_2 ν_3 => some (z1_2, ν_3)) h.1 hc Z.1.1 FU 0 (by omega) (by unfold FU; omega)
      simp only [f_X8_status, bw8, show bt 6 11 17 = false from by decide, i01_f, Option.bind_some, ↓reduceIte, show ((6 : Int32) = 0) = False from by decide, show ((6 : Int32) = 1) = False from by decide, show ((6 : Int32) = 2) = False from by decide, show ((6 : Int32) = 3) = False from by decide, show ((6 : Int32) = 4) = False from by decide, show ((6 : Int32) = 5) = False from by decide, f_X4_satTogether]
      rw [show f_X4_satTogether_L4 1 (fun z1_2 ν_3 => some (z1_2, ν_3)) FU 0 0 ν = _ from l]; rfl
    · have l := st_9L (k := fun z2_16 ν_17 => some (z2_16, ν_17)) h.1 hc Z.1.1 FU 0 (by omega) (by unfold FU; omega)
      simp only [f_X9_status, ↓reduceIte, show ((6 : Int32) = 0) = False from by decide, show ((6 : Int32) = 1) = False from by decide, show ((6 : Int32) = 2) = False from by decide, show ((6 : Int32) = 3) = False from by decide, show ((6 : Int32) = 4) = False from by decide, show ((6 : Int32) = 5) = False from by decide]
      exact l
  by_cases hw : x = 2 ∨ x = 3 ∨ x = 4 ∨ x = 5
  · obtain ⟨k, hk, rfl⟩ : ∃ k, k < 4 ∧ x = nI (2 + k) := by
      rcases hw with rfl | rfl | rfl | rfl
      · exact ⟨0, by decide, rfl⟩
      · exact ⟨1, by decide, rfl⟩
      · exact ⟨2, by decide, rfl⟩
      · exact ⟨3, by decide, rfl⟩
    have hk' : k = 0 ∨ k = 1 ∨ k = 2 ∨ k = 3 := by omega
    refine both_rd (a := Z.1.2.2.2.1 k) hZ (fun ν h => ?_) (fun ν h => ?_)
    · have e := h.1.2.2.2.1 k hk
      rw [← e, f_X8_status, bw8]
      rcases hk' with rfl | rfl | rfl | rfl <;> rfl
    · have e := h.1.2.2.2.1 k hk
      rw [← e, f_X9_status]
      rcases hk' with rfl | rfl | rfl | rfl <;> rfl
  simp only [not_or] at hw
  obtain ⟨h2, h3, h4, h5⟩ := hw
  by_cases h7 : x = 7
  · subst h7
    refine both_rd (a := Z.1.2.2.2.2) hZ (fun ν h => ?_) (fun ν h => ?_)
    · rw [← h.1.2.2.2.2, f_X8_status, bw8]; rfl
    · rw [← h.1.2.2.2.2, f_X9_status]; rfl
  by_cases h8 : x = 8
  · subst h8
    refine both_rd (a := nI Z.2.2.2.2.1.1) hZ (fun ν h => ?_) (fun ν h => ?_)
    · rw [← h.2.2.2.2.1.1, f_X8_status, bw8]; rfl
    · rw [← h.2.2.2.2.1.1, f_X9_status]; rfl
  cases hb : bt x 11 17 with
  | false =>
    refine both_rd (a := -1) hZ (fun ν h => ?_) (fun ν h => ?_)
    · simp only [f_X8_status, bw8, hb, i01_f, Option.bind_some, ↓reduceIte, h0, h1, h2, h3, h4, h5, h6, h7, h8]
    · simp only [f_X9_status, bw9, hb, i01_f, Option.bind_some, ↓reduceIte, h0, h1, h2, h3, h4, h5, h6, h7, h8]
  | true =>
    obtain ⟨k, k1, k2, rfl⟩ := bt_of (a := 11) (b := 17) (by decide) (by decide) hb
    have e10 : nI k - 10 = nI (k - 10) := nI_sub (b := 10) (by omega)
    refine both_rd (a := Z.2.2.1 (k - 10)) hZ (fun ν h => ?_) (fun ν h => ?_)
    · simp only [f_X8_status, bw8, hb, i01_1, b1, Option.bind_some, ↓reduceIte, e10, ib_in (show k - 10 < 8 by omega) (show 8 < 2 ^ 31 by decide), nI_clamp (show k - 10 < 2 ^ 31 by omega), h.2.2.1 (k - 10) (by omega)]
    · simp only [f_X9_status, bw9, hb, i01_1, b1, Option.bind_some, ↓reduceIte, h0, h1, h2, h3, h4, h5, h6, h7, h8, e10, ib_in (show k - 10 < 8 by omega) (show 8 < 2 ^ 31 by decide), nI_clamp (show k - 10 < 2 ^ 31 by omega), h.2.2.1 (k - 10) (by omega)]
