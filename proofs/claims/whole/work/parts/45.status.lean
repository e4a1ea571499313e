/-! the call status, given the bit count of a long (hB) -/
def smA (S : pS) : Nat → Int32
  | 0 => 0
  | i + 1 => smA S i + S.2.1 5 i
theorem st_8L {S : pS} {ν : gN} {k : Int32 → gN → Option (Int32 × gN)} (h : RP 1 S ν) (hc : S.1 ≤ 7) : ∀ j n i, i + j = S.1 → j < n → f_X4_satTogether_L4 1 k n (smA S i) (nI i) ν = k (smA S S.1) ν := by
  intro j
  induction j with
  | zero =>
    intro n i hi hn
    obtain ⟨n, rfl⟩ : ∃ m, n = m + 1 := ⟨n - 1, by omega⟩
    have e : i = S.1 := by omega
    rw [f_X4_satTogether_L4, h.1, e, if_pos (nI_le (Nat.le_refl _) (by omega))]
  | succ j ih =>
    intro n i hi hn
    obtain ⟨n, rfl⟩ : ∃ m, n = m + 1 := ⟨n - 1, by omega⟩
    have hi7 : i < 7 := by omega
    have ih := ih n (i + 1) (by omega) (by omega)
    have e5 : ν.1 (1 + 6) i = S.2.1 5 i := h.c5 hi7
    rw [smA] at ih
    rw [f_X4_satTogether_L4, h.1, if_neg (nI_ge (by omega) (by omega)), if_pos (ib_in hi7 (by decide)), nI_clamp (by omega), e5, nI_1]
    exact ih
theorem st_9L {S : pS} {ν : gN} {k : Int32 → gN → Option (Int32 × gN)} (h : RM S ν) (hc : S.1 ≤ 7) : ∀ j n i, i + j = S.1 → j < n → f_X9_status_L96 k n (smA S i) (nI i) ν = k (smA S S.1) ν := by
  intro j
  induction j with
  | zero =>
    intro n i hi hn
    obtain ⟨n, rfl⟩ : ∃ m, n = m + 1 := ⟨n - 1, by omega⟩
    have e : i = S.1 := by omega
    rw [f_X9_status_L96, h.1, e, if_pos (nI_le (Nat.le_refl _) (by omega))]
  | succ j ih =>
    intro n i hi hn
    obtain ⟨n, rfl⟩ : ∃ m, n = m + 1 := ⟨n - 1, by omega⟩
    have hi7 : i < 7 := by omega
    have ih := ih n (i + 1) (by omega) (by omega)
    rw [smA] at ih
    rw [f_X9_status_L96, h.1, if_neg (nI_ge (by omega) (by omega)), if_pos (ib_in hi7 (by decide)), nI_clamp (by omega), h.c5 hi7, nI_1]
    exact ih
theorem sf_9L {S : pS} {ν : gN} {k : Int32 → gN → Option (Int32 × gN)} (h : RM S ν) : ∀ j n i, i + j = 49 → j < n → f_X9_status_L59 k n (nI (cnt S.2.2.1 i)) (nI i) ν = k (nI (cnt S.2.2.1 49)) ν := by
  intro j
  induction j with
  | zero =>
    intro n i hi hn
    obtain ⟨n, rfl⟩ : ∃ m, n = m + 1 := ⟨n - 1, by omega⟩
    have e : i = 49 := by omega
    subst e
    rw [f_X9_status_L59, if_pos (by decide)]
  | succ j ih =>
    intro n i hi hn
    obtain ⟨n, rfl⟩ : ∃ m, n = m + 1 := ⟨n - 1, by omega⟩
    have hi49 : i < 49 := by omega
    have ih := ih n (i + 1) (by omega) (by omega)
    rw [cnt] at ih
    rw [f_X9_status_L59, if_neg (by rw [le_cn (c := 49) (k := 49) rfl (by omega) (by decide)]; omega), if_pos (ib_in hi49 (by decide)), nI_clamp (by omega), h.2.2.1 i hi49]
    cases hf : S.2.2.1 i with
    | false =>
      rw [if_pos (show (if false = true then (1 : Int32) else 0) = 0 from rfl), nI_1]
      rw [if_neg (by rw [hf]; decide)] at ih
      exact ih
    | true =>
      rw [if_neg (show ¬ (if true = true then (1 : Int32) else 0) = 0 by decide), nI_1, nI_1]
      rw [if_pos hf] at ih
      exact ih
