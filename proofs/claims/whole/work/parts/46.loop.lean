/-! THE LAW'S LOOP, out of the calls (fits tells act port status still as hypotheses) -/
theorem L6 {L i : Nat} (hL : L ≤ 3072) (hi : i ≤ L) : (nI L - 6 < nI i) = (L < i + 6) := by
  apply propext
  rw [Int32.lt_iff_toInt_lt, show (6 : Int32) = nI 6 from rfl, Int32.toInt_sub, nI_toInt (by omega), nI_toInt (by decide), nI_toInt (by omega)]
  rw [show ((L : Int) - ((6 : Nat) : Int)).bmod (2 ^ 32) = (L : Int) - 6 from Int.bmod_eq_of_le (by omega) (by omega)]
  omega
theorem law_L {L : Nat} {xs : Nat → Int32} (hL : L ≤ 3072) (h_fits : ∀ (a0 a1 a2 a3 : Int32) {Z : zS}, okZ Z → both (f_X8_fits a0 a1 a2 a3) (f_X9_fits a0 a1 a2 a3) Z) (h_tells : ∀ (a0 a1 : Int32) {Z : zS}, okZ Z → both (f_X8_tells a0 a1) (f_X9_tells a0 a1) Z) (h_act : ∀ (a0 a1 a2 : Int32) {Z : zS}, okZ Z → both (f_X8_act a0 a1 a2) (f_X9_act a0 a1 a2) Z) (h_port : ∀ (a0 : Int32) {Z : zS}, okZ Z → both (f_X8_port a0) (f_X9_port a0) Z) (h_status : ∀ (a0 : Int32) {Z : zS}, okZ Z → both (f_X8_status a0) (f_X9_status a0) Z) : ∀ n i Z ν, i ≤ L → L < n + i → okZ Z → IC Z ν → IM Z ν → ∃ r, f_L_law_L18 L xs n (nI i) ν = some r ∧ r.1 = 1 := by
  intro n
  induction n with
  | zero => intro i Z ν h1 h2; omega
  | succ n ih =>
    intro i Z ν h1 h2 hZ hC hM
    by_cases hlast : L < i + 6
    · exact ⟨(1, ν), by rw [f_L_law_L18, if_pos (by rw [L6 hL h1]; exact hlast)], rfl⟩
    have hK : ∀ Z' ν', okZ Z' → IC Z' ν' → IM Z' ν' → ∃ r, f_L_law_L18 L xs n (nI (i + 6)) ν' = some r ∧ r.1 = 1 := fun Z' ν' g1 g2 g3 => ih (i + 6) Z' ν' (by omega) (by omega) g1 g2 g3
    have a1 : nI i + 1 = nI (i + 1) := nI_add i 1
    have a2 : nI i + 2 = nI (i + 2) := nI_add i 2
    have a3 : nI i + 3 = nI (i + 3) := nI_add i 3
    have a4 : nI i + 4 = nI (i + 4) := nI_add i 4
    have a5 : nI i + 5 = nI (i + 5) := nI_add i 5
    have a6 : nI i + 6 = nI (i + 6) := nI_add i 6
    rw [f_L_law_L18, if_neg (by rw [L6 hL h1]; exact hlast), if_pos (ib_in (show i < L by omega) (by omega))]
    simp only [a1, a2, a3, a4, a5, a6, ib_in (show i + 1 < L by omega) (show L < 2 ^ 31 by omega), ib_in (show i + 2 < L by omega) (show L < 2 ^ 31 by omega), ib_in (show i + 3 < L by omega) (show L < 2 ^ 31 by omega), ib_in (show i + 4 < L by omega) (show L < 2 ^ 31 by omega), ib_in (show i + 5 < L by omega) (show L < 2 ^ 31 by omega), nI_clamp (show i < 2 ^ 31 by omega), ↓reduceIte]
    by_cases h0 : xs i &&& 63 = 0
    · rw [if_pos h0]
      exact turn (K := fun μ => f_L_law_L18 L xs n (nI (i + 6)) μ) (op_row _ _ _ hZ) hC hM hK
    rw [if_neg h0]
    by_cases h1 : xs i &&& 63 = 1
    · rw [if_pos h1]
      exact turn (K := fun μ => f_L_law_L18 L xs n (nI (i + 6)) μ) (op_set _ _ _ hZ) hC hM hK
    rw [if_neg h1]
    by_cases h2 : xs i &&& 63 = 2
    · rw [if_pos h2]
      exact turn (K := fun μ => f_L_law_L18 L xs n (nI (i + 6)) μ) (op_copy _ _ _ _ _ hZ) hC hM hK
    rw [if_neg h2]
    by_cases h3 : xs i &&& 63 = 3
    · rw [if_pos h3]
      exact turnL (K := fun μ => f_L_law_L18 L xs n (nI (i + 6)) μ) hZ hC hM hK
    rw [if_neg h3]
    by_cases h4 : xs i &&& 63 = 4
    · rw [if_pos h4]
      exact turn (K := fun μ => f_L_law_L18 L xs n (nI (i + 6)) μ) (op_show _ _ hZ) hC hM hK
    rw [if_neg h4]
    by_cases h5 : xs i &&& 63 = 5
    · rw [if_pos h5]
      exact turn (K := fun μ => f_L_law_L18 L xs n (nI (i + 6)) μ) (op_holds _ hZ) hC hM hK
    rw [if_neg h5]
    by_cases h6 : xs i &&& 63 = 6
    · rw [if_pos h6]
      exact turn (K := fun μ => f_L_law_L18 L xs n (nI (i + 6)) μ) (op_says _ _ hZ) hC hM hK
    rw [if_neg h6]
    by_cases h7 : xs i &&& 63 = 7
    · rw [if_pos h7]
      exact turn (K := fun μ => f_L_law_L18 L xs n (nI (i + 6)) μ) (op_person _ _ _ _ _ hZ) hC hM hK
    rw [if_neg h7]
    by_cases h8 : xs i &&& 63 = 8
    · rw [if_pos h8]
      by_cases hf : xs (nI (i + 2)).toNatClampNeg = 0
      · simp only [hf, ↓reduceIte]
        exact turn (K := fun μ => f_L_law_L18 L xs n (nI (i + 6)) μ) (op_fence _ false hZ) hC hM hK
      · simp only [hf, ↓reduceIte]
        exact turn (K := fun μ => f_L_law_L18 L xs n (nI (i + 6)) μ) (op_fence _ true hZ) hC hM hK
    rw [if_neg h8]
    by_cases h9 : xs i &&& 63 = 9
    · rw [if_pos h9]
      exact turn (K := fun μ => f_L_law_L18 L xs n (nI (i + 6)) μ) (op_tell _ _ _ hZ) hC hM hK
    rw [if_neg h9]
    by_cases h10 : xs i &&& 63 = 10
    · rw [if_pos h10]
      exact turn (K := fun μ => f_L_law_L18 L xs n (nI (i + 6)) μ) (op_ask _ _ hZ) hC hM hK
    rw [if_neg h10]
    by_cases h11 : xs i &&& 63 = 11
    · rw [if_pos h11]
      exact turn (K := fun μ => f_L_law_L18 L xs n (nI (i + 6)) μ) (op_personOf _ _ hZ) hC hM hK
    rw [if_neg h11]
    by_cases h12 : xs i &&& 63 = 12
    · rw [if_pos h12]
      exact turn (K := fun μ => f_L_law_L18 L xs n (nI (i + 6)) μ) (op_squareOf _ _ hZ) hC hM hK
    rw [if_neg h12]
    by_cases h13 : xs i &&& 63 = 13
    · rw [if_pos h13]
      exact turn (K := fun μ => f_L_law_L18 L xs n (nI (i + 6)) μ) (h_port _ hZ) hC hM hK
    rw [if_neg h13]
    by_cases h14 : xs i &&& 63 = 14
    · rw [if_pos h14]
      exact turn (K := fun μ => f_L_law_L18 L xs n (nI (i + 6)) μ) (op_fault hZ) hC hM hK
    rw [if_neg h14]
    by_cases h15 : xs i &&& 63 = 15
    · rw [if_pos h15]
      exact turn (K := fun μ => f_L_law_L18 L xs n (nI (i + 6)) μ) (op_far _ hZ) hC hM hK
    rw [if_neg h15]
    by_cases h16 : xs i &&& 63 = 16
    · rw [if_pos h16]
      exact turn (K := fun μ => f_L_law_L18 L xs n (nI (i + 6)) μ) (op_who _ hZ) hC hM hK
    rw [if_neg h16]
    by_cases h17 : xs i &&& 63 = 17
    · rw [if_pos h17]
      exact turn (K := fun μ => f_L_law_L18 L xs n (nI (i + 6)) μ) (op_where _ _ hZ) hC hM hK
    rw [if_neg h17]
    by_cases h18 : xs i &&& 63 = 18
    · rw [if_pos h18]
      exact turn (K := fun μ => f_L_law_L18 L xs n (nI (i + 6)) μ) (op_chosen _ hZ) hC hM hK
    rw [if_neg h18]
    by_cases h19 : xs i &&& 63 = 19
    · rw [if_pos h19]
      exact turn (K := fun μ => f_L_law_L18 L xs n (nI (i + 6)) μ) (op_hide _ _ hZ) hC hM hK
    rw [if_neg h19]
    by_cases h20 : xs i &&& 63 = 20
    · rw [if_pos h20]
      exact turn (K := fun μ => f_L_law_L18 L xs n (nI (i + 6)) μ) (op_to _ _ hZ) hC hM hK
    rw [if_neg h20]
    by_cases h21 : xs i &&& 63 = 21
    · rw [if_pos h21]
      exact turn (K := fun μ => f_L_law_L18 L xs n (nI (i + 6)) μ) (op_spared _ _ hZ) hC hM hK
    rw [if_neg h21]
    by_cases h22 : xs i &&& 63 = 22
    · rw [if_pos h22]
      exact turn (K := fun μ => f_L_law_L18 L xs n (nI (i + 6)) μ) (op_wanting _ _ _ hZ) hC hM hK
    rw [if_neg h22]
    by_cases h23 : xs i &&& 63 = 23
    · rw [if_pos h23]
      exact turn (K := fun μ => f_L_law_L18 L xs n (nI (i + 6)) μ) (op_without _ _ hZ) hC hM hK
    rw [if_neg h23]
    by_cases h24 : xs i &&& 63 = 24
    · rw [if_pos h24]
      exact turn (K := fun μ => f_L_law_L18 L xs n (nI (i + 6)) μ) (h_fits _ _ _ _ hZ) hC hM hK
    rw [if_neg h24]
    by_cases h25 : xs i &&& 63 = 25
    · rw [if_pos h25]
      exact turn (K := fun μ => f_L_law_L18 L xs n (nI (i + 6)) μ) (h_tells _ _ hZ) hC hM hK
    rw [if_neg h25]
    by_cases h26 : xs i &&& 63 = 26
    · rw [if_pos h26]
      exact turn (K := fun μ => f_L_law_L18 L xs n (nI (i + 6)) μ) (op_power _ _ hZ) hC hM hK
    rw [if_neg h26]
    by_cases h27 : xs i &&& 63 = 27
    · rw [if_pos h27]
      exact turn (K := fun μ => f_L_law_L18 L xs n (nI (i + 6)) μ) (op_carries _ hZ) hC hM hK
    rw [if_neg h27]
    by_cases h28 : xs i &&& 63 = 28
    · rw [if_pos h28]
      exact turn (K := fun μ => f_L_law_L18 L xs n (nI (i + 6)) μ) (op_bell _ hZ) hC hM hK
    rw [if_neg h28]
    by_cases h29 : xs i &&& 63 = 29
    · rw [if_pos h29]
      exact turn (K := fun μ => f_L_law_L18 L xs n (nI (i + 6)) μ) (op_crowd _ _ hZ) hC hM hK
    rw [if_neg h29]
    by_cases h30 : xs i &&& 63 = 30
    · rw [if_pos h30]
      exact turn (K := fun μ => f_L_law_L18 L xs n (nI (i + 6)) μ) (op_judge _ _ _ hZ) hC hM hK
    rw [if_neg h30]
    by_cases h31 : xs i &&& 63 = 31
    · rw [if_pos h31]
      exact turn (K := fun μ => f_L_law_L18 L xs n (nI (i + 6)) μ) (op_run _ hZ) hC hM hK
    rw [if_neg h31]
    by_cases h32 : xs i &&& 63 = 32
    · rw [if_pos h32]
      exact turn (K := fun μ => f_L_law_L18 L xs n (nI (i + 6)) μ) (op_vote hZ) hC hM hK
    rw [if_neg h32]
    by_cases h33 : xs i &&& 63 = 33
    · rw [if_pos h33]
      exact turn (K := fun μ => f_L_law_L18 L xs n (nI (i + 6)) μ) (op_years _ hZ) hC hM hK
    rw [if_neg h33]
    by_cases h34 : xs i &&& 63 = 34
    · rw [if_pos h34]
      exact turn (K := fun μ => f_L_law_L18 L xs n (nI (i + 6)) μ) (op_seed _ hZ) hC hM hK
    rw [if_neg h34]
    by_cases h35 : xs i &&& 63 = 35
    · rw [if_pos h35]
      exact turn (K := fun μ => f_L_law_L18 L xs n (nI (i + 6)) μ) (h_act _ _ _ hZ) hC hM hK
    rw [if_neg h35]
    by_cases h36 : xs i &&& 63 = 36
    · rw [if_pos h36]
      exact turn (K := fun μ => f_L_law_L18 L xs n (nI (i + 6)) μ) (op_trace _ hZ) hC hM hK
    rw [if_neg h36]
    by_cases h37 : xs i &&& 63 = 37
    · rw [if_pos h37]
      exact turn (K := fun μ => f_L_law_L18 L xs n (nI (i + 6)) μ) (op_image hZ) hC hM hK
    rw [if_neg h37]
    by_cases h38 : xs i &&& 63 = 38
    · rw [if_pos h38]
      exact turn (K := fun μ => f_L_law_L18 L xs n (nI (i + 6)) μ) (op_restore hZ) hC hM hK
    rw [if_neg h38]
    by_cases h39 : xs i &&& 63 = 39
    · rw [if_pos h39]
      exact turn (K := fun μ => f_L_law_L18 L xs n (nI (i + 6)) μ) (h_status _ hZ) hC hM hK
    rw [if_neg h39]
    exact hK Z ν hZ hC hM
theorem hp_of (h_fits : ∀ (a0 a1 a2 a3 : Int32) {Z : zS}, okZ Z → both (f_X8_fits a0 a1 a2 a3) (f_X9_fits a0 a1 a2 a3) Z) (h_tells : ∀ (a0 a1 : Int32) {Z : zS}, okZ Z → both (f_X8_tells a0 a1) (f_X9_tells a0 a1) Z) (h_act : ∀ (a0 a1 a2 : Int32) {Z : zS}, okZ Z → both (f_X8_act a0 a1 a2) (f_X9_act a0 a1 a2) Z) (h_port : ∀ (a0 : Int32) {Z : zS}, okZ Z → both (f_X8_port a0) (f_X9_port a0) Z) (h_status : ∀ (a0 : Int32) {Z : zS}, okZ Z → both (f_X8_status a0) (f_X9_status a0) Z) (L : Nat) (xs : Nat → Int32) (hL : L ≤ 3072) : ∃ r, f_L_law_L18 L xs FU 0 (ME.1, ME.2.1) = some r ∧ r.1 = 1 :=
  law_L hL h_fits h_tells h_act h_port h_status FU 0 Z0 (ME.1, ME.2.1) (Nat.zero_le _) (by unfold FU; omega) okZ_0 IC_0 IM_0
