/-! the call power -/
theorem or_9 : ∀ k, k < 7 → ∀ ν, f_X9_orders 10 (nI k) ν = some (g_tO k, ν) := by
  intro k hk ν
  have hk' : k = 0 ∨ k = 1 ∨ k = 2 ∨ k = 3 ∨ k = 4 ∨ k = 5 ∨ k = 6 := by omega
  rcases hk' with rfl | rfl | rfl | rfl | rfl | rfl | rfl <;> rfl
theorem or_8 {m : Nat} (ν : gN) (hm : m < 128) (hb : bcN m < 7) : f_X0_ordersOf (nI m) ν = some (g_tO (bcN m), ν) := by
  rw [f_X0_ordersOf, bcq hm, Option.bind_some, if_neg (by show ¬ (7 : Int32) ≤ nI (bcN m); rw [le_cn (c := 7) (k := 7) rfl (by omega) (by decide)]; omega), if_pos (ib_in hb (by decide)), nI_clamp (by omega)]
theorem bc_dif : ∀ o, o < 128 → ∀ y, y < 128 → y &&& (127 - o) = 0 → bcN (o &&& (127 - y)) = bcN o - bcN y ∧ bcN y ≤ bcN o := by
  have h : ∀ o, o < 128 → ∀ y, y < 128 → (decide (y &&& (127 - o) = 0) = true → (decide (bcN (o &&& (127 - y)) = bcN o - bcN y) && decide (bcN y ≤ bcN o)) = true) := by decide +kernel
  intro o ho y hy hs
  have := h o ho y hy (decide_eq_true hs)
  simpa using this
theorem bc_one : ∀ m, m < 128 → ∀ i, i < 7 → m.testBit i = true → bcN (m &&& (127 - 2 ^ i)) + 1 = bcN m ∧ bcN (m &&& (127 - 2 ^ i)) < 7 := by
  have h : ∀ m, m < 128 → ∀ i, i < 7 → m.testBit i = true → (decide (bcN (m &&& (127 - 2 ^ i)) + 1 = bcN m) && decide (bcN (m &&& (127 - 2 ^ i)) < 7)) = true := by decide +kernel
  intro m hm i hi hb
  have := h m hm i hi hb
  simpa using this
theorem sub_one : ∀ m, m < 128 → ∀ i, i < 7 → ∀ y, y < 128 → ((y &&& (127 - (m &&& (127 - 2 ^ i))) = 0) ↔ (y &&& (127 - m) = 0 ∧ y.testBit i = false)) := by
  intro m hm i hi y hy
  have hp := p2_lt hi
  have hol : m &&& (127 - 2 ^ i) < 128 := Nat.lt_of_le_of_lt Nat.and_le_left hm
  have key : ∀ o, o < 128 → ((y &&& (127 - o) = 0) ↔ ∀ q, q < 7 → y.testBit q = true → o.testBit q = true) := by
    intro o ho
    constructor
    · intro h q hq hyq
      have t := congrArg (fun z => z.testBit q) h
      simp only [Nat.testBit_and, no_bit o ho q hq, hyq, Bool.true_and, Nat.zero_testBit] at t
      cases hb : o.testBit q with
      | true => rfl
      | false => rw [hb] at t; exact absurd t (by decide)
    · intro h
      apply Nat.eq_of_testBit_eq
      intro q
      rw [Nat.testBit_and, Nat.zero_testBit]
      by_cases hq : q < 7
      · rw [no_bit o ho q hq]
        cases hyq : y.testBit q with
        | false => rfl
        | true => rw [h q hq hyq]; rfl
      · have : y.testBit q = false := Nat.testBit_lt_two_pow (Nat.lt_of_lt_of_le hy (Nat.pow_le_pow_right (n := 2) (i := 7) (by decide) (by omega)))
        rw [this]; rfl
  rw [key _ hol, key m hm]
  constructor
  · intro h
    refine ⟨fun q hq hyq => ?_, ?_⟩
    · have t := h q hq hyq
      rw [Nat.testBit_and, no_bit _ hp q hq] at t
      simp only [Bool.and_eq_true] at t
      exact t.1
    · cases hb : y.testBit i with
      | false => rfl
      | true =>
        have t := h i hi hb
        rw [Nat.testBit_and, no_bit _ hp i hi, Nat.testBit_two_pow_self] at t
        simp at t
  · rintro ⟨h1, h2⟩ q hq hyq
    rw [Nat.testBit_and, no_bit _ hp q hq, h1 q hq hyq, Nat.testBit_two_pow]
    by_cases e : i = q
    · rw [← e, h2] at hyq; exact absurd hyq (by decide)
    · simp [e]
/-- the pivots of i in m, over the sets below t -/
def pvN (S : pS) (m i : Nat) : Nat → Int32
  | 0 => 0
  | t + 1 => if t &&& (127 - (m &&& (127 - 2 ^ i))) = 0 ∧ cry S t m = false ∧ cry S (t ||| 2 ^ i) m = true then pvN S m i t + g_tO (bcN t) * g_tO (bcN m - bcN t - 1) else pvN S m i t
theorem pvN_const (S : pS) {m i : Nat} (hm : m < 128) (hi : i < 7) : ∀ j, m + 1 + j ≤ 128 → pvN S m i (m + 1 + j) = pvN S m i (m + 1)
  | 0, _ => rfl
  | j + 1, h => by
    rw [← Nat.add_assoc, pvN, if_neg (fun z => sub_gt m hm (m + 1 + j) (by omega) (by omega) ((sub_one m hm i hi (m + 1 + j) (by omega)).mp z.1).1)]
    exact pvN_const S hm hi j (by omega)
theorem pv_8 {p m i : Nat} {S : pS} {ν : gN} {k : Int32 → gN → Option (Int32 × gN)} (h : RP p S ν) (hc : S.1 ≤ 7) (hm : m < 128) (hi : i < 7) (hb : m.testBit i = true) : ∀ j n t, t + j = 2 ^ S.1 → j < n → f_X0_pivots_L17 p (nI m) (nI (2 ^ i)) (nI (m &&& (127 - 2 ^ i))) k n (pvN S m i t) (nI t) ν = k (pvN S m i (2 ^ S.1)) ν := by
  have h2 := p2_le hc
  have hp := p2_lt hi
  have hol : m &&& (127 - 2 ^ i) < 128 := Nat.lt_of_le_of_lt Nat.and_le_left hm
  intro j
  induction j with
  | zero =>
    intro n t hj hn
    obtain ⟨n, rfl⟩ : ∃ m, n = m + 1 := ⟨n - 1, by omega⟩
    rw [f_X0_pivots_L17, h.1, two_n _ (by omega), if_pos (nI_le (by omega) (by omega)), show t = 2 ^ S.1 by omega]
  | succ j ih =>
    intro n t hj hn
    obtain ⟨n, rfl⟩ : ∃ m, n = m + 1 := ⟨n - 1, by omega⟩
    have ih := ih n (t + 1) (by omega) (by omega)
    have ht : t < 128 := by omega
    rw [pvN] at ih
    rw [f_X0_pivots_L17, h.1, two_n _ (by omega), if_neg (nI_ge (by omega) (by omega)), nI_1]
    by_cases hs : t &&& (127 - (m &&& (127 - 2 ^ i))) = 0
    · rw [if_pos (by rw [sub0 ht hol]; exact hs), if_neg (by decide), cy8 h hc ht hm, Option.bind_some]
      cases hc1 : cry S t m with
      | true =>
        rw [if_neg (show ¬ (i01 true, ν).1 = 0 from by show ¬ i01 true = 0; decide)]
        rw [if_neg (fun z => by rw [hc1] at z; exact absurd z.2.1 (by decide))] at ih
        exact ih
      | false =>
        rw [if_pos (show (i01 false, ν).1 = 0 from rfl), or_2 _ ht _ hp]
        show ((f_X0_isCarrying p (nI (t ||| 2 ^ i)) (nI m) ν).bind _) = _
        rw [cy8 h hc (or_lt ht hp) hm, Option.bind_some]
        cases hc2 : cry S (t ||| 2 ^ i) m with
        | false =>
          rw [if_pos (show (i01 false, ν).1 = 0 from rfl)]
          rw [if_neg (fun z => by rw [hc2] at z; exact absurd z.2.2 (by decide))] at ih
          exact ih
        | true =>
          rw [if_neg (show ¬ (i01 true, ν).1 = 0 from by show ¬ i01 true = 0; decide)]
          rw [if_pos ⟨hs, hc1, hc2⟩] at ih
          obtain ⟨q1, q2⟩ := bc_one m hm i hi hb
          obtain ⟨q3, q4⟩ := bc_dif _ hol t ht hs
          have hol2 : (m &&& (127 - 2 ^ i)) &&& (127 - t) < 128 := Nat.lt_of_le_of_lt Nat.and_le_left hol
          show ((f_X0_ordersOf (nI t) ν).bind _) = _
          rw [or_8 ν ht (by omega), Option.bind_some, and_no _ hol _ ht]
          show ((f_X0_ordersOf (nI ((m &&& (127 - 2 ^ i)) &&& (127 - t))) ν).bind _) = _
          rw [or_8 ν hol2 (by omega), Option.bind_some, q3, show bcN (m &&& (127 - 2 ^ i)) - bcN t = bcN m - bcN t - 1 by omega]
          exact ih
    · rw [if_neg (by rw [sub0 ht hol]; exact hs), if_pos rfl]
      rw [if_neg (fun z => hs z.1)] at ih
      exact ih
theorem pv_9 {m i : Nat} {S : pS} {ν : gN} {k : Int32 → gN → Option (Int32 × gN)} (h : RM S ν) (hc : S.1 ≤ 7) (hm : m < 128) (hi : i < 7) (hb : m.testBit i = true) : ∀ j n t, t + j = m + 1 → j < n → f_X9_power_L49 (nI i) (nI m) k n (pvN S m i t) (nI t) ν = k (pvN S m i (m + 1)) ν := by
  have hp := p2_lt hi
  intro j
  induction j with
  | zero =>
    intro n t hj hn
    obtain ⟨n, rfl⟩ : ∃ m, n = m + 1 := ⟨n - 1, by omega⟩
    rw [f_X9_power_L49, if_pos (nI_lt (by omega) (by omega)), show t = m + 1 by omega]
  | succ j ih =>
    intro n t hj hn
    obtain ⟨n, rfl⟩ : ∃ m, n = m + 1 := ⟨n - 1, by omega⟩
    have ih := ih n (t + 1) (by omega) (by omega)
    have ht : t < 128 := by omega
    have hso := sub_one m hm i hi t ht
    rw [pvN] at ih
    rw [f_X9_power_L49, if_neg (nI_nlt (by omega) (by omega)), nI_1]
    by_cases hs : t &&& (127 - m) = 0
    · rw [if_pos (by rw [sub0 ht hm]; exact hs)]
      cases hbt : t.testBit i with
      | true =>
        rw [if_pos (by rw [bit_s t ht i hi]; exact hbt)]
        rw [if_neg (fun z => by have := (hso.mp z.1).2; rw [hbt] at this; exact absurd this (by decide))] at ih
        exact ih
      | false =>
        have hs' := hso.mpr ⟨hs, hbt⟩
        rw [if_neg (by rw [bit_s t ht i hi, hbt]; decide), cy9 h hc ht hm, Option.bind_some]
        cases hc1 : cry S t m with
        | true =>
          rw [if_neg (show ¬ (i01 true, ν).1 = 0 from by show ¬ i01 true = 0; decide)]
          rw [if_neg (fun z => by rw [hc1] at z; exact absurd z.2.1 (by decide))] at ih
          exact ih
        | false =>
          rw [if_pos (show (i01 false, ν).1 = 0 from rfl), sh_one i hi, or_2 _ ht _ hp]
          show ((f_X9_carry (nI (t ||| 2 ^ i)) (nI m) ν).bind _) = _
          rw [cy9 h hc (or_lt ht hp) hm, Option.bind_some]
          cases hc2 : cry S (t ||| 2 ^ i) m with
          | false =>
            rw [if_pos (show (i01 false, ν).1 = 0 from rfl)]
            rw [if_neg (fun z => by rw [hc2] at z; exact absurd z.2.2 (by decide))] at ih
            exact ih
          | true =>
            rw [if_neg (show ¬ (i01 true, ν).1 = 0 from by show ¬ i01 true = 0; decide)]
            rw [if_pos ⟨hs', hc1, hc2⟩] at ih
            have hol : m &&& (127 - 2 ^ i) < 128 := Nat.lt_of_le_of_lt Nat.and_le_left hm
            obtain ⟨q1, q2⟩ := bc_one m hm i hi hb
            obtain ⟨q3, q4⟩ := bc_dif _ hol t ht hs'
            show ((f_J6_bitCount_0f7a4 (nI t) ν).bind _) = _
            rw [bcq ht, Option.bind_some]
            show ((f_X9_orders 10 (nI (bcN t)) ν).bind _) = _
            rw [or_9 _ (by omega), Option.bind_some]
            show ((f_J6_bitCount_0f7a4 (nI m) ν).bind _) = _
            rw [bcq hm, Option.bind_some]
            show ((f_J6_bitCount_0f7a4 (nI t) ν).bind _) = _
            rw [bcq ht, Option.bind_some]
            show ((f_X9_orders 10 ((nI (bcN m) - nI (bcN t)) - 1) ν).bind _) = _
            rw [nI_sub (by omega), nI_m1 (by omega), or_9 _ (by omega), Option.bind_some]
            exact ih
    · rw [if_neg (by rw [sub0 ht hm]; exact hs)]
      rw [if_neg (fun z => hs (hso.mp z.1).1)] at ih
      exact ih
theorem sh_same (y : Int32) {i : Nat} (hi : i < 7) : j_shr y (nI i) &&& 1 = j_ushr y (nI i) &&& 1 := by
  have e1 : (j_shr y (nI i)).toBitVec = y.toBitVec.sshiftRight i := by
    unfold j_shr
    rw [Int32.toBitVec_shiftRight]
    have hk : ∀ i, i < 7 → ((nI i &&& 31).toBitVec.smod 32).toNat = i := by decide +kernel
    rw [BitVec.sshiftRight', hk i hi]
  have e2 : (j_ushr y (nI i)).toBitVec = y.toBitVec >>> i := by
    have hk : ∀ i, i < 7 → ((nI i).toUInt32 &&& Int32.toUInt32 31).toNat % 32 = i := by decide +kernel
    apply BitVec.eq_of_toNat_eq
    show (y.toUInt32 >>> ((nI i).toUInt32 &&& Int32.toUInt32 31)).toNat = _
    rw [UInt32.toNat_shiftRight, hk i hi, BitVec.toNat_ushiftRight]
    rfl
  apply Int32.toBitVec_inj.mp
  rw [Int32.toBitVec_and, Int32.toBitVec_and, e1, e2]
  apply BitVec.eq_of_getLsbD_eq
  intro q hq
  rw [BitVec.getLsbD_and, BitVec.getLsbD_and]
  cases q with
  | zero =>
    rw [BitVec.getLsbD_sshiftRight, BitVec.getLsbD_ushiftRight]
    simp [show i < 32 by omega]
  | succ q =>
    have : (1 : Int32).toBitVec.getLsbD (q + 1) = false := by
      show (1#32).getLsbD (q + 1) = false
      simp
    rw [this, Bool.and_false, Bool.and_false]
theorem op_power (x y : Int32) {Z : zS} (hZ : okZ Z) : both (f_X8_power x y) (f_X9_power x y) Z := by
  have hc := hZ.1.1
  rcases (rng x Z.1.1 (by omega)).symm with hx | ⟨i, hi, rfl⟩
  · refine both_no (a := -1) 1 (by decide) hZ (fun ν h => ?_) (fun ν h => ?_)
    · simp only [f_X8_power, per_out h.1 hx, Option.bind_some, ↓reduceIte, rf_1]
    · simp only [f_X9_power, one_out h.1 hc hx, Option.bind_some, ↓reduceIte, no_1]
  have hi7 : i < 7 := by omega
  by_cases hbit : j_ushr y (nI i) &&& 1 = 0
  · refine both_no (a := -5) 5 (by decide) hZ (fun ν h => ?_) (fun ν h => ?_)
    · simp only [f_X8_power, per_in h.1 hc hi, f_X8_isIn, hbit, Option.bind_some, ↓reduceIte, b1, rf_5]
    · simp only [f_X9_power, one_in h.1 hc hi, sh_same y hi7, hbit, Option.bind_some, ↓reduceIte, b1, no_5]
  rcases (thr y hc).symm with hx | ⟨m, hm, rfl⟩
  · refine both_no (a := -6) 6 (by decide) hZ (fun ν h => ?_) (fun ν h => ?_)
    · simp only [f_X8_power, per_in h.1 hc hi, f_X8_isIn, hbit, at8_out h.1 hc hx, Option.bind_some, ↓reduceIte, b1, rf_6]
    · simp only [f_X9_power, one_in h.1 hc hi, sh_same y hi7, hbit, at9_out h.1 hc hx, Option.bind_some, ↓reduceIte, b1, no_6]
  · have h2 := p2_le hc
    have hm7 : m < 128 := by omega
    have hb : m.testBit i = true := by
      rw [bit_u m hm7 i hi7] at hbit
      cases hb : m.testBit i with
      | true => rfl
      | false => exact absurd hb hbit
    have e : pvN Z.1 m i (2 ^ Z.1.1) = pvN Z.1 m i (m + 1) := by
      have := pvN_const Z.1 hm7 hi7 (2 ^ Z.1.1 - (m + 1)) (by omega)
      rw [show m + 1 + (2 ^ Z.1.1 - (m + 1)) = 2 ^ Z.1.1 by omega] at this
      exact this
    refine both_rd (a := pvN Z.1 m i (m + 1)) hZ (fun ν h => ?_) (fun ν h => ?_)
    · have l := pv_8 (k := fun z ν => some (z, ν)) h.1 hc hm7 hi7 hb (2 ^ Z.1.1) FU 0 (by omega) (by unfold FU; omega)
      rw [e] at l
      simp only [f_X8_power, per_in h.1 hc hi, f_X8_isIn, hbit, at8_in h.1 hc hm, Option.bind_some, ↓reduceIte, b1, f_X0_pivots, sh_one i hi7, and_no m hm7 _ (p2_lt hi7)]
      rw [show f_X0_pivots_L17 1 (nI m) (nI (2 ^ i)) (nI (m &&& (127 - 2 ^ i))) (fun z5_17 ν_18 => some (z5_17, ν_18)) FU 0 0 ν = _ from l]; rfl
    · have l := pv_9 (k := fun z ν => some (z, ν)) h.1 hc hm7 hi7 hb (m + 1) FU 0 (by omega) (by unfold FU; omega)
      simp only [f_X9_power, one_in h.1 hc hi, sh_same (nI m) hi7, hbit, at9_in h.1 hc hm, Option.bind_some, ↓reduceIte, b1]
      exact l
