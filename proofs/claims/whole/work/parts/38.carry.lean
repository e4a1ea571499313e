/-! calls: carries -/
def wgt (S : pS) (m : Nat) : Nat → Int32
  | 0 => 0
  | i + 1 => if m.testBit i = true then wgt S m i + (S.2.1 1 i + 1) else wgt S m i
theorem wg8_L {p m : Nat} {S : pS} {ν : gN} {k : Int32 → gN → Option (Int32 × gN)} (h : RP p S ν) (hc : S.1 ≤ 7) (hm : m < 128) : ∀ j n i, i + j = S.1 → j < n → f_X0_weightOf_L4 p (nI m) k n (wgt S m i) (nI i) ν = k (wgt S m S.1) ν := by
  intro j
  induction j with
  | zero =>
    intro n i hi hn
    obtain ⟨n, rfl⟩ : ∃ m, n = m + 1 := ⟨n - 1, by omega⟩
    have e : i = S.1 := by omega
    rw [f_X0_weightOf_L4, h.1, e, if_pos (nI_le (Nat.le_refl _) (by omega))]
  | succ j ih =>
    intro n i hi hn
    obtain ⟨n, rfl⟩ : ∃ m, n = m + 1 := ⟨n - 1, by omega⟩
    have hi7 : i < 7 := by omega
    have ih := ih n (i + 1) (by omega) (by omega)
    rw [wgt] at ih
    rw [f_X0_weightOf_L4, h.1, if_neg (nI_ge (by omega) (by omega)), in8 ν hm hi7, Option.bind_some]
    cases hb : m.testBit i with
    | false =>
      rw [if_pos (show (i01 false, ν).1 = 0 from rfl), Int32.add_zero, nI_1]
      rw [if_neg (by rw [hb]; decide)] at ih
      exact ih
    | true =>
      rw [if_neg (show ¬ (i01 true, ν).1 = 0 from by show ¬ i01 true = 0; decide), if_pos (ib_in hi7 (by decide)), nI_clamp (by omega), show (i01 true, ν).2.1 (p + 2) i = S.2.1 1 i from h.c1 hi7]
      rw [if_pos hb] at ih
      rw [← nI_1] at ih
      exact ih
theorem wg8 {p m : Nat} {S : pS} {ν : gN} (h : RP p S ν) (hc : S.1 ≤ 7) (hm : m < 128) : f_X0_weightOf p (nI m) ν = some (wgt S m S.1, ν) := by
  rw [f_X0_weightOf]
  exact wg8_L (k := fun z ν => some (z, ν)) h hc hm S.1 FU 0 (by omega) (by unfold FU; omega)
theorem wg9_L {m : Nat} {S : pS} {ν : gN} {k : Int32 → gN → Option (Int32 × gN)} (h : RM S ν) (hc : S.1 ≤ 7) (hm : m < 128) : ∀ j n i, i + j = S.1 → j < n → f_X9_weight_L4 (nI m) k n (wgt S m i) (nI i) ν = k (wgt S m S.1) ν := by
  intro j
  induction j with
  | zero =>
    intro n i hi hn
    obtain ⟨n, rfl⟩ : ∃ m, n = m + 1 := ⟨n - 1, by omega⟩
    have e : i = S.1 := by omega
    rw [f_X9_weight_L4, h.1, e, if_pos (nI_le (Nat.le_refl _) (by omega))]
  | succ j ih =>
    intro n i hi hn
    obtain ⟨n, rfl⟩ : ∃ m, n = m + 1 := ⟨n - 1, by omega⟩
    have hi7 : i < 7 := by omega
    have ih := ih n (i + 1) (by omega) (by omega)
    rw [wgt] at ih
    rw [f_X9_weight_L4, h.1, if_neg (nI_ge (by omega) (by omega))]
    cases hb : m.testBit i with
    | false =>
      rw [if_neg (by rw [bit_s m hm i hi7, hb]; decide), nI_1]
      rw [if_neg (by rw [hb]; decide)] at ih
      exact ih
    | true =>
      rw [if_pos (by rw [bit_s m hm i hi7]; exact hb), if_pos (ib_in hi7 (by decide)), nI_clamp (by omega), h.c1 hi7]
      rw [if_pos hb] at ih
      rw [← nI_1] at ih
      exact ih
theorem wg9 {m : Nat} {S : pS} {ν : gN} (h : RM S ν) (hc : S.1 ≤ 7) (hm : m < 128) : f_X9_weight (nI m) ν = some (wgt S m S.1, ν) := by
  rw [f_X9_weight]
  exact wg9_L (k := fun z ν => some (z, ν)) h hc hm S.1 FU 0 (by omega) (by unfold FU; omega)
def cry (S : pS) (a b : Nat) : Bool := decide (¬ 2 * wgt S a S.1 ≤ wgt S b S.1)
theorem cy8 {p a b : Nat} {S : pS} {ν : gN} (h : RP p S ν) (hc : S.1 ≤ 7) (ha : a < 128) (hb : b < 128) : f_X0_isCarrying p (nI a) (nI b) ν = some (i01 (cry S a b), ν) := by
  simp only [f_X0_isCarrying, wg8 h hc ha, wg8 h hc hb, Option.bind_some, i01_d, cry]
theorem cy9 {a b : Nat} {S : pS} {ν : gN} (h : RM S ν) (hc : S.1 ≤ 7) (ha : a < 128) (hb : b < 128) : f_X9_carry (nI a) (nI b) ν = some (i01 (cry S a b), ν) := by
  simp only [f_X9_carry, wg9 h hc ha, wg9 h hc hb, Option.bind_some, i01_d, cry]
theorem two_n : ∀ n, n < 8 → j_shl 1 (nI n) = nI (2 ^ n) := by decide +kernel
theorem p2_le {n : Nat} (h : n ≤ 7) : 2 ^ n ≤ 128 := Nat.pow_le_pow_right (n := 2) (by decide) h
theorem p2_pos (n : Nat) : 0 < 2 ^ n := Nat.pow_pos (by decide)
theorem us_n {n : Nat} (x : Int32) (hn : n ≤ 7) : j_ushr x (nI n) = nI (x.toUInt32.toNat / 2 ^ n) := by
  unfold j_ushr
  have hk : ∀ n, n < 8 → ((nI n).toUInt32 &&& Int32.toUInt32 31).toNat % 32 = n := by decide +kernel
  apply Int32.toBitVec_inj.mp
  apply BitVec.eq_of_toNat_eq
  show (x.toUInt32 >>> ((nI n).toUInt32 &&& Int32.toUInt32 31)).toNat = (BitVec.ofNat 32 (x.toUInt32.toNat / 2 ^ n)).toNat
  rw [UInt32.toNat_shiftRight, BitVec.toNat_ofNat, hk n (by omega), Nat.shiftRight_eq_div_pow]
  have := x.toUInt32.toNat_lt
  have h2 := Nat.div_le_self x.toUInt32.toNat (2 ^ n)
  rw [Nat.mod_eq_of_lt (by omega)]
theorem nI_of_u (x : Int32) : x = nI x.toUInt32.toNat := by
  apply Int32.toBitVec_inj.mp
  apply BitVec.eq_of_toNat_eq
  show x.toBitVec.toNat = (BitVec.ofNat 32 x.toUInt32.toNat).toNat
  rw [BitVec.toNat_ofNat, Nat.mod_eq_of_lt x.toUInt32.toNat_lt]
  rfl
/-- a set of those there, or not -/
theorem thr (x : Int32) {n : Nat} (hn : n ≤ 7) : (∃ m, m < 2 ^ n ∧ x = nI m) ∨ (x < 0 ∨ nI (2 ^ n) ≤ x) := rng x (2 ^ n) (by have := p2_le hn; omega)
theorem at8_in {p m : Nat} {S : pS} {ν : gN} (h : RP p S ν) (hc : S.1 ≤ 7) (hm : m < 2 ^ S.1) : f_X4_areAllThere p (nI m) ν = some (1, ν) := by
  have h2 := p2_le hc
  have e : (nI m).toUInt32.toNat = m := by
    show (BitVec.ofNat 32 m).toNat = m
    rw [BitVec.toNat_ofNat]; omega
  rw [f_X4_areAllThere, h.1, us_n _ hc, e, Nat.div_eq_of_lt hm, if_pos (show nI 0 = 0 from rfl)]
theorem at8_out {p : Nat} {x : Int32} {S : pS} {ν : gN} (h : RP p S ν) (hc : S.1 ≤ 7) (hx : x < 0 ∨ nI (2 ^ S.1) ≤ x) : f_X4_areAllThere p x ν = some (0, ν) := by
  have h2 := p2_le hc
  have h3 := p2_pos S.1
  have hlt := x.toUInt32.toNat_lt
  have hd := Nat.div_le_self x.toUInt32.toNat (2 ^ S.1)
  have hge : 2 ^ S.1 ≤ x.toUInt32.toNat := by
    refine Classical.byContradiction (fun q => ?_)
    have q' : x.toUInt32.toNat < 2 ^ S.1 := by omega
    have e := nI_of_u x
    generalize x.toUInt32.toNat = u at q' e
    rw [e] at hx
    rcases hx with z | z
    · exact nI_pos (by omega) z
    · exact nI_ge q' (by omega) z
  have hpos : 0 < x.toUInt32.toNat / 2 ^ S.1 := Nat.div_pos hge h3
  have ne : ¬ nI (x.toUInt32.toNat / 2 ^ S.1) = 0 := by
    generalize x.toUInt32.toNat / 2 ^ S.1 = w at hpos hd
    intro z
    have t := congrArg (fun y : Int32 => y.toBitVec.toNat) z
    have t' : w % 2 ^ 32 = 0 := t
    omega
  rw [f_X4_areAllThere, h.1, us_n _ hc, if_neg ne]
theorem at9_in {m : Nat} {S : pS} {ν : gN} (h : RM S ν) (hc : S.1 ≤ 7) (hm : m < 2 ^ S.1) : f_X9_areThere (nI m) ν = some (1, ν) := by
  have h2 := p2_le hc
  rw [f_X9_areThere, h.1, two_n _ (by omega), ws_in ν hm (by omega)]
  rfl
theorem at9_out {x : Int32} {S : pS} {ν : gN} (h : RM S ν) (hc : S.1 ≤ 7) (hx : x < 0 ∨ nI (2 ^ S.1) ≤ x) : f_X9_areThere x ν = some (0, ν) := by
  have h2 := p2_le hc
  rw [f_X9_areThere, h.1, two_n _ (by omega), ws_out ν (by omega) hx]
  rfl
def bcN (m : Nat) : Nat := cnt (fun i => m.testBit i) 7
theorem bcN_le (m : Nat) : bcN m ≤ 7 := cnt_le _ 7
theorem bcq {m : Nat} (h : m < 128) (ν : gN) : f_J6_bitCount_0f7a4 (nI m) ν = some (nI (bcN m), ν) := by rw [bc6, bc_t m h]; rfl
/-- the least of the sets 1 to t within M that carries -/
def lcN (S : pS) (M : Nat) : Nat → Nat
  | 0 => 0
  | t + 1 => if (t + 1) &&& (127 - M) = 0 ∧ cry S (t + 1) M = true ∧ (lcN S M t = 0 ∨ bcN (t + 1) < bcN (lcN S M t)) then t + 1 else lcN S M t
theorem lcN_le (S : pS) (M : Nat) : ∀ t, lcN S M t ≤ t
  | 0 => Nat.le_refl _
  | t + 1 => by
    have := lcN_le S M t
    rw [lcN]
    split <;> omega
theorem sub_gt : ∀ M, M < 128 → ∀ t, t < 128 → M < t → ¬ t &&& (127 - M) = 0 := by decide +kernel
theorem lcN_const (S : pS) {M : Nat} (hM : M < 128) : ∀ j, M + j < 128 → lcN S M (M + j) = lcN S M M
  | 0, _ => rfl
  | j + 1, h => by
    rw [← Nat.add_assoc, lcN, if_neg (fun z => sub_gt M hM (M + j + 1) (by omega) (by omega) z.1)]
    exact lcN_const S hM j (by omega)
theorem sub0 {t M : Nat} (ht : t < 128) (hM : M < 128) : (nI t &&& (nI M ^^^ (-1)) = 0) = (t &&& (127 - M) = 0) := by
  rw [and_no t ht M hM]
  have : t &&& (127 - M) < 128 := Nat.lt_of_le_of_lt Nat.and_le_left ht
  exact propext (eq_nc (c := 0) (k := 0) rfl (by omega) (by decide))
theorem lc_8 {p M : Nat} {S : pS} {ν : gN} {k : Int32 → gN → Option (Int32 × gN)} (h : RP p S ν) (hc : S.1 ≤ 7) (hM : M < 128) : ∀ j n t, t + j + 1 = 2 ^ S.1 → j < n → f_X0_leastCarrying_L4 p (nI M) k n (nI (lcN S M t)) (nI (t + 1)) ν = k (nI (lcN S M (2 ^ S.1 - 1))) ν := by
  have h2 := p2_le hc
  intro j
  induction j with
  | zero =>
    intro n t hi hn
    obtain ⟨n, rfl⟩ : ∃ m, n = m + 1 := ⟨n - 1, by omega⟩
    rw [f_X0_leastCarrying_L4, h.1, two_n _ (by omega), if_pos (nI_le (by omega) (by omega)), show 2 ^ S.1 - 1 = t by omega]
  | succ j ih =>
    intro n t hi hn
    obtain ⟨n, rfl⟩ : ∃ m, n = m + 1 := ⟨n - 1, by omega⟩
    have ih := ih n (t + 1) (by omega) (by omega)
    have ht : t + 1 < 128 := by omega
    have hl := lcN_le S M t
    have l1 := bcN_le (t + 1)
    have l2 := bcN_le (lcN S M t)
    rw [lcN] at ih
    rw [f_X0_leastCarrying_L4, h.1, two_n _ (by omega), if_neg (nI_ge (by omega) (by omega)), nI_1 (t + 1)]
    have e0 : (nI (lcN S M t) = 0) = (lcN S M t = 0) := propext (eq_nc (c := 0) (k := 0) rfl (by omega) (by decide))
    have c8 := cy8 (a := t + 1) (b := M) h hc ht hM
    generalize lcN S M t = b at ih hl l2 e0 ⊢
    by_cases hs : (t + 1) &&& (127 - M) = 0
    · rw [if_pos (by rw [sub0 ht hM]; exact hs)]
      by_cases hb : b = 0
      · rw [if_pos (by rw [e0]; exact hb), if_neg (by decide), if_neg (by decide), c8, Option.bind_some]
        cases hcy : cry S (t + 1) M with
        | false =>
          rw [if_pos (show (i01 false, ν).1 = 0 from rfl)]
          rw [if_neg (fun z => by rw [hcy] at z; exact absurd z.2.1 (by decide))] at ih
          exact ih
        | true =>
          rw [if_neg (show ¬ (i01 true, ν).1 = 0 from by show ¬ i01 true = 0; decide)]
          rw [if_pos ⟨hs, hcy, Or.inl hb⟩] at ih
          exact ih
      · rw [if_neg (by rw [e0]; exact hb), bcq ht, Option.bind_some, bcq (show b < 128 by omega), Option.bind_some]
        by_cases hq : bcN b ≤ bcN (t + 1)
        · rw [if_pos (show (nI (bcN b), ν).1 ≤ (nI (bcN (t + 1)), ν).1 from nI_le hq (by omega)), if_neg (by decide), if_pos rfl]
          rw [if_neg (fun z => by rcases z.2.2 with y | y <;> omega)] at ih
          exact ih
        · rw [if_neg (show ¬ (nI (bcN b), ν).1 ≤ (nI (bcN (t + 1)), ν).1 from nI_ge (by omega) (by omega)), if_neg (by decide), if_neg (by decide)]
          show ((f_X0_isCarrying p (nI (t + 1)) (nI M) ν).bind _) = _
          rw [c8, Option.bind_some]
          cases hcy : cry S (t + 1) M with
          | false =>
            rw [if_pos (show (i01 false, ν).1 = 0 from rfl)]
            rw [if_neg (fun z => by rw [hcy] at z; exact absurd z.2.1 (by decide))] at ih
            exact ih
          | true =>
            rw [if_neg (show ¬ (i01 true, ν).1 = 0 from by show ¬ i01 true = 0; decide)]
            rw [if_pos ⟨hs, hcy, Or.inr (by omega)⟩] at ih
            exact ih
    · rw [if_neg (by rw [sub0 ht hM]; exact hs)]
      rw [if_neg (fun z => hs z.1)] at ih
      by_cases hb : b = 0
      · rw [if_pos (by rw [e0]; exact hb), if_pos rfl]
        exact ih
      · rw [if_neg (by rw [e0]; exact hb), bcq ht, Option.bind_some, bcq (show b < 128 by omega), Option.bind_some]
        by_cases hq : bcN b ≤ bcN (t + 1)
        · rw [if_pos (show (nI (bcN b), ν).1 ≤ (nI (bcN (t + 1)), ν).1 from nI_le hq (by omega)), if_pos rfl]
          exact ih
        · rw [if_neg (show ¬ (nI (bcN b), ν).1 ≤ (nI (bcN (t + 1)), ν).1 from nI_ge (by omega) (by omega)), if_pos rfl]
          exact ih
theorem lc_9 {M : Nat} {S : pS} {ν : gN} {k : Int32 → gN → Option (Int32 × gN)} (h : RM S ν) (hc : S.1 ≤ 7) (hM : M < 128) : ∀ j n t, t + j = M → j < n → f_X9_carries_L19 (nI M) k n (nI (lcN S M t)) (nI (t + 1)) ν = k (nI (lcN S M M)) ν := by
  intro j
  induction j with
  | zero =>
    intro n t hi hn
    obtain ⟨n, rfl⟩ : ∃ m, n = m + 1 := ⟨n - 1, by omega⟩
    rw [f_X9_carries_L19, if_pos (nI_lt (by omega) (by omega)), show t = M by omega]
  | succ j ih =>
    intro n t hi hn
    obtain ⟨n, rfl⟩ : ∃ m, n = m + 1 := ⟨n - 1, by omega⟩
    have ih := ih n (t + 1) (by omega) (by omega)
    have ht : t + 1 < 128 := by omega
    have hl := lcN_le S M t
    have l1 := bcN_le (t + 1)
    have l2 := bcN_le (lcN S M t)
    rw [lcN] at ih
    rw [f_X9_carries_L19, if_neg (nI_nlt (by omega) (by omega)), nI_1 (t + 1)]
    have e0 : (nI (lcN S M t) = 0) = (lcN S M t = 0) := propext (eq_nc (c := 0) (k := 0) rfl (by omega) (by decide))
    have c9 := cy9 (a := t + 1) (b := M) h hc ht hM
    generalize lcN S M t = b at ih hl l2 e0 ⊢
    by_cases hs : (t + 1) &&& (127 - M) = 0
    · rw [if_pos (by rw [sub0 ht hM]; exact hs), c9, Option.bind_some]
      cases hcy : cry S (t + 1) M with
      | false =>
        rw [if_pos (show (i01 false, ν).1 = 0 from rfl)]
        rw [if_neg (fun z => by rw [hcy] at z; exact absurd z.2.1 (by decide))] at ih
        exact ih
      | true =>
        rw [if_neg (show ¬ (i01 true, ν).1 = 0 from by show ¬ i01 true = 0; decide)]
        by_cases hb : b = 0
        · rw [if_pos (by rw [e0]; exact hb)]
          rw [if_pos ⟨hs, hcy, Or.inl hb⟩] at ih
          exact ih
        · rw [if_neg (by rw [e0]; exact hb)]
          show ((f_J6_bitCount_0f7a4 (nI (t + 1)) ν).bind _) = _
          rw [bcq ht, Option.bind_some, bcq (show b < 128 by omega), Option.bind_some]
          by_cases hq : bcN b ≤ bcN (t + 1)
          · rw [if_pos (show (nI (bcN b), ν).1 ≤ (nI (bcN (t + 1)), ν).1 from nI_le hq (by omega))]
            rw [if_neg (fun z => by rcases z.2.2 with y | y <;> omega)] at ih
            exact ih
          · rw [if_neg (show ¬ (nI (bcN b), ν).1 ≤ (nI (bcN (t + 1)), ν).1 from nI_ge (by omega) (by omega))]
            rw [if_pos ⟨hs, hcy, Or.inr (by omega)⟩] at ih
            exact ih
    · rw [if_neg (by rw [sub0 ht hM]; exact hs)]
      rw [if_neg (fun z => hs z.1)] at ih
      exact ih
theorem op_carries (x : Int32) {Z : zS} (hZ : okZ Z) : both (f_X8_carries x) (f_X9_carries x) Z := by
  have hc := hZ.1.1
  rcases (thr x hc).symm with hx | ⟨m, hm, rfl⟩
  · refine both_no (a := -6) 6 (by decide) hZ (fun ν h => ?_) (fun ν h => ?_)
    · simp only [f_X8_carries, at8_out h.1 hc hx, Option.bind_some, ↓reduceIte, rf_6]
    · simp only [f_X9_carries, at9_out h.1 hc hx, Option.bind_some, ↓reduceIte, no_6]
  · have h2 := p2_le hc
    have h3 := p2_pos Z.1.1
    have e : lcN Z.1 m (2 ^ Z.1.1 - 1) = lcN Z.1 m m := by
      have := lcN_const Z.1 (M := m) (by omega) (2 ^ Z.1.1 - 1 - m) (by omega)
      rw [show m + (2 ^ Z.1.1 - 1 - m) = 2 ^ Z.1.1 - 1 by omega] at this
      exact this
    refine both_rd (a := nI (lcN Z.1 m m)) hZ (fun ν h => ?_) (fun ν h => ?_)
    · have l := lc_8 (M := m) (k := fun z ν => some (z, ν)) h.1 hc (by omega) (2 ^ Z.1.1 - 1) FU 0 (by omega) (by unfold FU; omega)
      rw [e] at l
      rw [f_X8_carries, at8_in h.1 hc hm, Option.bind_some, if_neg (show ¬ (1 : Int32) = 0 by decide), f_X0_leastCarrying]
      rw [show f_X0_leastCarrying_L4 1 (nI m) (fun z2_21 ν_22 => some (z2_21, ν_22)) FU 0 1 ν = _ from l]; rfl
    · have l := lc_9 (M := m) (k := fun z ν => some (z, ν)) h.1 hc (by omega) m FU 0 (by omega) (by unfold FU; omega)
      rw [f_X9_carries, at9_in h.1 hc hm, Option.bind_some, if_neg (show ¬ (1 : Int32) = 0 by decide)]
      exact l
