/-! HELPERS of both sides: refusals by number, persons, squares, fences, smell, fleeing, who is at a square -/
theorem rf_1 (ν : gN) : f_X8_refuse 1 ν = some (-1, R8 1 ν) := refuse_k (k := 1) ν (by decide)
theorem no_1 (ν : gN) : f_X9_no (-1) ν = some (-1, R9 1 ν) := no_k (k := 1) ν (by decide)
theorem ra_1 (ν : gN) : f_X8_refuseApart 1 ν = some (-11, R8 1 ν) := (refuseA_k (k := 1) ν (by decide)).trans (by rw [show (-10 : Int32) - nI 1 = -11 by decide])
theorem nt_1 (ν : gN) : f_X9_no10 (-1) ν = some (-11, R9 1 ν) := (no10_k (k := 1) ν (by decide)).trans (by rw [show -nI 1 - 10 = (-11 : Int32) by decide])
theorem rf_2 (ν : gN) : f_X8_refuse 2 ν = some (-2, R8 2 ν) := refuse_k (k := 2) ν (by decide)
theorem no_2 (ν : gN) : f_X9_no (-2) ν = some (-2, R9 2 ν) := no_k (k := 2) ν (by decide)
theorem ra_2 (ν : gN) : f_X8_refuseApart 2 ν = some (-12, R8 2 ν) := (refuseA_k (k := 2) ν (by decide)).trans (by rw [show (-10 : Int32) - nI 2 = -12 by decide])
theorem nt_2 (ν : gN) : f_X9_no10 (-2) ν = some (-12, R9 2 ν) := (no10_k (k := 2) ν (by decide)).trans (by rw [show -nI 2 - 10 = (-12 : Int32) by decide])
theorem rf_3 (ν : gN) : f_X8_refuse 3 ν = some (-3, R8 3 ν) := refuse_k (k := 3) ν (by decide)
theorem no_3 (ν : gN) : f_X9_no (-3) ν = some (-3, R9 3 ν) := no_k (k := 3) ν (by decide)
theorem ra_3 (ν : gN) : f_X8_refuseApart 3 ν = some (-13, R8 3 ν) := (refuseA_k (k := 3) ν (by decide)).trans (by rw [show (-10 : Int32) - nI 3 = -13 by decide])
theorem nt_3 (ν : gN) : f_X9_no10 (-3) ν = some (-13, R9 3 ν) := (no10_k (k := 3) ν (by decide)).trans (by rw [show -nI 3 - 10 = (-13 : Int32) by decide])
theorem rf_4 (ν : gN) : f_X8_refuse 4 ν = some (-4, R8 4 ν) := refuse_k (k := 4) ν (by decide)
theorem no_4 (ν : gN) : f_X9_no (-4) ν = some (-4, R9 4 ν) := no_k (k := 4) ν (by decide)
theorem ra_4 (ν : gN) : f_X8_refuseApart 4 ν = some (-14, R8 4 ν) := (refuseA_k (k := 4) ν (by decide)).trans (by rw [show (-10 : Int32) - nI 4 = -14 by decide])
theorem nt_4 (ν : gN) : f_X9_no10 (-4) ν = some (-14, R9 4 ν) := (no10_k (k := 4) ν (by decide)).trans (by rw [show -nI 4 - 10 = (-14 : Int32) by decide])
theorem rf_5 (ν : gN) : f_X8_refuse 5 ν = some (-5, R8 5 ν) := refuse_k (k := 5) ν (by decide)
theorem no_5 (ν : gN) : f_X9_no (-5) ν = some (-5, R9 5 ν) := no_k (k := 5) ν (by decide)
theorem ra_5 (ν : gN) : f_X8_refuseApart 5 ν = some (-15, R8 5 ν) := (refuseA_k (k := 5) ν (by decide)).trans (by rw [show (-10 : Int32) - nI 5 = -15 by decide])
theorem nt_5 (ν : gN) : f_X9_no10 (-5) ν = some (-15, R9 5 ν) := (no10_k (k := 5) ν (by decide)).trans (by rw [show -nI 5 - 10 = (-15 : Int32) by decide])
theorem rf_6 (ν : gN) : f_X8_refuse 6 ν = some (-6, R8 6 ν) := refuse_k (k := 6) ν (by decide)
theorem no_6 (ν : gN) : f_X9_no (-6) ν = some (-6, R9 6 ν) := no_k (k := 6) ν (by decide)
theorem ra_6 (ν : gN) : f_X8_refuseApart 6 ν = some (-16, R8 6 ν) := (refuseA_k (k := 6) ν (by decide)).trans (by rw [show (-10 : Int32) - nI 6 = -16 by decide])
theorem nt_6 (ν : gN) : f_X9_no10 (-6) ν = some (-16, R9 6 ν) := (no10_k (k := 6) ν (by decide)).trans (by rw [show -nI 6 - 10 = (-16 : Int32) by decide])
theorem rf_7 (ν : gN) : f_X8_refuse 7 ν = some (-7, R8 7 ν) := refuse_k (k := 7) ν (by decide)
theorem no_7 (ν : gN) : f_X9_no (-7) ν = some (-7, R9 7 ν) := no_k (k := 7) ν (by decide)
theorem ra_7 (ν : gN) : f_X8_refuseApart 7 ν = some (-17, R8 7 ν) := (refuseA_k (k := 7) ν (by decide)).trans (by rw [show (-10 : Int32) - nI 7 = -17 by decide])
theorem nt_7 (ν : gN) : f_X9_no10 (-7) ν = some (-17, R9 7 ν) := (no10_k (k := 7) ν (by decide)).trans (by rw [show -nI 7 - 10 = (-17 : Int32) by decide])
theorem RP.c0 {p : Nat} {S : pS} {ν : gN} (h : RP p S ν) {i : Nat} (hi : i < 7) : ν.1 (p + 1) i = S.2.1 0 i := h.2.1 0 (by decide) i hi
theorem RM.c0 {S : pS} {ν : gN} (h : RM S ν) {i : Nat} (hi : i < 7) : ν.1 54 i = S.2.1 0 i := h.2.1 0 (by decide) i hi
theorem RP.c1 {p : Nat} {S : pS} {ν : gN} (h : RP p S ν) {i : Nat} (hi : i < 7) : ν.1 (p + 2) i = S.2.1 1 i := h.2.1 1 (by decide) i hi
theorem RM.c1 {S : pS} {ν : gN} (h : RM S ν) {i : Nat} (hi : i < 7) : ν.1 55 i = S.2.1 1 i := h.2.1 1 (by decide) i hi
theorem RP.c2 {p : Nat} {S : pS} {ν : gN} (h : RP p S ν) {i : Nat} (hi : i < 7) : ν.1 (p + 3) i = S.2.1 2 i := h.2.1 2 (by decide) i hi
theorem RM.c2 {S : pS} {ν : gN} (h : RM S ν) {i : Nat} (hi : i < 7) : ν.1 56 i = S.2.1 2 i := h.2.1 2 (by decide) i hi
theorem RP.c3 {p : Nat} {S : pS} {ν : gN} (h : RP p S ν) {i : Nat} (hi : i < 7) : ν.1 (p + 4) i = S.2.1 3 i := h.2.1 3 (by decide) i hi
theorem RM.c3 {S : pS} {ν : gN} (h : RM S ν) {i : Nat} (hi : i < 7) : ν.1 57 i = S.2.1 3 i := h.2.1 3 (by decide) i hi
theorem RP.c4 {p : Nat} {S : pS} {ν : gN} (h : RP p S ν) {i : Nat} (hi : i < 7) : ν.1 (p + 5) i = S.2.1 4 i := h.2.1 4 (by decide) i hi
theorem RM.c4 {S : pS} {ν : gN} (h : RM S ν) {i : Nat} (hi : i < 7) : ν.1 58 i = S.2.1 4 i := h.2.1 4 (by decide) i hi
theorem RP.c5 {p : Nat} {S : pS} {ν : gN} (h : RP p S ν) {i : Nat} (hi : i < 7) : ν.1 (p + 6) i = S.2.1 5 i := h.2.1 5 (by decide) i hi
theorem RM.c5 {S : pS} {ν : gN} (h : RM S ν) {i : Nat} (hi : i < 7) : ν.1 59 i = S.2.1 5 i := h.2.1 5 (by decide) i hi
theorem per_in {p i : Nat} {S : pS} {ν : gN} (h : RP p S ν) (hc : S.1 ≤ 7) (hi : i < S.1) : f_X4_isPerson p (nI i) ν = some (1, ν) := by
  rw [f_X4_isPerson, if_neg (nI_pos (by omega)), h.1, if_neg (nI_ge hi (by omega))]
theorem per_out {p : Nat} {x : Int32} {S : pS} {ν : gN} (h : RP p S ν) (hx : x < 0 ∨ nI S.1 ≤ x) : f_X4_isPerson p x ν = some (0, ν) := by
  rw [f_X4_isPerson, h.1]
  by_cases h0 : x < 0
  · rw [if_pos h0]
  · rw [if_neg h0, if_pos (hx.resolve_left h0)]
theorem one_in {i : Nat} {S : pS} {ν : gN} (h : RM S ν) (hc : S.1 ≤ 7) (hi : i < S.1) : f_X9_isOne (nI i) ν = some (1, ν) := by
  rw [f_X9_isOne, h.1, nI_m1 (by omega), wn_in ν (nI_pos (by omega)) (nI_nlt (by omega) (by omega))]
  rfl
theorem one_out {x : Int32} {S : pS} {ν : gN} (h : RM S ν) (hc : S.1 ≤ 7) (hx : x < 0 ∨ nI S.1 ≤ x) : f_X9_isOne x ν = some (0, ν) := by
  have e : f_X9_within x 0 (nI S.1 - 1) ν = some (0, ν) := by
    refine wn_out ν ?_
    rcases hx with h0 | h0
    · exact Or.inl h0
    · refine Or.inr ?_
      rcases Nat.eq_zero_or_pos S.1 with z | z
      · rw [z] at h0 ⊢
        rw [Int32.lt_iff_toInt_lt]
        rw [Int32.le_iff_toInt_le, nI_toInt (by decide)] at h0
        show (-1 : Int) < _
        omega
      · rw [nI_m1 z]
        rw [Int32.lt_iff_toInt_lt, nI_toInt (by omega)]
        rw [Int32.le_iff_toInt_le, nI_toInt (by omega)] at h0
        omega
  rw [f_X9_isOne, h.1, e]
  rfl
theorem sq8_in {c : Nat} (ν : gN) (h : c < 49) : f_X8_isSquare (nI c) ν = some (1, ν) := by
  rw [f_X8_isSquare, if_neg (nI_pos (by omega)), if_neg (by rw [le_cn (c := 49) (k := 49) rfl (by omega) (by omega)]; omega)]
theorem sq8_out {x : Int32} (ν : gN) (h : x < 0 ∨ nI 49 ≤ x) : f_X8_isSquare x ν = some (0, ν) := by
  rw [f_X8_isSquare]
  by_cases h0 : x < 0
  · rw [if_pos h0]
  · rw [if_neg h0, if_pos (show (49 : Int32) ≤ x from h.resolve_left h0)]
theorem sq9_in {c : Nat} (ν : gN) (h : c < 49) : f_X9_isSquare (nI c) ν = some (1, ν) := by
  rw [f_X9_isSquare, wn_in ν (nI_pos (by omega)) (by rw [lt_cn (c := 48) (k := 48) rfl (by omega) (by omega)]; omega)]
  rfl
theorem sq9_out {x : Int32} (ν : gN) (h : x < 0 ∨ nI 49 ≤ x) : f_X9_isSquare x ν = some (0, ν) := by
  rw [f_X9_isSquare, wn_out ν (show x < 0 ∨ (48 : Int32) < x from out_of (n := 48) (by decide) h)]
  rfl
/-! the fences as bits of a long -/
theorem lcz {x y : Int64} : (lg_cmp x y = 0) = (x = y) := by
  refine propext ?_
  unfold lg_cmp
  by_cases h1 : y < x
  · rw [if_pos h1]
    exact ⟨fun q => absurd q (by decide), fun q => by rw [q] at h1; exact absurd h1 (by simp [Int64.lt_iff_toInt_lt])⟩
  · rw [if_neg h1]
    by_cases h2 : x = y
    · rw [if_pos h2]; exact ⟨fun _ => h2, fun _ => rfl⟩
    · rw [if_neg h2]; exact ⟨fun q => absurd q (by decide), fun q => absurd q h2⟩
theorem sh_u : ∀ k, k < 64 → (((nI k).toInt64.toUInt64 &&& Int64.toUInt64 63)).toNat = k := by decide +kernel
theorem sh_1 : ∀ k, k < 64 → (j_lshl 1 (nI k)).toBitVec = BitVec.twoPow 64 k := by decide +kernel
theorem bit_get {m : Int64} {j : Nat} (hj : j < 64) : (j_lushr m (nI j) &&& 1 = 0) = (m.toBitVec.getLsbD j = false) := propext (by
  have e : (j_lushr m (nI j)).toBitVec = m.toBitVec >>> j := by
    apply BitVec.eq_of_toNat_eq
    show (m.toUInt64 >>> ((nI j).toInt64.toUInt64 &&& Int64.toUInt64 63)).toNat = _
    rw [UInt64.toNat_shiftRight, sh_u j hj, Nat.mod_eq_of_lt hj, BitVec.toNat_ushiftRight]
    rfl
  rw [← Int64.toBitVec_inj, Int64.toBitVec_and, e]
  show m.toBitVec >>> j &&& 1#64 = 0#64 ↔ _
  constructor
  · intro h
    have t := congrArg (fun x => x.getLsbD 0) h
    simpa using t
  · intro h
    apply BitVec.eq_of_getLsbD_eq
    intro i hi
    cases i with
    | zero => simp [h]
    | succ i => simp)
theorem bit_or {m : Int64} {j i : Nat} (hj : j < 64) (hi : i < 64) : (m ||| j_lshl 1 (nI j)).toBitVec.getLsbD i = (m.toBitVec.getLsbD i || decide (i = j)) := by
  rw [Int64.toBitVec_or, sh_1 j hj, BitVec.getLsbD_or, BitVec.getLsbD_twoPow]
  by_cases e : i = j
  · subst e; simp [hi]
  · simp [e, Ne.symm e]
theorem bit_cl {m : Int64} {j i : Nat} (hj : j < 64) (hi : i < 64) : (m &&& (j_lshl 1 (nI j) ^^^ (-1))).toBitVec.getLsbD i = (m.toBitVec.getLsbD i && !decide (i = j)) := by
  have ha : (-1 : Int64).toBitVec = BitVec.allOnes 64 := by decide
  rw [Int64.toBitVec_and, Int64.toBitVec_xor, sh_1 j hj, ha, BitVec.getLsbD_and, BitVec.getLsbD_xor, BitVec.getLsbD_twoPow, BitVec.getLsbD_allOnes]
  by_cases e : i = j
  · subst e; simp [hi]
  · simp [e, Ne.symm e, hi]
theorem fn_in {p c : Nat} {S : pS} {ν : gN} (h : RP p S ν) (hc : c < 49) : f_X4_isFenced p (nI c) ν = some (if S.2.2.1 c then 1 else 0, ν) := by
  simp only [f_X4_isFenced, sq8_in ν hc, Option.bind_some, b1, ↓reduceIte, lcz, bit_get (show c < 64 by omega), h.2.2.1 c (by omega)]
  cases S.2.2.1 c <;> rfl
theorem fn_out {p : Nat} {x : Int32} (ν : gN) (h : x < 0 ∨ nI 49 ≤ x) : f_X4_isFenced p x ν = some (0, ν) := by
  simp only [f_X4_isFenced, sq8_out ν h, Option.bind_some, ↓reduceIte]
theorem op8_in {p c : Nat} {S : pS} {ν : gN} (h : RP p S ν) (hc : c < 49) : f_X4_isOpen p (nI c) ν = some (if S.2.2.1 c then 0 else 1, ν) := by
  simp only [f_X4_isOpen, sq8_in ν hc, Option.bind_some, b1, ↓reduceIte, fn_in h hc]
  cases S.2.2.1 c <;> rfl
theorem op8_out {p : Nat} {x : Int32} (ν : gN) (h : x < 0 ∨ nI 49 ≤ x) : f_X4_isOpen p x ν = some (0, ν) := by
  simp only [f_X4_isOpen, sq8_out ν h, Option.bind_some, ↓reduceIte]
theorem op9_in {c : Nat} {S : pS} {ν : gN} (h : RM S ν) (hc : c < 49) : f_X9_isOpen (nI c) ν = some (if S.2.2.1 c then 0 else 1, ν) := by
  simp only [f_X9_isOpen, sq9_in ν hc, Option.bind_some, b1, ↓reduceIte, ib_in hc (show 49 < 2 ^ 31 by decide), nI_clamp (show c < 2 ^ 31 by omega), h.2.2.1 c hc]
  cases S.2.2.1 c <;> rfl
theorem op9_out {x : Int32} (ν : gN) (h : x < 0 ∨ nI 49 ≤ x) : f_X9_isOpen x ν = some (0, ν) := by
  simp only [f_X9_isOpen, sq9_out ν h, Option.bind_some, ↓reduceIte]
/-! smell and fleeing -/
def sml (k a w : Int32) : Int32 := if k = 2 then w / 2 else if k = 3 then w + a else if k = 4 then w else if k = 5 then w / 2 else if k = 6 then w + a + 3 else w
def fle (k a w : Int32) : Bool := if k = 1 then decide (¬ 10 + a ≤ w) else if k = 2 then decide (¬ 10 ≤ w) else if k = 3 then decide (¬ 10 + a ≤ w) else if k = 4 then false else if k = 5 then decide (¬ 10 ≤ w) else if k = 6 then decide (¬ 10 + a ≤ w) else decide (¬ 10 ≤ w)
def smS (S : pS) (i : Nat) : Int32 := sml (S.2.1 0 i) (S.2.1 1 i) (S.2.1 2 i)
def flS (S : pS) (i : Nat) : Bool := fle (S.2.1 0 i) (S.2.1 1 i) (S.2.1 2 i)
def i01 (b : Bool) : Int32 := if b then 1 else 0
theorem zb_i01 (b : Bool) : zb (i01 b) = true := by cases b <;> rfl
theorem i01_d {c : Prop} (d : Decidable c) (ν : gN) : (if c then some ((0 : Int32), ν) else some (1, ν)) = some (i01 (decide (¬ c)), ν) := by
  by_cases h : c <;> simp [h, i01]
theorem sm3 (k a w : Int32) (ν : gN) : f_X3_smell k a w ν = some (sml k a w, ν) := by
  unfold f_X3_smell sml
  repeat (split <;> try rfl)
theorem fl3 (k a w : Int32) (ν : gN) : f_X3_isFleeing k a w ν = some (i01 (fle k a w), ν) := by
  unfold f_X3_isFleeing fle
  simp only [i01_d]
  repeat (split <;> try rfl)
theorem sm8 {p i : Nat} {S : pS} {ν : gN} (h : RP p S ν) (hi : i < 7) : f_X4_smellOf p (nI i) ν = some (smS S i, ν) := by
  simp only [f_X4_smellOf, ib_in hi (show 7 < 2 ^ 31 by decide), ↓reduceIte, nI_clamp (show i < 2 ^ 31 by omega), sm3, Option.bind_some, h.c0 hi, h.c1 hi, h.c2 hi, smS]
theorem fl8 {p i : Nat} {S : pS} {ν : gN} (h : RP p S ν) (hi : i < 7) : f_X4_isFleeing p (nI i) ν = some (i01 (flS S i), ν) := by
  simp only [f_X4_isFleeing, ib_in hi (show 7 < 2 ^ 31 by decide), ↓reduceIte, nI_clamp (show i < 2 ^ 31 by omega), fl3, Option.bind_some, h.c0 hi, h.c1 hi, h.c2 hi, flS, zb_i01]
theorem sm9 {i : Nat} {S : pS} {ν : gN} (h : RM S ν) (hi : i < 7) : f_X9_smell (nI i) ν = some (smS S i, ν) := by
  simp only [f_X9_smell, ib_in hi (show 7 < 2 ^ 31 by decide), ↓reduceIte, nI_clamp (show i < 2 ^ 31 by omega), h.c0 hi, h.c1 hi, h.c2 hi, smS, sml]
  repeat (split <;> try rfl)
theorem fl9 {i : Nat} {S : pS} {ν : gN} (h : RM S ν) (hi : i < 7) : f_X9_flees (nI i) ν = some (i01 (flS S i), ν) := by
  simp only [f_X9_flees, ib_in hi (show 7 < 2 ^ 31 by decide), ↓reduceIte, nI_clamp (show i < 2 ^ 31 by omega), h.c0 hi, h.c1 hi, h.c2 hi, flS, fle, i01_d]
  repeat (split <;> try rfl)
/-- whether one is put out -/
def ouS (S : pS) (i : Nat) : Bool := decide (¬ smS S i ≤ S.2.2.2.1 1)
theorem ou8 {p i : Nat} {S : pS} {ν : gN} (h : RP p S ν) (hi : i < 7) : f_X4_isPutOut p (nI i) ν = some (i01 (ouS S i), ν) := by
  simp only [f_X4_isPutOut, sm8 h hi, Option.bind_some, show ν.1 p 9 = S.2.2.2.1 1 from h.2.2.2.1 1 (by decide), i01_d, ouS]
theorem ou9 {i : Nat} {S : pS} {ν : gN} (h : RM S ν) (hi : i < 7) : f_X9_isOut (nI i) ν = some (i01 (ouS S i), ν) := by
  simp only [f_X9_isOut, sm9 h hi, Option.bind_some, show inb 1 4 = true from rfl, ↓reduceIte, show (1 : Int32).toNatClampNeg = 1 from rfl, h.2.2.2.1 1 (by decide), i01_d, ouS]
/-! sets of people as numbers below 128 -/
def msk (P : Nat → Bool) : Nat → Nat
  | 0 => 0
  | n + 1 => if P n then msk P n ||| 2 ^ n else msk P n
theorem msk_lt {P : Nat → Bool} : ∀ n, msk P n < 2 ^ n
  | 0 => Nat.one_pos
  | n + 1 => by
    have ih := msk_lt (P := P) n
    have h2 : 2 ^ n < 2 ^ (n + 1) := Nat.pow_lt_pow_right (by decide) (Nat.lt_succ_self n)
    rw [msk]
    split
    · exact Nat.or_lt_two_pow (by omega) h2
    · omega
theorem msk_cong {P Q : Nat → Bool} : ∀ n, (∀ i, i < n → P i = Q i) → msk P n = msk Q n
  | 0, _ => rfl
  | n + 1, h => by rw [msk, msk, msk_cong n (fun i hi => h i (by omega)), h n (by omega)]
theorem msk_bit {P : Nat → Bool} : ∀ n i, (msk P n).testBit i = (decide (i < n) && P i)
  | 0, i => by simp [msk]
  | n + 1, i => by
    have ih := msk_bit (P := P) n i
    rw [msk]
    by_cases hp : P n = true
    · rw [if_pos hp, Nat.testBit_or, ih, Nat.testBit_two_pow]
      by_cases e : n = i
      · subst e; simp [hp]
      · have h1 : (i < n + 1) = (i < n) := by apply propext; omega
        simp [e, h1]
    · rw [if_neg hp, ih]
      by_cases e : n = i
      · subst e; simp [hp]
      · have h1 : (i < n + 1) = (i < n) := by apply propext; omega
        simp [h1]
theorem or_k : ∀ m, m < 128 → ∀ i, i < 7 → nI m ||| j_shl 1 (nI i) = nI (m ||| 2 ^ i) := by decide +kernel
theorem or_0 (x : Int32) : x ||| 0 = x := by simp
theorem mlt {c n : Nat} {P : Nat → Bool} (h : n ≤ c) (hc : c ≤ 7) : msk P n < 128 := Nat.lt_of_lt_of_le (msk_lt n) (Nat.le_trans (Nat.pow_le_pow_right (by decide) (Nat.le_trans h hc)) (by decide))
/-- those at a square -/
def atS (S : pS) (x : Int32) : Nat → Bool := fun i => decide (S.2.1 4 i = x)
theorem pa_L {p : Nat} {S : pS} {ν : gN} {x : Int32} {k : Int32 → gN → Option (Int32 × gN)} (h : RP p S ν) (hc : S.1 ≤ 7) : ∀ j n i, i + j = S.1 → j < n → f_X4_peopleAt_L4 p x k n (nI (msk (atS S x) i)) (nI i) ν = k (nI (msk (atS S x) S.1)) ν := by
  intro j
  induction j with
  | zero =>
    intro n i hi hn
    obtain ⟨n, rfl⟩ : ∃ m, n = m + 1 := ⟨n - 1, by omega⟩
    have e : i = S.1 := by omega
    rw [f_X4_peopleAt_L4, h.1, e, if_pos (nI_le (Nat.le_refl _) (by omega))]
  | succ j ih =>
    intro n i hi hn
    obtain ⟨n, rfl⟩ : ∃ m, n = m + 1 := ⟨n - 1, by omega⟩
    have hi7 : i < 7 := by omega
    have hm : msk (atS S x) i < 128 := mlt (c := S.1) (by omega) hc
    rw [f_X4_peopleAt_L4, h.1, if_neg (nI_ge (by omega) (by omega)), if_pos (ib_in hi7 (by decide)), nI_clamp (by omega), h.c4 hi7, nI_1, or_0, or_k _ hm _ hi7]
    have hs := ih n (i + 1) (by omega) (by omega)
    rw [msk] at hs
    by_cases hq : S.2.1 4 i = x
    · rw [if_pos hq]
      rw [if_pos (show atS S x i = true from decide_eq_true hq)] at hs
      exact hs
    · rw [if_neg hq]
      rw [if_neg (show ¬ atS S x i = true by simp [atS, hq])] at hs
      exact hs
theorem pa8 {p : Nat} {S : pS} {ν : gN} (x : Int32) (h : RP p S ν) (hc : S.1 ≤ 7) : f_X4_peopleAt p x ν = some (nI (msk (atS S x) S.1), ν) := by
  rw [f_X4_peopleAt]
  exact pa_L h hc S.1 FU 0 (by omega) (by unfold FU; omega)
theorem ta_L {S : pS} {ν : gN} {x : Int32} {k : Int32 → gN → Option (Int32 × gN)} (h : RM S ν) (hc : S.1 ≤ 7) : ∀ j n i, i + j = S.1 → j < n → f_X9_thoseAt_L4 x k n (nI (msk (atS S x) i)) (nI i) ν = k (nI (msk (atS S x) S.1)) ν := by
  intro j
  induction j with
  | zero =>
    intro n i hi hn
    obtain ⟨n, rfl⟩ : ∃ m, n = m + 1 := ⟨n - 1, by omega⟩
    have e : i = S.1 := by omega
    rw [f_X9_thoseAt_L4, h.1, e, if_pos (nI_le (Nat.le_refl _) (by omega))]
  | succ j ih =>
    intro n i hi hn
    obtain ⟨n, rfl⟩ : ∃ m, n = m + 1 := ⟨n - 1, by omega⟩
    have hi7 : i < 7 := by omega
    have hm : msk (atS S x) i < 128 := mlt (c := S.1) (by omega) hc
    rw [f_X9_thoseAt_L4, h.1, if_neg (nI_ge (by omega) (by omega)), if_pos (ib_in hi7 (by decide)), nI_clamp (by omega), h.c4 hi7, nI_1, or_k _ hm _ hi7]
    have hs := ih n (i + 1) (by omega) (by omega)
    rw [msk] at hs
    by_cases hq : S.2.1 4 i = x
    · rw [if_pos hq]
      rw [if_pos (show atS S x i = true from decide_eq_true hq)] at hs
      exact hs
    · rw [if_neg hq]
      rw [if_neg (show ¬ atS S x i = true by simp [atS, hq])] at hs
      exact hs
theorem ta9 {S : pS} {ν : gN} (x : Int32) (h : RM S ν) (hc : S.1 ≤ 7) : f_X9_thoseAt x ν = some (nI (msk (atS S x) S.1), ν) := by
  rw [f_X9_thoseAt]
  exact ta_L h hc S.1 FU 0 (by omega) (by unfold FU; omega)
/-- a square that may be fenced: a square, not the lamp, nobody there -/
def frS (S : pS) (c : Nat) : Bool := decide (c ≠ 24) && decide (msk (atS S (nI c)) S.1 = 0)
theorem mb8 {p c : Nat} {S : pS} {ν : gN} (h : RP p S ν) (hc7 : S.1 ≤ 7) (hc : c < 49) : f_X4_mayBeFenced p (nI c) ν = some (i01 (frS S c), ν) := by
  have hm : msk (atS S (nI c)) S.1 < 128 := mlt (Nat.le_refl _) hc7
  simp only [f_X4_mayBeFenced, sq8_in ν hc, Option.bind_some, b1, ↓reduceIte, pa8 _ h hc7, eq_nc (s := c) (k := 24) (c := 24) rfl (by omega) (by decide), eq_nc (s := msk (atS S (nI c)) S.1) (k := 0) (c := 0) rfl (by omega) (by decide), frS]
  by_cases h1 : c = 24
  · simp [h1, i01]
  · by_cases h2 : msk (atS S (nI c)) S.1 = 0 <;> simp [h1, h2, i01]
theorem mb8_out {p : Nat} {x : Int32} (ν : gN) (h : x < 0 ∨ nI 49 ≤ x) : f_X4_mayBeFenced p x ν = some (0, ν) := by
  simp only [f_X4_mayBeFenced, sq8_out ν h, Option.bind_some, ↓reduceIte]
theorem fr9 {c : Nat} {S : pS} {ν : gN} (h : RM S ν) (hc7 : S.1 ≤ 7) (hc : c < 49) : f_X9_isFree (nI c) ν = some (i01 (frS S c), ν) := by
  have hm : msk (atS S (nI c)) S.1 < 128 := mlt (Nat.le_refl _) hc7
  simp only [f_X9_isFree, sq9_in ν hc, Option.bind_some, b1, ↓reduceIte, ta9 _ h hc7, eq_nc (s := c) (k := 24) (c := 24) rfl (by omega) (by decide), eq_nc (s := msk (atS S (nI c)) S.1) (k := 0) (c := 0) rfl (by omega) (by decide), frS]
  by_cases h1 : c = 24
  · simp [h1, i01]
  · by_cases h2 : msk (atS S (nI c)) S.1 = 0 <;> simp [h1, h2, i01]
theorem fr9_out {x : Int32} (ν : gN) (h : x < 0 ∨ nI 49 ≤ x) : f_X9_isFree x ν = some (0, ν) := by
  simp only [f_X9_isFree, sq9_out ν h, Option.bind_some, ↓reduceIte]
