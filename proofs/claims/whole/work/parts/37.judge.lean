/-! calls: bell judge -/
def OT (S : pS) (w : Int32) (i : Nat) : Bool := decide (¬ smS S i ≤ w)
theorem sat_L {p : Nat} {S : pS} {ν : gN} {w : Int32} {k : Int32 → gN → Option (Int32 × gN)} (h : RP p S ν) (hc : S.1 ≤ 7) : ∀ j n i, i + j = S.1 → j < n → f_X4_smellingAbove_L4 p w k n (nI (msk (OT S w) i)) (nI i) ν = k (nI (msk (OT S w) S.1)) ν := by
  intro j
  induction j with
  | zero =>
    intro n i hi hn
    obtain ⟨n, rfl⟩ : ∃ m, n = m + 1 := ⟨n - 1, by omega⟩
    have e : i = S.1 := by omega
    rw [f_X4_smellingAbove_L4, h.1, e, if_pos (nI_le (Nat.le_refl _) (by omega))]
  | succ j ih =>
    intro n i hi hn
    obtain ⟨n, rfl⟩ : ∃ m, n = m + 1 := ⟨n - 1, by omega⟩
    have hi7 : i < 7 := by omega
    have hm : msk (OT S w) i < 128 := mlt (c := S.1) (by omega) hc
    rw [f_X4_smellingAbove_L4, h.1, if_neg (nI_ge (by omega) (by omega)), sm8 h hi7, Option.bind_some, nI_1, or_0, or_k _ hm _ hi7]
    have hs := ih n (i + 1) (by omega) (by omega)
    rw [msk] at hs
    by_cases hq : smS S i ≤ w
    · rw [if_pos hq]
      rw [if_neg (show ¬ OT S w i = true by simp [OT, hq])] at hs
      exact hs
    · rw [if_neg hq]
      rw [if_pos (show OT S w i = true by simp [OT, hq])] at hs
      exact hs
theorem sat8 {p : Nat} {S : pS} {ν : gN} (w : Int32) (h : RP p S ν) (hc : S.1 ≤ 7) : f_X4_smellingAbove p w ν = some (nI (msk (OT S w) S.1), ν) := by
  rw [f_X4_smellingAbove]
  exact sat_L (k := fun z2_3 ν_4 => some (z2_3, ν_4)) h hc S.1 FU 0 (by omega) (by unfold FU; omega)
/-- the bell's scent: the one that puts x out with the fewest -/
def blL (S : pS) (x : Nat) : Nat → Int32 × Nat
  | 0 => (-1, 8)
  | t + 1 => if OT S (nI t) x = true then (if cnt (OT S (nI t)) S.1 < (blL S x t).2 then (nI t, cnt (OT S (nI t)) S.1) else blL S x t) else blL S x t
theorem blL_le (S : pS) (x : Nat) : ∀ t, (blL S x t).2 ≤ 8
  | 0 => Nat.le_refl _
  | t + 1 => by
    have := blL_le S x t
    rw [blL]
    split
    · split
      · show cnt (OT S (nI t)) S.1 ≤ 8
        omega
      · exact this
    · exact this
theorem be_8 {S : pS} {x : Nat} {ν : gN} {k : Int32 → gN → Option (Int32 × gN)} (h : RP 1 S ν) (hc : S.1 ≤ 7) (hx : x < S.1) : ∀ j n t, t + j = 41 → j < n → f_X8_bell_L25 (nI x) k n (blL S x t).1 (nI (blL S x t).2) (nI t) ν = k (blL S x 41).1 ν := by
  intro j
  induction j with
  | zero =>
    intro n t hi hn
    obtain ⟨n, rfl⟩ : ∃ m, n = m + 1 := ⟨n - 1, by omega⟩
    have e : t = 41 := by omega
    subst e
    rw [f_X8_bell_L25, if_pos (by decide)]
  | succ j ih =>
    intro n t hi hn
    obtain ⟨n, rfl⟩ : ∃ m, n = m + 1 := ⟨n - 1, by omega⟩
    have ih := ih n (t + 1) (by omega) (by omega)
    have hm : msk (OT S (nI t)) S.1 < 128 := mlt (Nat.le_refl _) hc
    have l1 := cnt_le (OT S (nI t)) S.1
    have l2 := blL_le S x t
    rw [blL] at ih
    rw [f_X8_bell_L25, if_neg (by rw [lt_cn (c := 40) (k := 40) rfl (by omega) (by decide)]; omega), sat8 _ h hc, Option.bind_some, in8 ν hm (by omega), Option.bind_some, msk_bit, decide_eq_true hx, Bool.true_and, nI_1]
    cases ho : OT S (nI t) x with
    | false =>
      rw [if_pos (show (i01 false, ν).1 = 0 from rfl)]
      rw [if_neg (by rw [ho]; decide)] at ih
      exact ih
    | true =>
      rw [if_neg (show ¬ (i01 true, ν).1 = 0 from by show ¬ i01 true = 0; decide), bcm hc, Option.bind_some]
      rw [if_pos ho] at ih
      show (if nI (blL S x t).2 ≤ nI (cnt (OT S (nI t)) S.1) then _ else _) = _
      by_cases hl : cnt (OT S (nI t)) S.1 < (blL S x t).2
      · rw [if_neg (nI_ge hl (by omega)), bcm hc, Option.bind_some]
        rw [if_pos hl] at ih
        exact ih
      · rw [if_pos (nI_le (by omega) (by omega))]
        rw [if_neg hl] at ih
        exact ih
theorem pW_pW (k : Nat) (x y : Int32) (Z : zS) : zP (pW k x) (zP (pW k y) Z) = zP (pW k x) Z := by
  unfold zP pW
  refine Prod.ext (Prod.ext rfl (Prod.ext rfl (Prod.ext rfl (Prod.ext (funext fun q => ?_) rfl)))) rfl
  show (if q = k then x else if q = k then y else _) = (if q = k then x else _)
  split <;> rfl
theorem pW_self (k : Nat) (Z : zS) : zP (pW k (Z.1.2.2.2.1 k)) Z = Z := by
  unfold zP pW
  refine Prod.ext (Prod.ext rfl (Prod.ext rfl (Prod.ext rfl (Prod.ext (funext fun q => ?_) rfl)))) rfl
  show (if q = k then Z.1.2.2.2.1 k else Z.1.2.2.2.1 q) = Z.1.2.2.2.1 q
  by_cases e : q = k
  · rw [if_pos e, e]
  · rw [if_neg e]
theorem be_9 {Z : zS} {x : Nat} {w0 : Int32} {k : Int32 → gN → Option (Int32 × gN)} (hc : Z.1.1 ≤ 7) (hx : x < Z.1.1) : ∀ j n t ν w, t + j = 41 → j < n → IM (zP (pW 1 w) Z) ν → ∃ ν' w', f_X9_bell_L30 (nI x) w0 k n (blL Z.1 x t).1 (nI (blL Z.1 x t).2) (nI t) ν = k (blL Z.1 x 41).1 ν' ∧ IM (zP (pW 1 w') Z) ν' ∧ nEq (fun q => 53 ≤ q) ν ν' := by
  intro j
  induction j with
  | zero =>
    intro n t ν w hi hn h
    obtain ⟨n, rfl⟩ : ∃ m, n = m + 1 := ⟨n - 1, by omega⟩
    have e : t = 41 := by omega
    subst e
    exact ⟨ν, w, by rw [f_X9_bell_L30, if_pos (by decide)], h, nEq.rf⟩
  | succ j ih =>
    intro n t ν w hi hn h
    obtain ⟨n, rfl⟩ : ∃ m, n = m + 1 := ⟨n - 1, by omega⟩
    have h1 : IM (zP (pW 1 (nI t)) Z) (nWI ν 61 1 (nI t)) := by
      have z := h.w (k := 1) (x := nI t) (by decide)
      rw [pW_pW] at z
      exact z
    obtain ⟨ν', w', e1, e2, e3⟩ := ih n (t + 1) (nWI ν 61 1 (nI t)) (nI t) (by omega) (by omega) h1
    have l1 := cnt_le (OT Z.1 (nI t)) Z.1.1
    have l2 := blL_le Z.1 x t
    have n0 : (zP (pW 1 (nI t)) Z).1.1 = Z.1.1 := rfl
    have hc' : (zP (pW 1 (nI t)) Z).1.1 ≤ 7 := by rw [n0]; exact hc
    have o0 : ∀ q, ouS (zP (pW 1 (nI t)) Z).1 q = OT Z.1 (nI t) q := fun q => rfl
    have eo := out9 h1.1 hc'
    rw [n0, msk_cong (Q := OT Z.1 (nI t)) Z.1.1 (fun q _ => o0 q)] at eo
    have ex := ou9 h1.1 (show x < 7 by omega)
    rw [o0] at ex
    refine ⟨ν', w', ?_, e2, (nEq.rf.wi (P := fun q => 53 ≤ q) (by decide)).tr e3⟩
    rw [blL] at e1
    rw [f_X9_bell_L30, if_neg (by rw [lt_cn (c := 40) (k := 40) rfl (by omega) (by decide)]; omega), if_pos (show inb 1 4 = true from rfl), ql, show (1 : Int32).toNatClampNeg = 1 from rfl, eo, Option.bind_some, bcm hc, Option.bind_some, ex, Option.bind_some, nI_1]
    cases ho : OT Z.1 (nI t) x with
    | false =>
      rw [if_pos (show (i01 false, nWI ν 61 1 (nI t)).1 = 0 from rfl)]
      rw [if_neg (by rw [ho]; decide)] at e1
      exact e1
    | true =>
      rw [if_neg (show ¬ (i01 true, nWI ν 61 1 (nI t)).1 = 0 from by show ¬ i01 true = 0; decide)]
      rw [if_pos ho] at e1
      show (if nI (cnt (OT Z.1 (nI t)) Z.1.1) < nI (blL Z.1 x t).2 then _ else _) = _
      by_cases hl : cnt (OT Z.1 (nI t)) Z.1.1 < (blL Z.1 x t).2
      · rw [if_pos (nI_lt hl (by omega))]
        rw [if_pos hl] at e1
        exact e1
      · rw [if_neg (nI_nlt (by omega) (by omega))]
        rw [if_neg hl] at e1
        exact e1
theorem op_bell (x : Int32) {Z : zS} (hZ : okZ Z) : both (f_X8_bell x) (f_X9_bell x) Z := by
  have hc := hZ.1.1
  rcases (rng x Z.1.1 (by omega)).symm with hx | ⟨i, hi, rfl⟩
  · refine both_no (a := -11) 1 (by decide) hZ (fun ν h => ?_) (fun ν h => ?_)
    · simp only [f_X8_bell, per_out h.1 hx, Option.bind_some, ↓reduceIte, ra_1]
    · simp only [f_X9_bell, one_out h.1 hc hx, Option.bind_some, ↓reduceIte, nt_1]
  · refine ⟨(blL Z.1 i 41).1, Z, hZ, fun ν h => ⟨ν, ?_, h, nEq.rf⟩, fun ν h => ?_⟩
    · rw [f_X8_bell, per_in h.1 hc hi, Option.bind_some, if_neg (show ¬ (1 : Int32) = 0 by decide)]
      exact be_8 (k := fun z2_11 ν_12 => some (z2_11, ν_12)) h.1 hc hi 41 FU 0 rfl (by decide)
    · have i4 : inb 1 4 = true := rfl
      have w1 : ν.1 61 1 = Z.1.2.2.2.1 1 := h.1.2.2.2.1 1 (by decide)
      obtain ⟨ν', w', e1, e2, e3⟩ := be_9 (Z := Z) (w0 := Z.1.2.2.2.1 1) (k := fun z3_13 ν_14 => if inb 1 4 = true then qL (nWI ν_14 61 (1 : Int32).toNatClampNeg (Z.1.2.2.2.1 1)) (fun ν_16 => some (z3_13, ν_16)) else none) hc hi 41 FU 0 ν (Z.1.2.2.2.1 1) rfl (by decide) (by rw [pW_self]; exact h)
      have h2 := e2.w (k := 1) (x := Z.1.2.2.2.1 1) (by decide)
      rw [pW_pW, pW_self] at h2
      refine ⟨nWI ν' 61 1 (Z.1.2.2.2.1 1), ?_, h2, e3.wi (by decide)⟩
      rw [f_X9_bell, one_in h.1 hc hi, Option.bind_some, if_neg (show ¬ (1 : Int32) = 0 by decide), if_pos i4]
      rw [show (1 : Int32).toNatClampNeg = 1 from rfl] at e1 ⊢
      show f_X9_bell_L30 (nI i) (ν.1 61 1) (fun z3_13 ν_14 => if inb 1 4 = true then qL (nWI ν_14 61 1 (ν.1 61 1)) (fun ν_16 => some (z3_13, ν_16)) else none) FU (-1) 8 0 ν = _
      rw [w1]
      refine Eq.trans e1 ?_
      rw [if_pos i4, ql]
/-- the first of P from i on, among n; 99 if none -/
def fmi (P : Nat → Bool) : Nat → Nat → Nat
  | _, 0 => 99
  | i, n + 1 => if P i = true then i else fmi P (i + 1) n
theorem fmi_lt {P : Nat → Bool} : ∀ n i, fmi P i n < i + n ∨ fmi P i n = 99
  | 0, _ => Or.inr rfl
  | n + 1, i => by
    have := fmi_lt (P := P) n (i + 1)
    rw [fmi]
    split <;> omega
theorem jg_8 {s t m : Nat} {Z : zS} {g : Nat → Nat} {ν : gN} {k : gN → Option (Int32 × gN)} (h : IC Z ν) (hs : s < 8) (hv : Z.2.1.1 s = nI (100 + t)) (ht : t < 4) (hl : Z.2.1.2.1 s ≤ 160) (hm : m ≤ Z.2.1.2.1 s) (hm7 : m ≤ 7) (hA : ∀ i, i < m → ν.1 31 i = nI (g i)) : ∀ j n i, i + j = m → j < n → f_X8_judge_L81 (nI s) (nI m) k n (nI i) ν = if fmi (fun q => decide ((Z.2.1.2.2 s q).toInt32 ≠ nI (g q))) i j = 99 then k ν else some (nI (fmi (fun q => decide ((Z.2.1.2.2 s q).toInt32 ≠ nI (g q))) i j), ν) := by
  have h100 : nI 100 ≤ Z.2.1.1 s := by rw [hv]; exact i_100.2 (of_eq_true (t_100le ht))
  have hv1 : ν.1 (37 + 2 * s) 1 = nI (100 + t) := (h.2.1 s hs).1.trans hv
  have hl1 := ((h.2.1 s hs).2 h100).1
  intro j
  induction j with
  | zero =>
    intro n i hi hn
    obtain ⟨n, rfl⟩ : ∃ m, n = m + 1 := ⟨n - 1, by omega⟩
    rw [f_X8_judge_L81, if_pos (nI_le (by omega) (by omega)), fmi, if_pos rfl]
  | succ j ih =>
    intro n i hi hn
    obtain ⟨n, rfl⟩ : ∃ m, n = m + 1 := ⟨n - 1, by omega⟩
    have ih := ih n (i + 1) (by omega) (by omega)
    have he : f_X6_intAt (37 + 2 * s) (nI i) ν = some ((Z.2.1.2.2 s i).toInt32, ν) := by
      simp only [f_X6_intAt, f_X6_elementAt, f_X6_hasElement, f_X6_hasRow, hv1, hl1, t_lt100 ht, q_lt0 (show i < 2 ^ 31 by omega), eq_false (nI_ge (show i < Z.2.1.2.1 s by omega) (by omega)), b1, Option.bind_some, ↓reduceIte, ib_in (show i < 160 by omega) (show 160 < 2 ^ 31 by decide), nI_clamp (show i < 2 ^ 31 by omega), ((h.2.1 s hs).2 h100).2 i (by omega)]
    rw [f_X8_judge_L81, if_neg (nI_ge (by omega) (by omega)), if_pos (ib_in hs (by decide)), nI_clamp (by omega), he, Option.bind_some, if_pos (ib_in (show i < 7 by omega) (by decide)), nI_clamp (by omega), hA i (by omega), nI_1, fmi]
    by_cases e : (Z.2.1.2.2 s i).toInt32 = nI (g i)
    · rw [if_pos e, ih, if_neg (show ¬ decide ((Z.2.1.2.2 s i).toInt32 ≠ nI (g i)) = true by simp [e])]
    · rw [if_neg e, if_pos (show decide ((Z.2.1.2.2 s i).toInt32 ≠ nI (g i)) = true by simp [e]), if_neg (show ¬ i = 99 by omega)]
theorem jg_9 {s m : Nat} {v : Nat → Int64} {g : Nat → Nat} {ν : gN} {k : Int32 → gN → Option (Int32 × gN)} (hs : s < 8) (hm7 : m ≤ 7) (hv : ∀ q, q < m → ν.2 64 (160 * s + q) = v q) (hA : ∀ i, i < m → ν.1 58 i = nI (g i)) : ∀ i n, i ≤ m → i < n → f_X9_judge_L90 (nI s) k n (fI (fmi (fun q => decide ((v q).toInt32 ≠ nI (g q))) i (m - i))) (nI i - 1) ν = k (fI (fmi (fun q => decide ((v q).toInt32 ≠ nI (g q))) 0 m)) ν := by
  intro i
  induction i with
  | zero =>
    intro n hi hn
    obtain ⟨n, rfl⟩ : ∃ m, n = m + 1 := ⟨n - 1, by omega⟩
    rw [f_X9_judge_L90, if_pos (by decide), Nat.sub_zero]
  | succ i ih =>
    intro n hi hn
    obtain ⟨n, rfl⟩ : ∃ m, n = m + 1 := ⟨n - 1, by omega⟩
    have ih := ih n (by omega) (by omega)
    rw [show m - i = (m - (i + 1)) + 1 by omega, fmi] at ih
    have he : f_X9_toldAt (nI s) (nI i) ν = some ((v i).toInt32, ν) := by
      rw [f_X9_toldAt, ix_s, if_pos (ib_in (by omega) (by decide)), nI_clamp (by omega), hv i (by omega)]
    rw [f_X9_judge_L90, nI_pred, if_neg (nI_pos (by omega)), if_pos (ib_in (show i < 7 by omega) (by decide)), he, Option.bind_some, nI_clamp (by omega), hA i (by omega), ← Int32.sub_eq_add_neg]
    by_cases e : (v i).toInt32 = nI (g i)
    · rw [if_pos (show nI (g i) = (v i).toInt32 from e.symm)]
      rw [if_neg (show ¬ decide ((v i).toInt32 ≠ nI (g i)) = true by simp [e])] at ih
      exact ih
    · rw [if_neg (show ¬ nI (g i) = (v i).toInt32 from fun z => e z.symm)]
      rw [if_pos (show decide ((v i).toInt32 ≠ nI (g i)) = true by simp [e]), show fI i = nI i from if_neg (by omega)] at ih
      exact ih
theorem op_judge (x y w : Int32) {Z : zS} (hZ : okZ Z) : both (f_X8_judge x y w) (f_X9_judge x y w) Z := by
  have hc := hZ.1.1
  rcases (rng x 8 (by decide)).symm with hx | ⟨s, hs, rfl⟩
  · refine both_no (a := -11) 1 (by decide) hZ (fun ν h => ?_) (fun ν h => ?_)
    · simp only [f_X8_judge, f_X8_whyNoRow, shelf_out ν hx, Option.bind_some, ↓reduceIte, b1, ra_1]
    · simp only [f_X9_judge, f_X9_noRow, wsh_out ν hx, Option.bind_some, ↓reduceIte, m1_0le, nt_1]
  have i8 := ib_in hs (show 8 < 2 ^ 31 by decide)
  have c8 := nI_clamp (show s < 2 ^ 31 by omega)
  rcases shc hZ hs with hv | ⟨q, hq, hq2, hv⟩ | ⟨t, ht, hv, hl⟩
  · refine both_no (a := -13) 3 (by decide) hZ (fun ν h => ?_) (fun ν h => ?_)
    · simp only [f_X8_judge, f_X8_whyNoRow, f_X6_hasPerson, f_X6_hasRow, shelf_in ν hs, i8, c8, (h.2.1 s hs).1, hv, m1_lt0, m1_lt100, Option.bind_some, ↓reduceIte, b1, show ((3 : Int32) = 0) = False from by decide, ra_3]
    · simp only [f_X9_judge, f_X9_noRow, wsh_in ν hs, i8, c8, (h.2.1 s hs).1, hv, m1_lt0, m1_0le, Option.bind_some, ↓reduceIte, b1, show ((0 : Int32) ≤ -3) = False from by decide, nt_3]
  · refine both_no (a := -12) 2 (by decide) hZ (fun ν h => ?_) (fun ν h => ?_)
    · simp only [f_X8_judge, f_X8_whyNoRow, f_X6_hasPerson, f_X6_hasRow, shelf_in ν hs, i8, c8, (h.2.1 s hs).1, hv, q_lt0 (show q < 2 ^ 31 by omega), q_100le hq, Option.bind_some, ↓reduceIte, b1, show ((2 : Int32) = 0) = False from by decide, ra_2]
    · simp only [f_X9_judge, f_X9_noRow, f_X9_isRow, wsh_in ν hs, i8, c8, (h.2.1 s hs).1, hv, q_lt0 (show q < 2 ^ 31 by omega), q_lt100 hq, Option.bind_some, ↓reduceIte, b1, show ((0 : Int32) ≤ -2) = False from by decide, nt_2]
  · have h100 : nI 100 ≤ Z.2.1.1 s := by rw [hv]; exact i_100.2 (of_eq_true (t_100le ht))
    have z0 : ((0 : Int32) ≤ 0) = True := by decide
    by_cases h0' : ¬ (0 : Int32) ≤ y
    · refine both_no (a := -14) 4 (by decide) hZ (fun ν h => ?_) (fun ν h => ?_)
      · simp only [f_X8_judge, f_X8_whyNoRow, f_X6_hasPerson, f_X6_hasRow, shelf_in ν hs, i8, c8, (h.2.1 s hs).1, hv, t_lt0 ht, t_100le ht, t_lt100 ht, Option.bind_some, ↓reduceIte, b1, h0', ra_4]
      · simp only [f_X9_judge, f_X9_noRow, f_X9_isRow, wsh_in ν hs, i8, c8, (h.2.1 s hs).1, hv, t_lt0 ht, t_lt100 ht, t_0le ht, z0, Option.bind_some, ↓reduceIte, b1, h0', nt_4]
    have h0 : (0 : Int32) ≤ y := Classical.not_not.mp h0'
    by_cases h1' : ¬ y ≤ nI (Z.2.1.2.1 s)
    · refine both_no (a := -15) 5 (by decide) hZ (fun ν h => ?_) (fun ν h => ?_)
      · simp only [f_X8_judge, f_X8_whyNoRow, f_X6_hasPerson, f_X6_hasRow, shelf_in ν hs, i8, c8, (h.2.1 s hs).1, ((h.2.1 s hs).2 h100).1, hv, t_lt0 ht, t_100le ht, t_lt100 ht, Option.bind_some, ↓reduceIte, b1, h0, h1', ra_5]
      · simp only [f_X9_judge, f_X9_noRow, f_X9_isRow, wsh_in ν hs, i8, c8, (h.2.1 s hs).1, ((h.2.1 s hs).2 h100).1, hv, t_lt0 ht, t_lt100 ht, t_0le ht, z0, Option.bind_some, ↓reduceIte, b1, h0, h1', nt_5]
    have h1 : y ≤ nI (Z.2.1.2.1 s) := Classical.not_not.mp h1'
    have six : (bt w 0 30 = false ∨ ¬ y ≤ nI Z.1.1) → both (f_X8_judge (nI s) y w) (f_X9_judge (nI s) y w) Z := fun hcase => by
      refine both_no (a := -16) 6 (by decide) hZ (fun ν h => ?_) (fun ν h => ?_)
      · simp only [f_X8_judge, f_X8_whyNoRow, f_X6_hasPerson, f_X6_hasRow, shelf_in ν hs, i8, c8, (h.2.1 s hs).1, ((h.2.1 s hs).2 h100).1, hv, t_lt0 ht, t_100le ht, t_lt100 ht, Option.bind_some, ↓reduceIte, b1, h0, h1, ahd8, i01_0, h.1.1, ra_6]
        rcases hcase with z | z
        · rw [if_pos z]
        · by_cases g : bt w 0 30 = false
          · rw [if_pos g]
          · rw [if_neg g, if_neg z]
      · simp only [f_X9_judge, f_X9_noRow, f_X9_isRow, wsh_in ν hs, i8, c8, (h.2.1 s hs).1, ((h.2.1 s hs).2 h100).1, hv, t_lt0 ht, t_lt100 ht, t_0le ht, z0, Option.bind_some, ↓reduceIte, b1, h0, h1, tim9, i01_0, h.1.1, nt_6]
        rcases hcase with z | z
        · rw [if_pos z]
        · by_cases g : bt w 0 30 = false
          · rw [if_pos g]
          · rw [if_neg g, if_neg z]
    cases hb : bt w 0 30 with
    | false => exact six (Or.inl hb)
    | true =>
      by_cases hn : y ≤ nI Z.1.1
      · obtain ⟨m, hmN, rfl⟩ := nI_of2 (M := nI Z.1.1) (n := Z.1.1) (nI_toInt (by omega)) (fun z => by rw [Int32.lt_iff_toInt_lt] at z; rw [Int32.le_iff_toInt_le] at h0; omega) hn
        have hml : m ≤ Z.2.1.2.1 s := (nI_leI (by omega) (by omega)).mp h1
        obtain ⟨u, _, hu, rfl⟩ := bt_of (a := 0) (b := 30) (by decide) (by decide) hb
        have hfl := fmi_lt (P := fun q => decide ((Z.2.1.2.2 s q).toInt32 ≠ nI (posN Z.1 q u))) m 0
        refine ⟨fI (fmi (fun q => decide ((Z.2.1.2.2 s q).toInt32 ≠ nI (posN Z.1 q u))) 0 m), Z, hZ, fun ν h => ?_, fun ν h => ?_⟩
        · obtain ⟨ν', e1, e2, e3, e4, e5⟩ := la8 (m := u) hZ.1 (by omega) h.1
          have hI : IC Z ν' := h.sc e5 (fun a z => by unfold scC; omega)
          refine ⟨ν', ?_, hI, e5.c (fun a z => by omega)⟩
          simp only [f_X8_judge, f_X8_whyNoRow, f_X6_hasPerson, f_X6_hasRow, shelf_in ν hs, i8, c8, (h.2.1 s hs).1, ((h.2.1 s hs).2 h100).1, hv, t_lt0 ht, t_100le ht, t_lt100 ht, Option.bind_some, ↓reduceIte, b1, h0, h1, ahd8, hb, i01_1, h.1.1, hn, e1]
          rw [show (0 : Int32) = nI 0 from rfl, jg_8 (g := fun i => posN Z.1 i u) hI hs hv ht hl hml (by omega) (fun i hi => e2 i (by omega)) m FU 0 (by omega) (by unfold FU; omega)]
          unfold fI
          split <;> rfl
        · obtain ⟨ν1, ν2, e1, e2, e3, e4, e5⟩ := peek9 h hZ (show u < 50000 by omega)
          obtain ⟨ν4, f1, f2, f3⟩ := e5 ν2 e3 mEq.rf
          have hv64 : ∀ q, q < m → ν2.2 64 (160 * s + q) = Z.2.1.2.2 s q := fun q hq => by
            obtain ⟨ν1', a1, a2, a3⟩ := kp9 (b := 72) (by decide) h.1
            have hF1 : FC Z.1 ν1' := ⟨h.1.eq a3 (fun q _ _ => by omega), by rw [(a3 53 (by decide)).1]; exact h.f.2.imp id (fun z => ⟨z.1, z.2.eq a3 (by decide)⟩)⟩
            obtain ⟨ν2', c1, c2, c3⟩ := on9 (m := u) hZ.1 (by omega) hF1
            have w1 : ν1 = ν1' := Option.some.inj (e1.symm.trans a1)
            rw [w1] at e2
            have w2 : ν2 = ν2' := Option.some.inj (e2.symm.trans c1)
            rw [w2, (c3 64 _ (by unfold wP; omega)).2, (a3 64 (by decide)).2]
            exact ((h.2.1 s hs).2 h100).2 q (by omega)
          refine ⟨ν4, ?_, f2, f3⟩
          simp only [f_X9_judge, f_X9_noRow, f_X9_isRow, wsh_in ν hs, i8, c8, (h.2.1 s hs).1, ((h.2.1 s hs).2 h100).1, hv, t_lt0 ht, t_lt100 ht, t_0le ht, z0, Option.bind_some, ↓reduceIte, b1, h0, h1, tim9, hb, i01_1, h.1.1, hn, e1, e2]
          have hj := jg_9 (v := Z.2.1.2.2 s) (g := fun i => posN Z.1 i u) (k := fun z5_15 ν_16 => (f_X9_again 72 ν_16).bind (fun r_17 => some (z5_15, r_17))) hs (show m ≤ 7 by omega) hv64 (fun i hi => (e3.1.c4 (show i < 7 by omega)).trans (if_pos (show i < Z.1.1 by omega))) m FU (Nat.le_refl _) (by unfold FU; omega)
          rw [Nat.sub_self] at hj
          refine Eq.trans hj ?_
          rw [f1]; rfl
      · exact six (Or.inr hn)
