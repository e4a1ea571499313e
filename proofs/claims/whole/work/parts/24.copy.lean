/-! the call copy -/
theorem ix_3 (s a i : Nat) : (160 : Int32) * nI s + nI a + nI i = nI (160 * s + a + i) := by
  rw [show (160 : Int32) = nI 160 from rfl, nI_mul, nI_add, nI_add]
theorem cu_L {s1 s2 a b c : Nat} {k : gN → Option (Int32 × gN)} (h1 : s1 < 8) (h2 : s2 < 8) (ha : a + c ≤ 160) (hb : b + c ≤ 160) (hd : 160 * s2 + b ≤ 160 * s1 + a ∨ 160 * s1 + a + c ≤ 160 * s2 + b) : ∀ j n i ν, i + j = c → j < n → ∃ ν', f_X9_copy_L251 (nI s1) (nI s2) (nI a) (nI b) (nI c) k n (nI i) ν = k ν' ∧ ν'.1 = ν.1 ∧ (∀ e q, ν'.2 e q = if e = 64 ∧ 160 * s2 + b + i ≤ q ∧ q < 160 * s2 + b + c then ν.2 64 (160 * s1 + a + (q - (160 * s2 + b))) else ν.2 e q) := by
  intro j
  induction j with
  | zero =>
    intro n i ν hi hn
    obtain ⟨n, rfl⟩ : ∃ m, n = m + 1 := ⟨n - 1, by omega⟩
    refine ⟨ν, ?_, rfl, fun e q => ?_⟩
    · rw [f_X9_copy_L251, if_pos (nI_le (by omega) (by omega))]
    · rw [if_neg (by omega)]
  | succ j ih =>
    intro n i ν hi hn
    obtain ⟨n, rfl⟩ : ∃ m, n = m + 1 := ⟨n - 1, by omega⟩
    obtain ⟨ν', e1, e2, e3⟩ := ih n (i + 1) (nWL ν 64 (160 * s2 + b + i) (ν.2 64 (160 * s1 + a + i))) (by omega) (by omega)
    refine ⟨ν', ?_, e2, fun e q => ?_⟩
    · rw [f_X9_copy_L251, if_neg (nI_ge (by omega) (by omega)), ix_3, ix_3, if_pos (ib_in (by omega) (by decide)), if_pos (ib_in (by omega) (by decide)), nI_clamp (by omega), nI_clamp (by omega), ql, nI_1, e1]
    · rw [e3]
      by_cases g : e = 64 ∧ 160 * s2 + b + (i + 1) ≤ q ∧ q < 160 * s2 + b + c
      · rw [if_pos g, if_pos (by omega), wl_ne (by omega)]
      · rw [if_neg g]
        by_cases g2 : e = 64 ∧ q = 160 * s2 + b + i
        · rw [g2.1, g2.2, wl_eq, if_pos (by omega), show 160 * s1 + a + (160 * s2 + b + i - (160 * s2 + b)) = 160 * s1 + a + i by omega]
        · rw [wl_ne (by omega), if_neg (by omega)]
theorem cd_L {s1 s2 a b c : Nat} {k : gN → Option (Int32 × gN)} (h1 : s1 < 8) (h2 : s2 < 8) (ha : a + c ≤ 160) (hb : b + c ≤ 160) (hd : 160 * s1 + a ≤ 160 * s2 + b) : ∀ i n ν, i ≤ c → i < n → ∃ ν', f_X9_copy_L203 (nI s1) (nI s2) (nI a) (nI b) k n (nI i - 1) ν = k ν' ∧ ν'.1 = ν.1 ∧ (∀ e q, ν'.2 e q = if e = 64 ∧ 160 * s2 + b ≤ q ∧ q < 160 * s2 + b + i then ν.2 64 (160 * s1 + a + (q - (160 * s2 + b))) else ν.2 e q) := by
  intro i
  induction i with
  | zero =>
    intro n ν hi hn
    obtain ⟨n, rfl⟩ : ∃ m, n = m + 1 := ⟨n - 1, by omega⟩
    refine ⟨ν, ?_, rfl, fun e q => ?_⟩
    · rw [f_X9_copy_L203, if_pos (by decide)]
    · rw [if_neg (by omega)]
  | succ i ih =>
    intro n ν hi hn
    obtain ⟨n, rfl⟩ : ∃ m, n = m + 1 := ⟨n - 1, by omega⟩
    obtain ⟨ν', e1, e2, e3⟩ := ih n (nWL ν 64 (160 * s2 + b + i) (ν.2 64 (160 * s1 + a + i))) (by omega) (by omega)
    refine ⟨ν', ?_, e2, fun e q => ?_⟩
    · rw [f_X9_copy_L203, nI_pred, if_neg (nI_pos (by omega)), ix_3, ix_3, if_pos (ib_in (by omega) (by decide)), if_pos (ib_in (by omega) (by decide)), nI_clamp (by omega), nI_clamp (by omega), ql, ← Int32.sub_eq_add_neg, e1]
    · rw [e3]
      by_cases g : e = 64 ∧ 160 * s2 + b ≤ q ∧ q < 160 * s2 + b + i
      · rw [if_pos g, if_pos (by omega), wl_ne (by omega)]
      · rw [if_neg g]
        by_cases g2 : e = 64 ∧ q = 160 * s2 + b + i
        · rw [g2.1, g2.2, wl_eq, if_pos (by omega), show 160 * s1 + a + (160 * s2 + b + i - (160 * s2 + b)) = 160 * s1 + a + i by omega]
        · rw [wl_ne (by omega), if_neg (by omega)]
/-- a stretch from a on, c long, of a row l long -/
theorem st8 {s l : Nat} {x c : Nat} {ν : gN} (e : ν.1 s 2 = nI l) (hl : l ≤ 160) (hx : x < 2 ^ 31) (hc : c < 2 ^ 31) : f_X6_hasStretch s (nI x) (nI c) ν = some (i01 (decide (x + c ≤ l)), ν) := by
  have h : (nI l - nI c < nI x) = (¬ x + c ≤ l) := by
    apply propext
    rw [Int32.lt_iff_toInt_lt, Int32.toInt_sub, nI_toInt (by omega), nI_toInt hc, nI_toInt hx]
    rw [show ((l : Int) - (c : Int)).bmod (2 ^ 32) = (l : Int) - c from Int.bmod_eq_of_le (by omega) (by omega)]
    omega
  simp only [f_X6_hasStretch, q_lt0 hx, q_lt0 hc, e, h, ↓reduceIte]
  by_cases g : x + c ≤ l <;> simp [g, i01]
theorem st8n {s : Nat} {x : Int32} {c : Int32} {ν : gN} (hx : x < 0) : f_X6_hasStretch s x c ν = some (0, ν) := by rw [f_X6_hasStretch, if_pos hx]
theorem ls_sum {x c l : Nat} (hl : l ≤ 160) (hx : x < 2 ^ 31) (hc : c < 2 ^ 31) : lg_cmp ((nI x).toInt64 + (nI c).toInt64) (nI l).toInt64 = if x + c < l then -1 else if x + c = l then 0 else 1 := by
  have e : ((nI x).toInt64 + (nI c).toInt64).toInt = (x : Int) + c := by
    rw [Int64.toInt_add, Int32.toInt_toInt64, Int32.toInt_toInt64, nI_toInt hx, nI_toInt hc]
    exact Int.bmod_eq_of_le (by omega) (by omega)
  have e2 : (nI l).toInt64.toInt = (l : Int) := by rw [Int32.toInt_toInt64, nI_toInt (by omega)]
  unfold lg_cmp
  have d1 : ((nI l).toInt64 < (nI x).toInt64 + (nI c).toInt64) = (l < x + c) := by
    apply propext; rw [Int64.lt_iff_toInt_lt, e, e2]; omega
  have d2 : ((nI x).toInt64 + (nI c).toInt64 = (nI l).toInt64) = (x + c = l) := by
    apply propext; rw [← Int64.toInt_inj, e, e2]; omega
  simp only [d1, d2]
  by_cases g : x + c < l
  · rw [if_neg (by omega), if_neg (by omega), if_pos g]
  · by_cases g2 : x + c = l
    · rw [if_neg (by omega), if_pos g2, if_neg g, if_pos g2]
    · rw [if_pos (by omega), if_neg g, if_neg g2]
theorem l_le {x c l : Nat} (hl : l ≤ 160) (hx : x < 2 ^ 31) (hc : c < 2 ^ 31) : (lg_cmp ((nI x).toInt64 + (nI c).toInt64) (nI l).toInt64 ≤ 0) = (x + c ≤ l) := by
  rw [ls_sum hl hx hc]
  by_cases g : x + c < l
  · rw [if_pos g]; exact propext ⟨fun _ => by omega, fun _ => by decide⟩
  · by_cases g2 : x + c = l
    · rw [if_neg g, if_pos g2]; exact propext ⟨fun _ => by omega, fun _ => by decide⟩
    · rw [if_neg g, if_neg g2]; exact propext ⟨fun q => absurd q (by decide), fun q => absurd q (by omega)⟩
theorem l_gt {x c l : Nat} (hl : l ≤ 160) (hx : x < 2 ^ 31) (hc : c < 2 ^ 31) : (0 < lg_cmp ((nI x).toInt64 + (nI c).toInt64) (nI l).toInt64) = ¬ (x + c ≤ l) := by
  rw [ls_sum hl hx hc]
  by_cases g : x + c < l
  · rw [if_pos g]; exact propext ⟨fun q => absurd q (by decide), fun q => absurd q (by omega)⟩
  · by_cases g2 : x + c = l
    · rw [if_neg g, if_pos g2]; exact propext ⟨fun q => absurd q (by decide), fun q => absurd q (by omega)⟩
    · rw [if_neg g, if_neg g2]; exact propext ⟨fun _ => by omega, fun _ => by decide⟩
theorem op_copy (x1 x2 x3 x4 x5 : Int32) {Z : zS} (hZ : okZ Z) : both (f_X8_copy x1 x2 x3 x4 x5) (f_X9_copy x1 x2 x3 x4 x5) Z := by
  rcases (rng x1 8 (by decide)).symm with hx | ⟨s, hs, rfl⟩
  · refine both_no (a := -1) 1 (by decide) hZ (fun ν h => ?_) (fun ν h => ?_)
    · rw [f_X8_copy, shelf_out ν hx]
      simp only [Option.bind_some, ↓reduceIte, rf_1]
    · rw [f_X9_copy, wsh_out ν hx]
      simp only [Option.bind_some, ↓reduceIte, no_1]
  rcases (rng x2 8 (by decide)).symm with hx | ⟨s', hs', rfl⟩
  · refine both_no (a := -1) 1 (by decide) hZ (fun ν h => ?_) (fun ν h => ?_)
    · rw [f_X8_copy, shelf_in ν hs, Option.bind_some, if_neg (show ¬ (1 : Int32) = 0 by decide), shelf_out _ hx]
      simp only [Option.bind_some, ↓reduceIte, rf_1]
    · rw [f_X9_copy, wsh_in ν hs, Option.bind_some, if_neg (show ¬ (1 : Int32) = 0 by decide), wsh_out _ hx]
      simp only [Option.bind_some, ↓reduceIte, no_1]
  have i8 := ib_in hs (show 8 < 2 ^ 31 by decide)
  have c8 := nI_clamp (show s < 2 ^ 31 by omega)
  have i8' := ib_in hs' (show 8 < 2 ^ 31 by decide)
  have c8' := nI_clamp (show s' < 2 ^ 31 by omega)
  rcases shc hZ hs with hv | ⟨q, hq, hq2, hv⟩ | ⟨t, ht, hv, hl⟩ <;> rcases shc hZ hs' with hw | ⟨q', hq', hq2', hw⟩ | ⟨t', ht', hw, hl'⟩
  · refine both_no (a := -3) 3 (by decide) hZ (fun ν h => ?_) (fun ν h => ?_)
    · simp only [f_X8_copy, f_X8_areOfTwoSorts, f_X6_hasPerson, f_X6_hasRow, shelf_in ν hs, shelf_in ν hs', Option.bind_some, ↓reduceIte, b1, i8, c8, i8', c8', (h.2.1 s hs).1, (h.2.1 s' hs').1, hv, hw, m1_lt100, m1_lt0, m1_0le, m1_100le, rf_3]
    · simp only [f_X9_copy, f_X9_isRow, wsh_in ν hs, wsh_in ν hs', Option.bind_some, ↓reduceIte, b1, i8, c8, i8', c8', (h.2.1 s hs).1, (h.2.1 s' hs').1, hv, hw, m1_lt100, m1_lt0, m1_0le, m1_100le, no_3]
  · refine both_no (a := -2) 2 (by decide) hZ (fun ν h => ?_) (fun ν h => ?_)
    · simp only [f_X8_copy, f_X8_areOfTwoSorts, f_X6_hasPerson, f_X6_hasRow, shelf_in ν hs, shelf_in ν hs', Option.bind_some, ↓reduceIte, b1, i8, c8, i8', c8', (h.2.1 s hs).1, (h.2.1 s' hs').1, hv, hw, m1_lt100, m1_lt0, m1_0le, m1_100le, q_lt100 hq', q_lt0 (show q' < 2 ^ 31 by omega), q_0le (show q' < 2 ^ 31 by omega), q_100le hq', rf_2]
    · simp only [f_X9_copy, f_X9_isRow, wsh_in ν hs, wsh_in ν hs', Option.bind_some, ↓reduceIte, b1, i8, c8, i8', c8', (h.2.1 s hs).1, (h.2.1 s' hs').1, hv, hw, m1_lt100, m1_lt0, m1_0le, m1_100le, q_lt100 hq', q_lt0 (show q' < 2 ^ 31 by omega), q_0le (show q' < 2 ^ 31 by omega), q_100le hq', no_2]
  · refine both_no (a := -3) 3 (by decide) hZ (fun ν h => ?_) (fun ν h => ?_)
    · simp only [f_X8_copy, f_X8_areOfTwoSorts, f_X6_hasPerson, f_X6_hasRow, shelf_in ν hs, shelf_in ν hs', Option.bind_some, ↓reduceIte, b1, i8, c8, i8', c8', (h.2.1 s hs).1, (h.2.1 s' hs').1, hv, hw, m1_lt100, m1_lt0, m1_0le, m1_100le, t_lt100 ht', t_lt0 ht', t_0le ht', t_100le ht', rf_3]
    · simp only [f_X9_copy, f_X9_isRow, wsh_in ν hs, wsh_in ν hs', Option.bind_some, ↓reduceIte, b1, i8, c8, i8', c8', (h.2.1 s hs).1, (h.2.1 s' hs').1, hv, hw, m1_lt100, m1_lt0, m1_0le, m1_100le, t_lt100 ht', t_lt0 ht', t_0le ht', t_100le ht', no_3]
  · refine both_no (a := -2) 2 (by decide) hZ (fun ν h => ?_) (fun ν h => ?_)
    · simp only [f_X8_copy, f_X8_areOfTwoSorts, f_X6_hasPerson, f_X6_hasRow, shelf_in ν hs, shelf_in ν hs', Option.bind_some, ↓reduceIte, b1, i8, c8, i8', c8', (h.2.1 s hs).1, (h.2.1 s' hs').1, hv, hw, q_lt100 hq, q_lt0 (show q < 2 ^ 31 by omega), q_0le (show q < 2 ^ 31 by omega), q_100le hq, m1_lt100, m1_lt0, m1_0le, m1_100le, rf_2]
    · simp only [f_X9_copy, f_X9_isRow, wsh_in ν hs, wsh_in ν hs', Option.bind_some, ↓reduceIte, b1, i8, c8, i8', c8', (h.2.1 s hs).1, (h.2.1 s' hs').1, hv, hw, q_lt100 hq, q_lt0 (show q < 2 ^ 31 by omega), q_0le (show q < 2 ^ 31 by omega), q_100le hq, m1_lt100, m1_lt0, m1_0le, m1_100le, no_2]
  · refine both_no (a := -2) 2 (by decide) hZ (fun ν h => ?_) (fun ν h => ?_)
    · simp only [f_X8_copy, f_X8_areOfTwoSorts, f_X6_hasPerson, f_X6_hasRow, shelf_in ν hs, shelf_in ν hs', Option.bind_some, ↓reduceIte, b1, i8, c8, i8', c8', (h.2.1 s hs).1, (h.2.1 s' hs').1, hv, hw, q_lt100 hq, q_lt0 (show q < 2 ^ 31 by omega), q_0le (show q < 2 ^ 31 by omega), q_100le hq, q_lt100 hq', q_lt0 (show q' < 2 ^ 31 by omega), q_0le (show q' < 2 ^ 31 by omega), q_100le hq', rf_2]
    · simp only [f_X9_copy, f_X9_isRow, wsh_in ν hs, wsh_in ν hs', Option.bind_some, ↓reduceIte, b1, i8, c8, i8', c8', (h.2.1 s hs).1, (h.2.1 s' hs').1, hv, hw, q_lt100 hq, q_lt0 (show q < 2 ^ 31 by omega), q_0le (show q < 2 ^ 31 by omega), q_100le hq, q_lt100 hq', q_lt0 (show q' < 2 ^ 31 by omega), q_0le (show q' < 2 ^ 31 by omega), q_100le hq', no_2]
  · refine both_no (a := -2) 2 (by decide) hZ (fun ν h => ?_) (fun ν h => ?_)
    · simp only [f_X8_copy, f_X8_areOfTwoSorts, f_X6_hasPerson, f_X6_hasRow, shelf_in ν hs, shelf_in ν hs', Option.bind_some, ↓reduceIte, b1, i8, c8, i8', c8', (h.2.1 s hs).1, (h.2.1 s' hs').1, hv, hw, q_lt100 hq, q_lt0 (show q < 2 ^ 31 by omega), q_0le (show q < 2 ^ 31 by omega), q_100le hq, t_lt100 ht', t_lt0 ht', t_0le ht', t_100le ht', rf_2]
    · simp only [f_X9_copy, f_X9_isRow, wsh_in ν hs, wsh_in ν hs', Option.bind_some, ↓reduceIte, b1, i8, c8, i8', c8', (h.2.1 s hs).1, (h.2.1 s' hs').1, hv, hw, q_lt100 hq, q_lt0 (show q < 2 ^ 31 by omega), q_0le (show q < 2 ^ 31 by omega), q_100le hq, t_lt100 ht', t_lt0 ht', t_0le ht', t_100le ht', no_2]
  · refine both_no (a := -3) 3 (by decide) hZ (fun ν h => ?_) (fun ν h => ?_)
    · simp only [f_X8_copy, f_X8_areOfTwoSorts, f_X6_hasPerson, f_X6_hasRow, shelf_in ν hs, shelf_in ν hs', Option.bind_some, ↓reduceIte, b1, i8, c8, i8', c8', (h.2.1 s hs).1, (h.2.1 s' hs').1, hv, hw, t_lt100 ht, t_lt0 ht, t_0le ht, t_100le ht, m1_lt100, m1_lt0, m1_0le, m1_100le, rf_3]
    · simp only [f_X9_copy, f_X9_isRow, wsh_in ν hs, wsh_in ν hs', Option.bind_some, ↓reduceIte, b1, i8, c8, i8', c8', (h.2.1 s hs).1, (h.2.1 s' hs').1, hv, hw, t_lt100 ht, t_lt0 ht, t_0le ht, t_100le ht, m1_lt100, m1_lt0, m1_0le, m1_100le, no_3]
  · refine both_no (a := -2) 2 (by decide) hZ (fun ν h => ?_) (fun ν h => ?_)
    · simp only [f_X8_copy, f_X8_areOfTwoSorts, f_X6_hasPerson, f_X6_hasRow, shelf_in ν hs, shelf_in ν hs', Option.bind_some, ↓reduceIte, b1, i8, c8, i8', c8', (h.2.1 s hs).1, (h.2.1 s' hs').1, hv, hw, t_lt100 ht, t_lt0 ht, t_0le ht, t_100le ht, q_lt100 hq', q_lt0 (show q' < 2 ^ 31 by omega), q_0le (show q' < 2 ^ 31 by omega), q_100le hq', rf_2]
    · simp only [f_X9_copy, f_X9_isRow, wsh_in ν hs, wsh_in ν hs', Option.bind_some, ↓reduceIte, b1, i8, c8, i8', c8', (h.2.1 s hs).1, (h.2.1 s' hs').1, hv, hw, t_lt100 ht, t_lt0 ht, t_0le ht, t_100le ht, q_lt100 hq', q_lt0 (show q' < 2 ^ 31 by omega), q_0le (show q' < 2 ^ 31 by omega), q_100le hq', no_2]
  · by_cases htt : t = t'
    · subst htt
      have h100 : nI 100 ≤ Z.2.1.1 s := by rw [hv]; exact i_100.2 (of_eq_true (t_100le ht))
      have h100' : nI 100 ≤ Z.2.1.1 s' := by rw [hw]; exact i_100.2 (of_eq_true (t_100le ht))
      by_cases h0 : (0 : Int32) ≤ x5
      · obtain ⟨c, hc, rfl⟩ := nI_of (x := x5) (fun z => by rw [Int32.lt_iff_toInt_lt] at z; rw [Int32.le_iff_toInt_le] at h0; omega)
        by_cases h3 : x3 < 0
        · refine both_no (a := -5) 5 (by decide) hZ (fun ν h => ?_) (fun ν h => ?_)
          · simp only [f_X8_copy, f_X8_areOfTwoSorts, f_X6_hasPerson, f_X6_hasRow, shelf_in ν hs, shelf_in ν hs', Option.bind_some, ↓reduceIte, b1, i8, c8, i8', c8', (h.2.1 s hs).1, (h.2.1 s' hs').1, hv, hw, t_lt100 ht, t_lt0 ht, t_0le ht, t_100le ht, t_lt100 ht', t_lt0 ht', t_0le ht', t_100le ht', h0, st8n h3, rf_5]
          · simp only [f_X9_copy, f_X9_isRow, wsh_in ν hs, wsh_in ν hs', Option.bind_some, ↓reduceIte, b1, i8, c8, i8', c8', (h.2.1 s hs).1, (h.2.1 s' hs').1, hv, hw, t_lt100 ht, t_lt0 ht, t_0le ht, t_100le ht, t_lt100 ht', t_lt0 ht', t_0le ht', t_100le ht', h0, h3, no_5]
        obtain ⟨a, ha, rfl⟩ := nI_of h3
        by_cases h4 : x4 < 0
        · refine both_no (a := -5) 5 (by decide) hZ (fun ν h => ?_) (fun ν h => ?_)
          · simp only [f_X8_copy, f_X8_areOfTwoSorts, f_X6_hasPerson, f_X6_hasRow, shelf_in ν hs, shelf_in ν hs', Option.bind_some, ↓reduceIte, b1, i8, c8, i8', c8', (h.2.1 s hs).1, (h.2.1 s' hs').1, hv, hw, t_lt100 ht, t_lt0 ht, t_0le ht, t_100le ht, t_lt100 ht', t_lt0 ht', t_0le ht', t_100le ht', h0, st8 ((h.2.1 s hs).2 h100).1 hl ha hc, st8n h4, rf_5]
            cases decide (a + c ≤ Z.2.1.2.1 s) <;> rfl
          · simp only [f_X9_copy, f_X9_isRow, wsh_in ν hs, wsh_in ν hs', Option.bind_some, ↓reduceIte, b1, i8, c8, i8', c8', (h.2.1 s hs).1, (h.2.1 s' hs').1, hv, hw, t_lt100 ht, t_lt0 ht, t_0le ht, t_100le ht, t_lt100 ht', t_lt0 ht', t_0le ht', t_100le ht', h0, h3, h4, no_5]
        obtain ⟨b, hb, rfl⟩ := nI_of h4
        by_cases g1 : a + c ≤ Z.2.1.2.1 s
        · by_cases g2 : b + c ≤ Z.2.1.2.1 s'
          · have hcp : cpk (nI a) (nI b) (nI c) 160 160 = true := by
              simp only [cpk, nI_clamp ha, nI_clamp hb, nI_clamp hc, q_lt0 ha, q_lt0 hb, q_lt0 hc, not_false_eq_true, decide_true, Bool.true_and, Bool.and_eq_true, decide_eq_true_eq]
              omega
            refine ⟨1, _, hZ.sH (s := s') (v := nI (100 + t)) (n := Z.2.1.2.1 s') (f := fun j => if b ≤ j ∧ j < b + c then Z.2.1.2.2 s (a + (j - b)) else Z.2.1.2.2 s' j) (Or.inr (Or.inr ⟨t, ht, rfl, hl'⟩)), fun ν h => ⟨nCJ ν (37 + 2 * s + 1) (37 + 2 * s' + 1) a b c, ?_, h.sH hs' (fun e he => ⟨fun _ => rfl, fun j => ?_⟩) ((h.2.1 s' hs').1.trans hw) (fun _ => ⟨((h.2.1 s' hs').2 h100').1, fun j hj => ?_⟩), fun e he => ⟨fun _ => rfl, fun j => ?_⟩⟩, fun ν h => ?_⟩
            · simp only [f_X8_copy, f_X8_areOfTwoSorts, f_X6_hasPerson, f_X6_hasRow, shelf_in ν hs, shelf_in ν hs', Option.bind_some, ↓reduceIte, b1, i8, c8, i8', c8', (h.2.1 s hs).1, (h.2.1 s' hs').1, hv, hw, t_lt100 ht, t_lt0 ht, t_0le ht, t_100le ht, t_lt100 ht', t_lt0 ht', t_0le ht', t_100le ht', h0, st8 ((h.2.1 s hs).2 h100).1 hl ha hc, st8 ((h.2.1 s' hs').2 h100').1 hl' hb hc, g1, g2, decide_true, i01_1, hcp, ql, nI_clamp ha, nI_clamp hb, nI_clamp hc]
            · show (if e = 37 + 2 * s' + 1 ∧ _ then _ else _) = _
              rw [if_neg (by omega)]
            · show (if 37 + 2 * s' + 1 = 37 + 2 * s' + 1 ∧ _ then _ else _) = _
              by_cases g : b ≤ j ∧ j < b + c
              · rw [if_pos ⟨rfl, g⟩, if_pos g]; exact ((h.2.1 s hs).2 h100).2 _ (by omega)
              · rw [if_neg (fun z => g z.2), if_neg g]; exact ((h.2.1 s' hs').2 h100').2 _ hj
            · have he' : ¬ e < 53 := he
              show (if e = 37 + 2 * s' + 1 ∧ _ then _ else _) = _
              rw [if_neg (by omega)]
            · have fin : ∃ ν', f_X9_copy (nI s) (nI s') (nI a) (nI b) (nI c) ν = some (1, ν') ∧ ν'.1 = ν.1 ∧ (∀ e q, ν'.2 e q = if e = 64 ∧ 160 * s' + b ≤ q ∧ q < 160 * s' + b + c then ν.2 64 (160 * s + a + (q - (160 * s' + b))) else ν.2 e q) := by
                have hss : (nI s = nI s') = (s = s') := propext (nI_eq (by omega) (by omega))
                have hba : (nI b ≤ nI a) = (b ≤ a) := propext (nI_leI hb ha)
                by_cases gs : s = s'
                · by_cases gb : b ≤ a
                  · obtain ⟨ν', e1, e2, e3⟩ := cu_L (k := fun ν_1 => some (1, ν_1)) hs hs' (show a + c ≤ 160 by omega) (show b + c ≤ 160 by omega) (Or.inl (by omega)) c FU 0 ν (by omega) (by unfold FU; omega)
                    refine ⟨ν', ?_, e2, e3⟩
                    simp only [f_X9_copy, f_X9_isRow, wsh_in ν hs, wsh_in ν hs', Option.bind_some, ↓reduceIte, b1, i8, c8, i8', c8', (h.2.1 s hs).1, (h.2.1 s' hs').1, hv, hw, t_lt100 ht, t_lt0 ht, t_0le ht, t_100le ht, t_lt100 ht', t_lt0 ht', t_0le ht', t_100le ht', h0, h3, h4, ((h.2.1 s hs).2 h100).1, ((h.2.1 s' hs').2 h100').1, l_gt hl ha hc, l_le hl' hb hc, g1, g2, not_true_eq_false, hss, hba, eq_true gs, gb]
                    exact e1
                  · obtain ⟨ν', e1, e2, e3⟩ := cd_L (k := fun ν_1 => some (1, ν_1)) hs hs' (show a + c ≤ 160 by omega) (show b + c ≤ 160 by omega) (by omega) c FU ν (Nat.le_refl _) (by unfold FU; omega)
                    refine ⟨ν', ?_, e2, e3⟩
                    simp only [f_X9_copy, f_X9_isRow, wsh_in ν hs, wsh_in ν hs', Option.bind_some, ↓reduceIte, b1, i8, c8, i8', c8', (h.2.1 s hs).1, (h.2.1 s' hs').1, hv, hw, t_lt100 ht, t_lt0 ht, t_0le ht, t_100le ht, t_lt100 ht', t_lt0 ht', t_0le ht', t_100le ht', h0, h3, h4, ((h.2.1 s hs).2 h100).1, ((h.2.1 s' hs').2 h100').1, l_gt hl ha hc, l_le hl' hb hc, g1, g2, not_true_eq_false, hss, hba, eq_true gs, gb]
                    exact e1
                · obtain ⟨ν', e1, e2, e3⟩ := cu_L (k := fun ν_1 => some (1, ν_1)) hs hs' (show a + c ≤ 160 by omega) (show b + c ≤ 160 by omega) (by omega) c FU 0 ν (by omega) (by unfold FU; omega)
                  refine ⟨ν', ?_, e2, e3⟩
                  simp only [f_X9_copy, f_X9_isRow, wsh_in ν hs, wsh_in ν hs', Option.bind_some, ↓reduceIte, b1, i8, c8, i8', c8', (h.2.1 s hs).1, (h.2.1 s' hs').1, hv, hw, t_lt100 ht, t_lt0 ht, t_0le ht, t_100le ht, t_lt100 ht', t_lt0 ht', t_0le ht', t_100le ht', h0, h3, h4, ((h.2.1 s hs).2 h100).1, ((h.2.1 s' hs').2 h100').1, l_gt hl ha hc, l_le hl' hb hc, g1, g2, not_true_eq_false, hss, hba, gs]
                  exact e1
              obtain ⟨ν', e1, e2, e3⟩ := fin
              refine ⟨ν', e1, h.sH hs' (fun e he => ⟨fun _ => by rw [e2], fun j => ?_⟩) (fun q hq hn => ⟨by rw [e2], by rw [e2], fun j hj => ?_⟩) (by rw [e2]; exact (h.2.1 s' hs').1.trans hw) (fun _ => ⟨by rw [e2]; exact ((h.2.1 s' hs').2 h100').1, fun j hj => ?_⟩), fun e he => ⟨fun _ => by rw [e2], fun j => ?_⟩⟩
              · rw [e3, if_neg (by omega)]
              · rw [e3, if_neg (by omega)]
              · rw [e3]
                by_cases g : b ≤ j ∧ j < b + c
                · rw [if_pos (by omega), if_pos g, show 160 * s + a + (160 * s' + j - (160 * s' + b)) = 160 * s + (a + (j - b)) by omega]
                  exact ((h.2.1 s hs).2 h100).2 _ (by omega)
                · rw [if_neg (by omega), if_neg g]; exact ((h.2.1 s' hs').2 h100').2 _ hj
              · have he' : ¬ 53 ≤ e := he
                rw [e3, if_neg (by omega)]
          · refine both_no (a := -5) 5 (by decide) hZ (fun ν h => ?_) (fun ν h => ?_)
            · simp only [f_X8_copy, f_X8_areOfTwoSorts, f_X6_hasPerson, f_X6_hasRow, shelf_in ν hs, shelf_in ν hs', Option.bind_some, ↓reduceIte, b1, i8, c8, i8', c8', (h.2.1 s hs).1, (h.2.1 s' hs').1, hv, hw, t_lt100 ht, t_lt0 ht, t_0le ht, t_100le ht, t_lt100 ht', t_lt0 ht', t_0le ht', t_100le ht', h0, st8 ((h.2.1 s hs).2 h100).1 hl ha hc, st8 ((h.2.1 s' hs').2 h100').1 hl' hb hc, g1, g2, decide_true, decide_false, i01_1, i01_f, rf_5]
            · simp only [f_X9_copy, f_X9_isRow, wsh_in ν hs, wsh_in ν hs', Option.bind_some, ↓reduceIte, b1, i8, c8, i8', c8', (h.2.1 s hs).1, (h.2.1 s' hs').1, hv, hw, t_lt100 ht, t_lt0 ht, t_0le ht, t_100le ht, t_lt100 ht', t_lt0 ht', t_0le ht', t_100le ht', h0, h3, h4, ((h.2.1 s hs).2 h100).1, ((h.2.1 s' hs').2 h100').1, l_gt hl ha hc, l_le hl' hb hc, g1, g2, not_true_eq_false, no_5]
        · refine both_no (a := -5) 5 (by decide) hZ (fun ν h => ?_) (fun ν h => ?_)
          · simp only [f_X8_copy, f_X8_areOfTwoSorts, f_X6_hasPerson, f_X6_hasRow, shelf_in ν hs, shelf_in ν hs', Option.bind_some, ↓reduceIte, b1, i8, c8, i8', c8', (h.2.1 s hs).1, (h.2.1 s' hs').1, hv, hw, t_lt100 ht, t_lt0 ht, t_0le ht, t_100le ht, t_lt100 ht', t_lt0 ht', t_0le ht', t_100le ht', h0, st8 ((h.2.1 s hs).2 h100).1 hl ha hc, g1, decide_false, i01_f, rf_5]
          · simp only [f_X9_copy, f_X9_isRow, wsh_in ν hs, wsh_in ν hs', Option.bind_some, ↓reduceIte, b1, i8, c8, i8', c8', (h.2.1 s hs).1, (h.2.1 s' hs').1, hv, hw, t_lt100 ht, t_lt0 ht, t_0le ht, t_100le ht, t_lt100 ht', t_lt0 ht', t_0le ht', t_100le ht', h0, h3, h4, ((h.2.1 s hs).2 h100).1, ((h.2.1 s' hs').2 h100').1, l_gt hl ha hc, l_le hl' hb hc, g1, not_false_eq_true, no_5]
      · refine both_no (a := -4) 4 (by decide) hZ (fun ν h => ?_) (fun ν h => ?_)
        · simp only [f_X8_copy, f_X8_areOfTwoSorts, f_X6_hasPerson, f_X6_hasRow, shelf_in ν hs, shelf_in ν hs', Option.bind_some, ↓reduceIte, b1, i8, c8, i8', c8', (h.2.1 s hs).1, (h.2.1 s' hs').1, hv, hw, t_lt100 ht, t_lt0 ht, t_0le ht, t_100le ht, t_lt100 ht', t_lt0 ht', t_0le ht', t_100le ht', h0, rf_4]
        · simp only [f_X9_copy, f_X9_isRow, wsh_in ν hs, wsh_in ν hs', Option.bind_some, ↓reduceIte, b1, i8, c8, i8', c8', (h.2.1 s hs).1, (h.2.1 s' hs').1, hv, hw, t_lt100 ht, t_lt0 ht, t_0le ht, t_100le ht, t_lt100 ht', t_lt0 ht', t_0le ht', t_100le ht', h0, no_4]
    · have e : (nI (100 + t) = nI (100 + t')) = False := eq_false (by rw [nI_eq (by omega) (by omega)]; omega)
      refine both_no (a := -2) 2 (by decide) hZ (fun ν h => ?_) (fun ν h => ?_)
      · simp only [f_X8_copy, f_X8_areOfTwoSorts, f_X6_hasPerson, f_X6_hasRow, shelf_in ν hs, shelf_in ν hs', Option.bind_some, ↓reduceIte, b1, i8, c8, i8', c8', (h.2.1 s hs).1, (h.2.1 s' hs').1, hv, hw, t_lt100 ht, t_lt0 ht, t_0le ht, t_100le ht, t_lt100 ht', t_lt0 ht', t_0le ht', t_100le ht', e, show ((1 : Int32) = 0) = False from b1, rf_2]
      · simp only [f_X9_copy, f_X9_isRow, wsh_in ν hs, wsh_in ν hs', Option.bind_some, ↓reduceIte, b1, i8, c8, i8', c8', (h.2.1 s hs).1, (h.2.1 s' hs').1, hv, hw, t_lt100 ht, t_lt0 ht, t_0le ht, t_100le ht, t_lt100 ht', t_lt0 ht', t_0le ht', t_100le ht', e, no_2]
