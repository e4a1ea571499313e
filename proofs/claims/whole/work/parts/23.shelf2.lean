/-! calls of the shelves: set element says -/
theorem ws_in {i l : Nat} (ν : gN) (h : i < l) (hl : l < 2 ^ 31) : f_X9_within (nI i) 0 (nI l - 1) ν = some (1, ν) := by
  rw [nI_m1 (by omega), wn_in ν (nI_pos (by omega)) (nI_nlt (by omega) (by omega))]
theorem ws_out {l : Nat} {x : Int32} (ν : gN) (hl : l < 2 ^ 31) (hx : x < 0 ∨ nI l ≤ x) : f_X9_within x 0 (nI l - 1) ν = some (0, ν) := by
  refine wn_out ν ?_
  rcases hx with h0 | h0
  · exact Or.inl h0
  · refine Or.inr ?_
    rcases Nat.eq_zero_or_pos l with z | z
    · rw [z] at h0 ⊢
      rw [Int32.lt_iff_toInt_lt]
      rw [Int32.le_iff_toInt_le, nI_toInt (by decide)] at h0
      show (-1 : Int) < _
      omega
    · rw [nI_m1 z]
      rw [Int32.lt_iff_toInt_lt, nI_toInt (by omega)]
      rw [Int32.le_iff_toInt_le, nI_toInt (by omega)] at h0
      omega
def tvl (t : Nat) (x : Int64) : Int64 := if t = 0 then (j_i2b x.toInt32).toInt64 else if t = 1 then (j_i2s x.toInt32).toInt64 else if t = 2 then x.toInt32.toInt64 else x
theorem i_100 {t : Nat} : nI 100 ≤ nI (100 + t) ↔ (100 : Int32) ≤ nI (100 + t) := Iff.rfl
theorem pe_8 {s t i : Nat} {x : Int64} {ν : gN} (ht : t < 4) (hi : i < 160) (e : ν.1 s 1 = nI (100 + t)) : f_X6_putElement s (nI i) x ν = some (nWL ν (s + 1) i (tvl t x)) := by
  have ht' : t = 0 ∨ t = 1 ∨ t = 2 ∨ t = 3 := by omega
  simp only [f_X6_putElement, e, t_sub t ht, ib_in hi (show 160 < 2 ^ 31 by decide), nI_clamp (show i < 2 ^ 31 by omega), ql, ↓reduceIte]
  rcases ht' with rfl | rfl | rfl | rfl <;> rfl
theorem shc {Z : zS} (hZ : okZ Z) {s : Nat} (hs : s < 8) : Z.2.1.1 s = -1 ∨ (∃ q, q < 7 ∧ q < Z.1.1 ∧ Z.2.1.1 s = nI q) ∨ (∃ t, t < 4 ∧ Z.2.1.1 s = nI (100 + t) ∧ Z.2.1.2.1 s ≤ 160) := by
  have hc := hZ.1.1
  rcases hZ.2.1 s hs with z | ⟨q, z1, z2⟩ | z
  · exact Or.inl z
  · exact Or.inr (Or.inl ⟨q, by omega, z1, z2⟩)
  · exact Or.inr (Or.inr z)
theorem op_set (x y : Int32) (w : Int64) {Z : zS} (hZ : okZ Z) : both (f_X8_set x y w) (f_X9_set x y w) Z := by
  rcases (rng x 8 (by decide)).symm with hx | ⟨s, hs, rfl⟩
  · refine both_no (a := -1) 1 (by decide) hZ (fun ν h => ?_) (fun ν h => ?_)
    · simp only [f_X8_set, f_X8_whyNoRow, shelf_out ν hx, Option.bind_some, ↓reduceIte, b1, rf_1]
    · simp only [f_X9_set, f_X9_noRow, wsh_out ν hx, Option.bind_some, ↓reduceIte, m1_0le, no_1]
  have i8 := ib_in hs (show 8 < 2 ^ 31 by decide)
  have c8 := nI_clamp (show s < 2 ^ 31 by omega)
  rcases shc hZ hs with hv | ⟨q, hq, hq2, hv⟩ | ⟨t, ht, hv, hl⟩
  · refine both_no (a := -3) 3 (by decide) hZ (fun ν h => ?_) (fun ν h => ?_)
    · simp only [f_X8_set, f_X8_whyNoRow, f_X6_hasPerson, f_X6_hasRow, shelf_in ν hs, i8, c8, (h.2.1 s hs).1, hv, m1_lt0, m1_lt100, Option.bind_some, ↓reduceIte, b1, show ((3 : Int32) = 0) = False from by decide, rf_3]
    · simp only [f_X9_set, f_X9_noRow, wsh_in ν hs, i8, c8, (h.2.1 s hs).1, hv, m1_lt0, m1_0le, Option.bind_some, ↓reduceIte, b1, show ((0 : Int32) ≤ -3) = False from by decide, no_3]
  · refine both_no (a := -2) 2 (by decide) hZ (fun ν h => ?_) (fun ν h => ?_)
    · simp only [f_X8_set, f_X8_whyNoRow, f_X6_hasPerson, f_X6_hasRow, shelf_in ν hs, i8, c8, (h.2.1 s hs).1, hv, q_lt0 (show q < 2 ^ 31 by omega), q_100le hq, Option.bind_some, ↓reduceIte, b1, show ((2 : Int32) = 0) = False from by decide, rf_2]
    · simp only [f_X9_set, f_X9_noRow, f_X9_isRow, wsh_in ν hs, i8, c8, (h.2.1 s hs).1, hv, q_lt0 (show q < 2 ^ 31 by omega), q_lt100 hq, Option.bind_some, ↓reduceIte, b1, show ((0 : Int32) ≤ -2) = False from by decide, no_2]
  · have h100 : nI 100 ≤ Z.2.1.1 s := by rw [hv]; exact i_100.2 (of_eq_true (t_100le ht))
    rcases (rng y (Z.2.1.2.1 s) (by omega)).symm with hy | ⟨i, hi, rfl⟩
    · refine both_no (a := -5) 5 (by decide) hZ (fun ν h => ?_) (fun ν h => ?_)
      · simp only [f_X8_set, f_X8_whyNoRow, f_X6_hasPerson, f_X6_hasRow, f_X6_hasElement, shelf_in ν hs, i8, c8, (h.2.1 s hs).1, ((h.2.1 s hs).2 h100).1, hv, t_lt0 ht, t_100le ht, t_lt100 ht, Option.bind_some, ↓reduceIte, b1]
        by_cases g : y < 0
        · simp only [g, ↓reduceIte, Option.bind_some, rf_5]
        · simp only [g, eq_true (hy.resolve_left g), ↓reduceIte, Option.bind_some, rf_5]
      · simp only [f_X9_set, f_X9_noRow, f_X9_isRow, wsh_in ν hs, i8, c8, (h.2.1 s hs).1, ((h.2.1 s hs).2 h100).1, hv, t_lt0 ht, t_lt100 ht, t_0le ht, Option.bind_some, ↓reduceIte, b1, show ((0 : Int32) ≤ 0) = True from by decide, ws_out ν (show Z.2.1.2.1 s < 2 ^ 31 by omega) hy, no_5]
    · have hi160 : i < 160 := by omega
      refine ⟨1, _, hZ.sH (s := s) (v := nI (100 + t)) (n := Z.2.1.2.1 s) (f := fun j => if j = i then tvl t w else Z.2.1.2.2 s j) (Or.inr (Or.inr ⟨t, ht, rfl, hl⟩)), fun ν h => ⟨nWL ν (37 + 2 * s + 1) i (tvl t w), ?_, h.sH hs (nEq.rf.wl (Or.inr rfl)) ((h.2.1 s hs).1.trans hv) (fun _ => ⟨((h.2.1 s hs).2 h100).1, fun j hj => ?_⟩), nEq.rf.wl (by show _ < 53; omega)⟩, fun ν h => ⟨nWL ν 64 (160 * s + i) (tvl t w), ?_, h.sH hs (nEq.rf.wl (by decide)) (fun q hq hn => ⟨rfl, rfl, fun j hj => wl_ne (by omega)⟩) ((h.2.1 s hs).1.trans hv) (fun _ => ⟨((h.2.1 s hs).2 h100).1, fun j hj => ?_⟩), nEq.rf.wl (by decide)⟩⟩
      · simp only [f_X8_set, f_X8_whyNoRow, f_X6_hasPerson, f_X6_hasRow, f_X6_hasElement, shelf_in ν hs, i8, c8, (h.2.1 s hs).1, ((h.2.1 s hs).2 h100).1, hv, t_lt0 ht, t_100le ht, t_lt100 ht, Option.bind_some, ↓reduceIte, b1, q_lt0 (show i < 2 ^ 31 by omega), eq_false (nI_ge hi (by omega)), pe_8 ht hi160 ((h.2.1 s hs).1.trans hv)]
      · by_cases e : j = i
        · subst e; rw [wl_eq, if_pos rfl]
        · rw [wl_ne (by omega), if_neg e]; exact ((h.2.1 s hs).2 h100).2 j hj
      · have ht' : t = 0 ∨ t = 1 ∨ t = 2 ∨ t = 3 := by omega
        simp only [f_X9_set, f_X9_noRow, f_X9_isRow, wsh_in ν hs, i8, c8, (h.2.1 s hs).1, ((h.2.1 s hs).2 h100).1, hv, t_lt0 ht, t_lt100 ht, t_0le ht, t_sub t ht, Option.bind_some, ↓reduceIte, b1, show ((0 : Int32) ≤ 0) = True from by decide, ws_in ν hi (show Z.2.1.2.1 s < 2 ^ 31 by omega), ix_s, ib_in (show 160 * s + i < 1280 by omega) (show 1280 < 2 ^ 31 by decide), nI_clamp (show 160 * s + i < 2 ^ 31 by omega), ql]
        rcases ht' with rfl | rfl | rfl | rfl <;> rfl
      · by_cases e : j = i
        · subst e; rw [wl_eq, if_pos rfl]
        · rw [wl_ne (by omega), if_neg e]; exact ((h.2.1 s hs).2 h100).2 j hj
theorem op_element (x y : Int32) {Z : zS} (hZ : okZ Z) : ∃ a, (∀ ν, IC Z ν → f_X8_element x y ν = some (a, ν)) ∧ ∀ ν, IM Z ν → f_X9_element x y ν = some (a, ν) := by
  rcases (rng x 8 (by decide)).symm with hx | ⟨s, hs, rfl⟩
  · refine ⟨0, fun ν h => ?_, fun ν h => ?_⟩
    · simp only [f_X8_element, shelf_out ν hx, Option.bind_some, ↓reduceIte]
    · simp only [f_X9_element, wsh_out ν hx, Option.bind_some, ↓reduceIte]
  have i8 := ib_in hs (show 8 < 2 ^ 31 by decide)
  have c8 := nI_clamp (show s < 2 ^ 31 by omega)
  rcases shc hZ hs with hv | ⟨q, hq, hq2, hv⟩ | ⟨t, ht, hv, hl⟩
  · refine ⟨0, fun ν h => ?_, fun ν h => ?_⟩
    · simp only [f_X8_element, f_X6_elementAt, f_X6_hasElement, f_X6_hasRow, shelf_in ν hs, i8, c8, (h.2.1 s hs).1, hv, m1_lt100, Option.bind_some, ↓reduceIte, b1]
    · simp only [f_X9_element, f_X9_isRow, wsh_in ν hs, i8, c8, (h.2.1 s hs).1, hv, m1_lt100, Option.bind_some, ↓reduceIte, b1]
  · refine ⟨0, fun ν h => ?_, fun ν h => ?_⟩
    · simp only [f_X8_element, f_X6_elementAt, f_X6_hasElement, f_X6_hasRow, shelf_in ν hs, i8, c8, (h.2.1 s hs).1, hv, q_lt100 hq, Option.bind_some, ↓reduceIte, b1]
    · simp only [f_X9_element, f_X9_isRow, wsh_in ν hs, i8, c8, (h.2.1 s hs).1, hv, q_lt100 hq, Option.bind_some, ↓reduceIte, b1]
  · have h100 : nI 100 ≤ Z.2.1.1 s := by rw [hv]; exact i_100.2 (of_eq_true (t_100le ht))
    rcases (rng y (Z.2.1.2.1 s) (by omega)).symm with hy | ⟨i, hi, rfl⟩
    · refine ⟨0, fun ν h => ?_, fun ν h => ?_⟩
      · simp only [f_X8_element, f_X6_elementAt, f_X6_hasElement, f_X6_hasRow, shelf_in ν hs, i8, c8, (h.2.1 s hs).1, ((h.2.1 s hs).2 h100).1, hv, t_lt100 ht, Option.bind_some, ↓reduceIte, b1]
        by_cases g : y < 0
        · simp only [g, ↓reduceIte, Option.bind_some]
        · simp only [g, eq_true (hy.resolve_left g), ↓reduceIte, Option.bind_some]
      · simp only [f_X9_element, f_X9_isRow, wsh_in ν hs, i8, c8, (h.2.1 s hs).1, ((h.2.1 s hs).2 h100).1, hv, t_lt100 ht, Option.bind_some, ↓reduceIte, b1, ws_out ν (show Z.2.1.2.1 s < 2 ^ 31 by omega) hy]
    · have hi160 : i < 160 := by omega
      refine ⟨Z.2.1.2.2 s i, fun ν h => ?_, fun ν h => ?_⟩
      · simp only [f_X8_element, f_X6_elementAt, f_X6_hasElement, f_X6_hasRow, shelf_in ν hs, i8, c8, (h.2.1 s hs).1, ((h.2.1 s hs).2 h100).1, ((h.2.1 s hs).2 h100).2 i hi160, hv, t_lt100 ht, Option.bind_some, ↓reduceIte, b1, q_lt0 (show i < 2 ^ 31 by omega), eq_false (nI_ge hi (by omega)), ib_in hi160 (show 160 < 2 ^ 31 by decide), nI_clamp (show i < 2 ^ 31 by omega)]
      · simp only [f_X9_element, f_X9_isRow, wsh_in ν hs, i8, c8, (h.2.1 s hs).1, ((h.2.1 s hs).2 h100).1, ((h.2.1 s hs).2 h100).2 i hi160, hv, t_lt100 ht, Option.bind_some, ↓reduceIte, b1, ws_in ν hi (show Z.2.1.2.1 s < 2 ^ 31 by omega), ix_s, ib_in (show 160 * s + i < 1280 by omega) (show 1280 < 2 ^ 31 by decide), nI_clamp (show 160 * s + i < 2 ^ 31 by omega)]
/-! kinds: one under another -/
def und : Nat → Nat → Bool := fun k p => decide (k = p) || decide (p = 0) || decide (k = 3 ∧ p = 1) || decide (k = 5 ∧ p = 2) || decide (k = 6 ∧ (p = 3 ∨ p = 1))
theorem na_8 {k : Nat} (hk : k < 7) (ν : gN) : f_X3_nextAbove (nI k) ν = some (g_tA k, ν) := by
  have hb : bt (nI k) 0 6 = true := decide_eq_true ⟨nI_pos (by omega), by rw [lt_cn (c := 6) (k := 6) rfl (by omega) (by decide)]; omega⟩
  simp only [f_X3_nextAbove, kd_8, hb, i01_1, Option.bind_some, b1, ↓reduceIte, ib_in hk (show 7 < 2 ^ 31 by decide), nI_clamp (show k < 2 ^ 31 by omega)]
theorem un8 : ∀ k, k < 7 → ∀ p, p < 7 → ∀ ν, f_X3_isUnder (nI k) (nI p) ν = some (i01 (und k p), ν) := by
  intro k hk p hp ν
  obtain ⟨n, hn⟩ : ∃ n, FU = n + 8 := ⟨99992, rfl⟩
  rw [f_X3_isUnder, hn]
  have hk' : k = 0 ∨ k = 1 ∨ k = 2 ∨ k = 3 ∨ k = 4 ∨ k = 5 ∨ k = 6 := by omega
  have hp' : p = 0 ∨ p = 1 ∨ p = 2 ∨ p = 3 ∨ p = 4 ∨ p = 5 ∨ p = 6 := by omega
  rcases hk' with rfl | rfl | rfl | rfl | rfl | rfl | rfl <;> rcases hp' with rfl | rfl | rfl | rfl | rfl | rfl | rfl <;> rfl
theorem un9 : ∀ k, k < 7 → ∀ p, p < 7 → ∀ ν, f_X9_isUnder (nI k) (nI p) ν = some (i01 (und k p), ν) := by
  intro k hk p hp ν
  obtain ⟨n, hn⟩ : ∃ n, FU = n + 8 := ⟨99992, rfl⟩
  rw [f_X9_isUnder, hn]
  have hk' : k = 0 ∨ k = 1 ∨ k = 2 ∨ k = 3 ∨ k = 4 ∨ k = 5 ∨ k = 6 := by omega
  have hp' : p = 0 ∨ p = 1 ∨ p = 2 ∨ p = 3 ∨ p = 4 ∨ p = 5 ∨ p = 6 := by omega
  rcases hk' with rfl | rfl | rfl | rfl | rfl | rfl | rfl <;> rcases hp' with rfl | rfl | rfl | rfl | rfl | rfl | rfl <;> rfl
def sayV (S : pS) (i : Nat) (p : Int32) : Int32 := if p = 0 then S.2.1 4 i else if p = 1 then smS S i else if p = 2 then S.2.1 3 i else if p = 3 then smS S i else if p = 4 then S.2.1 2 i else if p = 5 then S.2.1 3 i else smS S i
theorem say8 {i : Nat} {p : Int32} {S : pS} {ν : gN} (h : RP 1 S ν) (hi : i < 7) : f_X8_sayingOf (nI i) p ν = some (sayV S i p, ν) := by
  simp only [f_X8_sayingOf, ib_in hi (show 7 < 2 ^ 31 by decide), nI_clamp (show i < 2 ^ 31 by omega), h.c4 hi, h.c3 hi, h.c2 hi, sm8 h hi, Option.bind_some, ↓reduceIte, sayV]
  repeat (split <;> try rfl)
theorem op_says (x y : Int32) {Z : zS} (hZ : okZ Z) : both (f_X8_says x y) (f_X9_says x y) Z := by
  have hc := hZ.1.1
  rcases (rng x 8 (by decide)).symm with hx | ⟨s, hs, rfl⟩
  · refine both_no (a := -1) 1 (by decide) hZ (fun ν h => ?_) (fun ν h => ?_)
    · simp only [f_X8_says, shelf_out ν hx, Option.bind_some, ↓reduceIte, rf_1]
    · simp only [f_X9_says, wsh_out ν hx, Option.bind_some, ↓reduceIte, no_1]
  have i8 := ib_in hs (show 8 < 2 ^ 31 by decide)
  have c8 := nI_clamp (show s < 2 ^ 31 by omega)
  cases hb : bt y 0 6 with
  | false =>
    refine both_no (a := -1) 1 (by decide) hZ (fun ν h => ?_) (fun ν h => ?_)
    · simp only [f_X8_says, kd_8, hb, i01_f, shelf_in ν hs, b1, Option.bind_some, ↓reduceIte, rf_1]
    · simp only [f_X9_says, bw9, hb, i01_f, wsh_in ν hs, show bt (nI s) 0 7 = true from decide_eq_true ⟨nI_pos (by omega), by rw [lt_cn (c := 7) (k := 7) rfl (by omega) (by decide)]; omega⟩, i01_1, b1, Option.bind_some, ↓reduceIte, no_1]
  | true =>
  have hb8 : bt (nI s) 0 7 = true := decide_eq_true ⟨nI_pos (by omega), by rw [lt_cn (c := 7) (k := 7) rfl (by omega) (by decide)]; omega⟩
  obtain ⟨p, _, hp, rfl⟩ := bt_of (a := 0) (b := 6) (by decide) (by decide) hb
  rcases shc hZ hs with hv | ⟨q, hq, hq2, hv⟩ | ⟨t, ht, hv, hl⟩
  · refine both_no (a := -3) 3 (by decide) hZ (fun ν h => ?_) (fun ν h => ?_)
    · simp only [f_X8_says, kd_8, hb, i01_1, f_X6_hasPerson, f_X6_hasRow, shelf_in ν hs, i8, c8, (h.2.1 s hs).1, hv, m1_lt0, m1_lt100, Option.bind_some, ↓reduceIte, b1, rf_3]
    · simp only [f_X9_says, bw9, hb8, hb, i01_1, i8, c8, (h.2.1 s hs).1, hv, m1_lt0, m1_0le, Option.bind_some, ↓reduceIte, b1, no_3]
  · obtain ⟨⟨k, hk, hk0⟩, _⟩ := hZ.1.2.1 q hq2
    cases hu : und k p with
    | false =>
      refine both_no (a := -2) 2 (by decide) hZ (fun ν h => ?_) (fun ν h => ?_)
      · simp only [f_X8_says, kd_8, hb, i01_1, f_X6_hasPerson, f_X6_hasRow, shelf_in ν hs, i8, c8, (h.2.1 s hs).1, hv, q_lt0 (show q < 2 ^ 31 by omega), q_100le hq, q_lt100 hq, Option.bind_some, ↓reduceIte, b1, per_in h.1 hc hq2, ib_in hq (show 7 < 2 ^ 31 by decide), nI_clamp (show q < 2 ^ 31 by omega), h.1.c0 hq, hk0, un8 k (by omega) p (by omega), hu, i01_f, rf_2]
      · simp only [f_X9_says, bw9, hb8, hb, i01_1, f_X9_isRow, i8, c8, (h.2.1 s hs).1, hv, q_lt0 (show q < 2 ^ 31 by omega), q_lt100 hq, Option.bind_some, ↓reduceIte, b1, ib_in hq (show 7 < 2 ^ 31 by decide), nI_clamp (show q < 2 ^ 31 by omega), h.1.c0 hq, hk0, un9 k (by omega) p (by omega), hu, i01_f, no_2]
    | true =>
      refine both_rd (a := sayV Z.1 q (nI p)) hZ (fun ν h => ?_) (fun ν h => ?_)
      · simp only [f_X8_says, kd_8, hb, i01_1, f_X6_hasPerson, f_X6_hasRow, shelf_in ν hs, i8, c8, (h.2.1 s hs).1, hv, q_lt0 (show q < 2 ^ 31 by omega), q_100le hq, q_lt100 hq, Option.bind_some, ↓reduceIte, b1, per_in h.1 hc hq2, ib_in hq (show 7 < 2 ^ 31 by decide), nI_clamp (show q < 2 ^ 31 by omega), h.1.c0 hq, hk0, un8 k (by omega) p (by omega), hu, say8 h.1 hq]
      · simp only [f_X9_says, bw9, hb8, hb, i01_1, f_X9_isRow, i8, c8, (h.2.1 s hs).1, hv, q_lt0 (show q < 2 ^ 31 by omega), q_0le (show q < 2 ^ 31 by omega), q_lt100 hq, Option.bind_some, ↓reduceIte, b1, ib_in hq (show 7 < 2 ^ 31 by decide), nI_clamp (show q < 2 ^ 31 by omega), h.1.c0 hq, h.1.c4 hq, h.1.c3 hq, h.1.c2 hq, sm9 h.1 hq, hk0, un9 k (by omega) p (by omega), hu, sayV]
        repeat (split <;> try rfl)
  · refine both_no (a := -2) 2 (by decide) hZ (fun ν h => ?_) (fun ν h => ?_)
    · simp only [f_X8_says, kd_8, hb, i01_1, f_X6_hasPerson, f_X6_hasRow, shelf_in ν hs, i8, c8, (h.2.1 s hs).1, hv, t_lt100 ht, Option.bind_some, ↓reduceIte, b1, rf_2]
    · simp only [f_X9_says, bw9, hb8, hb, i01_1, f_X9_isRow, i8, c8, (h.2.1 s hs).1, hv, t_lt0 ht, t_lt100 ht, Option.bind_some, ↓reduceIte, b1, no_2]
