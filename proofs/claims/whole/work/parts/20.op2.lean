/-! calls: squareOf personOf ask tell person fence -/
theorem op_squareOf (x y : Int32) {Z : zS} (hZ : okZ Z) : both (f_X8_squareOf x y) (f_X9_squareOf x y) Z := by
  have hc := hZ.1.1
  rcases rng x 49 (by decide) with ⟨c, hc49, rfl⟩ | hx
  · by_cases h0 : y = 0
    · subst h0
      refine both_rd (a := i01 (Z.1.2.2.1 c)) hZ (fun ν h => ?_) (fun ν h => ?_)
      · simp only [f_X8_squareOf, sq8_in ν hc49, Option.bind_some, b1, ↓reduceIte, fn_in h.1 hc49]
        cases Z.1.2.2.1 c <;> rfl
      · simp only [f_X9_squareOf, sq9_in ν hc49, Option.bind_some, b1, ↓reduceIte, bw9, show i01 (bt 0 0 1) = 1 from by decide, show ((0 : Int32) = 1) = False from by decide, ib_in hc49 (show 49 < 2 ^ 31 by decide), nI_clamp (show c < 2 ^ 31 by omega), h.1.2.2.1 c hc49]
        cases Z.1.2.2.1 c <;> rfl
    by_cases h1 : y = 1
    · subst h1
      refine both_rd (a := nI (msk (atS Z.1 (nI c)) Z.1.1)) hZ (fun ν h => ?_) (fun ν h => ?_)
      · simp only [f_X8_squareOf, sq8_in ν hc49, Option.bind_some, b1, ↓reduceIte, pa8 _ h.1 hc]
      · simp only [f_X9_squareOf, sq9_in ν hc49, Option.bind_some, b1, ↓reduceIte, bw9, show i01 (bt 1 0 1) = 1 from by decide, ta9 _ h.1 hc]
    have hb : bt y 0 1 = false := by
      cases hb : bt y 0 1 with
      | false => rfl
      | true =>
        obtain ⟨k, hk, hk2, rfl⟩ := bt_of (a := 0) (b := 1) (by decide) (by decide) hb
        have : k = 0 ∨ k = 1 := by omega
        rcases this with rfl | rfl
        · exact absurd rfl h0
        · exact absurd rfl h1
    refine both_no (a := -5) 5 (by decide) hZ (fun ν h => ?_) (fun ν h => ?_)
    · simp only [f_X8_squareOf, sq8_in ν hc49, Option.bind_some, b1, ↓reduceIte, h0, h1, rf_5]
    · simp only [f_X9_squareOf, sq9_in ν hc49, Option.bind_some, b1, ↓reduceIte, bw9, hb, i01_f, no_5]
  · refine both_no (a := -5) 5 (by decide) hZ (fun ν h => ?_) (fun ν h => ?_)
    · simp only [f_X8_squareOf, sq8_out ν hx, Option.bind_some, ↓reduceIte, rf_5]
    · simp only [f_X9_squareOf, sq9_out ν hx, Option.bind_some, ↓reduceIte, no_5]
theorem op_personOf (x y : Int32) {Z : zS} (hZ : okZ Z) : both (f_X8_personOf x y) (f_X9_personOf x y) Z := by
  have hc := hZ.1.1
  rcases rng x Z.1.1 (by omega) with ⟨i, hi, rfl⟩ | hx
  · have hi7 : i < 7 := by omega
    have e8 : ∀ ν, IC Z ν → f_X8_personOf (nI i) y ν = if y = 0 then some (Z.1.2.1 0 i, ν) else if y = 1 then some (Z.1.2.1 1 i, ν) else if y = 2 then some (Z.1.2.1 2 i, ν) else if y = 3 then some (Z.1.2.1 3 i, ν) else if y = 4 then some (Z.1.2.1 4 i, ν) else if y = 5 then some (Z.1.2.1 5 i, ν) else if y = 6 then some (smS Z.1 i, ν) else if y = 7 then some (i01 (flS Z.1 i), ν) else if y = 8 then some (i01 (ouS Z.1 i), ν) else some (-5, R8 5 ν) := fun ν h => by
      simp only [f_X8_personOf, per_in h.1 hc hi, Option.bind_some, b1, ↓reduceIte, ib_in hi7 (show 7 < 2 ^ 31 by decide), nI_clamp (show i < 2 ^ 31 by omega), h.1.c0 hi7, h.1.c1 hi7, h.1.c2 hi7, h.1.c3 hi7, h.1.c4 hi7, h.1.c5 hi7, sm8 h.1 hi7, fl8 h.1 hi7, ou8 h.1 hi7, rf_5, i01_0]
      cases flS Z.1 i <;> cases ouS Z.1 i <;> rfl
    have e9 : ∀ ν, IM Z ν → f_X9_personOf (nI i) y ν = if y = 0 then some (Z.1.2.1 0 i, ν) else if y = 1 then some (Z.1.2.1 1 i, ν) else if y = 2 then some (Z.1.2.1 2 i, ν) else if y = 3 then some (Z.1.2.1 3 i, ν) else if y = 4 then some (Z.1.2.1 4 i, ν) else if y = 5 then some (Z.1.2.1 5 i, ν) else if y = 6 then some (smS Z.1 i, ν) else if y = 7 then some (i01 (flS Z.1 i), ν) else if y = 8 then some (i01 (ouS Z.1 i), ν) else some (-5, R9 5 ν) := fun ν h => by
      simp only [f_X9_personOf, one_in h.1 hc hi, Option.bind_some, b1, ↓reduceIte, ib_in hi7 (show 7 < 2 ^ 31 by decide), nI_clamp (show i < 2 ^ 31 by omega), h.1.c0 hi7, h.1.c1 hi7, h.1.c2 hi7, h.1.c3 hi7, h.1.c4 hi7, h.1.c5 hi7, sm9 h.1 hi7, fl9 h.1 hi7, ou9 h.1 hi7, no_5, i01_0]
      cases flS Z.1 i <;> cases ouS Z.1 i <;> rfl
    by_cases h0 : y = 0 ∨ y = 1 ∨ y = 2 ∨ y = 3 ∨ y = 4 ∨ y = 5 ∨ y = 6 ∨ y = 7 ∨ y = 8
    · refine both_rd (a := if y = 0 then Z.1.2.1 0 i else if y = 1 then Z.1.2.1 1 i else if y = 2 then Z.1.2.1 2 i else if y = 3 then Z.1.2.1 3 i else if y = 4 then Z.1.2.1 4 i else if y = 5 then Z.1.2.1 5 i else if y = 6 then smS Z.1 i else if y = 7 then i01 (flS Z.1 i) else i01 (ouS Z.1 i)) hZ (fun ν h => (e8 ν h).trans ?_) (fun ν h => (e9 ν h).trans ?_)
      · rcases h0 with rfl | rfl | rfl | rfl | rfl | rfl | rfl | rfl | rfl <;> rfl
      · rcases h0 with rfl | rfl | rfl | rfl | rfl | rfl | rfl | rfl | rfl <;> rfl
    · simp only [not_or] at h0
      obtain ⟨g0, g1, g2, g3, g4, g5, g6, g7, g8⟩ := h0
      refine both_no (a := -5) 5 (by decide) hZ (fun ν h => (e8 ν h).trans ?_) (fun ν h => (e9 ν h).trans ?_)
      · rw [if_neg g0, if_neg g1, if_neg g2, if_neg g3, if_neg g4, if_neg g5, if_neg g6, if_neg g7, if_neg g8]
      · rw [if_neg g0, if_neg g1, if_neg g2, if_neg g3, if_neg g4, if_neg g5, if_neg g6, if_neg g7, if_neg g8]
  · refine both_no (a := -5) 5 (by decide) hZ (fun ν h => ?_) (fun ν h => ?_)
    · simp only [f_X8_personOf, per_out h.1 hx, Option.bind_some, ↓reduceIte, rf_5]
    · simp only [f_X9_personOf, one_out h.1 hc hx, Option.bind_some, ↓reduceIte, no_5]
theorem op_ask (x y : Int32) {Z : zS} (hZ : okZ Z) : both (f_X8_ask x y) (f_X9_ask x y) Z := by
  by_cases h0 : x = 0
  · subst h0
    cases hb : bt y 1 4 with
    | false =>
      refine both_no (a := -6) 6 (by decide) hZ (fun ν h => ?_) (fun ν h => ?_)
      · simp only [f_X8_ask, bw8, hb, i01_f, Option.bind_some, ↓reduceIte, b01, rf_6]
      · simp only [f_X9_ask, bw9, hb, show bt 0 0 1 = true from by decide, i01_1, i01_f, Option.bind_some, ↓reduceIte, b1, no_6]
    | true =>
      obtain ⟨k, hk, hk2, rfl⟩ := bt_of (a := 1) (b := 4) (by decide) (by decide) hb
      refine ⟨Z.1.2.2.2.1 0, zP (pW 0 (nI k)) Z, ⟨⟨hZ.1.1, hZ.1.2.1, hZ.1.2.2.1, hZ.1.2.2.2.1, ⟨k, hk, hk2, rfl⟩, hZ.1.2.2.2.2.2⟩, hZ.2⟩, fun ν h => ⟨_, ?_, h.w (k := 0) (by decide), nEq.rf.wi (by decide)⟩, fun ν h => ⟨_, ?_, h.w (k := 0) (by decide), nEq.rf.wi (by decide)⟩⟩
      · simp only [f_X8_ask, bw8, hb, i01_1, Option.bind_some, ↓reduceIte, b1, ql, ← h.1.2.2.2.1 0 (by decide)]
      · simp only [f_X9_ask, bw9, hb, show bt 0 0 1 = true from by decide, i01_1, i01_f, Option.bind_some, ↓reduceIte, b1, show inb 0 4 = true from rfl, ql, ← h.1.2.2.2.1 0 (by decide)]
        rfl
  by_cases h1 : x = 1
  · subst h1
    cases hb : bt y 0 40 with
    | false =>
      refine both_no (a := -6) 6 (by decide) hZ (fun ν h => ?_) (fun ν h => ?_)
      · simp only [f_X8_ask, bw8, hb, i01_f, Option.bind_some, ↓reduceIte, b1, rf_6]
      · simp only [f_X9_ask, bw9, hb, show bt 1 0 1 = true from by decide, i01_1, i01_f, Option.bind_some, ↓reduceIte, b1, no_6]
    | true =>
      obtain ⟨k, hk, hk2, rfl⟩ := bt_of (a := 0) (b := 40) (by decide) (by decide) hb
      refine ⟨Z.1.2.2.2.1 1, zP (pW 1 (nI k)) Z, ⟨⟨hZ.1.1, hZ.1.2.1, hZ.1.2.2.1, hZ.1.2.2.2.1, hZ.1.2.2.2.2.1, ⟨k, hk2, rfl⟩⟩, hZ.2⟩, fun ν h => ⟨_, ?_, h.w (k := 1) (by decide), nEq.rf.wi (by decide)⟩, fun ν h => ⟨_, ?_, h.w (k := 1) (by decide), nEq.rf.wi (by decide)⟩⟩
      · simp only [f_X8_ask, bw8, hb, i01_1, Option.bind_some, ↓reduceIte, b1, ql, ← h.1.2.2.2.1 1 (by decide)]
      · simp only [f_X9_ask, bw9, hb, show bt 1 0 1 = true from by decide, i01_1, i01_f, Option.bind_some, ↓reduceIte, b1, show inb 1 4 = true from rfl, ql, ← h.1.2.2.2.1 1 (by decide)]
        rfl
  have hb : bt x 0 1 = false := by
    cases hb : bt x 0 1 with
    | false => rfl
    | true =>
      obtain ⟨k, hk, hk2, rfl⟩ := bt_of (a := 0) (b := 1) (by decide) (by decide) hb
      have : k = 0 ∨ k = 1 := by omega
      rcases this with rfl | rfl
      · exact absurd rfl h0
      · exact absurd rfl h1
  refine both_no (a := -6) 6 (by decide) hZ (fun ν h => ?_) (fun ν h => ?_)
  · simp only [f_X8_ask, h0, h1, ↓reduceIte, Option.bind_some, rf_6]
  · simp only [f_X9_ask, bw9, hb, i01_f, Option.bind_some, ↓reduceIte, no_6]
theorem ex_8 {j i : Nat} {x : Int32} {Z : zS} {ν : gN} (h : IC Z ν) (hj : j < 6) (hi : i < 7) : f_X8_exchange (2 + j) (nI i) x ν = some (Z.1.2.1 j i, nWI ν (2 + j) i x) := by
  simp only [f_X8_exchange, ib_in hi (show 7 < 2 ^ 31 by decide), nI_clamp (show i < 2 ^ 31 by omega), ↓reduceIte, ql, ← h.1.2.1 j hj i hi]
theorem op_tell (x y v : Int32) {Z : zS} (hZ : okZ Z) : both (f_X8_tell x y v) (f_X9_tell x y v) Z := by
  have hc := hZ.1.1
  rcases (rng x Z.1.1 (by omega)).symm with hx | ⟨i, hi, rfl⟩
  · refine both_no (a := -1) 1 (by decide) hZ (fun ν h => ?_) (fun ν h => ?_)
    · simp only [f_X8_tell, per_out h.1 hx, Option.bind_some, ↓reduceIte, rf_1]
    · simp only [f_X9_tell, one_out h.1 hc hx, Option.bind_some, ↓reduceIte, no_1]
  have hi7 : i < 7 := by omega
  have hv := hZ.1.2.1
  by_cases h0 : y = 0
  · subst h0
    cases hb : bt v 0 20 with
    | false =>
      refine both_no (a := -6) 6 (by decide) hZ (fun ν h => ?_) (fun ν h => ?_)
      · simp only [f_X8_tell, per_in h.1 hc hi, bw8, hb, i01_f, Option.bind_some, ↓reduceIte, b1, b01, show ((0 : Int32) = 2) = False from by decide, rf_6]
      · simp only [f_X9_tell, one_in h.1 hc hi, bw9, hb, show bt 0 0 2 = true from by decide, i01_1, i01_f, Option.bind_some, ↓reduceIte, b1, no_6]
    | true =>
      obtain ⟨k, hk, hk2, rfl⟩ := bt_of (a := 0) (b := 20) (by decide) (by decide) hb
      refine ⟨Z.1.2.1 2 i, zP (pA 2 i (nI k)) Z, ⟨⟨hZ.1.1, fun q hq => ?_, hZ.1.2.2⟩, hZ.2⟩, fun ν h => ⟨_, ?_, h.a (j := 2) (by decide) hi7, nEq.rf.wi (by decide)⟩, fun ν h => ⟨_, ?_, h.a (j := 2) (by decide) hi7, nEq.rf.wi (by decide)⟩⟩
      · obtain ⟨v0, v1, v2, v3, v4⟩ := hv q hq
        refine ⟨v0, v1, ?_, v3, v4⟩
        show ∃ k', k' ≤ 20 ∧ (if 2 = 2 ∧ q = i then nI k else Z.1.2.1 2 q) = nI k'
        by_cases e : q = i
        · rw [if_pos ⟨rfl, e⟩]; exact ⟨k, hk2, rfl⟩
        · rw [if_neg (fun z => e z.2)]; exact v2
      · simp only [f_X8_tell, per_in h.1 hc hi, bw8, hb, i01_1, Option.bind_some, ↓reduceIte, b1]
        rw [show (4 : Nat) = 2 + 2 from rfl, ex_8 h (by decide) hi7]
        rfl
      · simp only [f_X9_tell, one_in h.1 hc hi, bw9, hb, show bt 0 0 2 = true from by decide, i01_1, i01_f, Option.bind_some, ↓reduceIte, b1, ql, ib_in hi7 (show 7 < 2 ^ 31 by decide), nI_clamp (show i < 2 ^ 31 by omega), h.1.c2 hi7]
  by_cases h1 : y = 1
  · subst h1
    cases hb : bt v 1 4 with
    | false =>
      refine both_no (a := -6) 6 (by decide) hZ (fun ν h => ?_) (fun ν h => ?_)
      · simp only [f_X8_tell, per_in h.1 hc hi, bw8, hb, i01_f, Option.bind_some, ↓reduceIte, b1, b01, show ((1 : Int32) = 2) = False from by decide, rf_6]
      · simp only [f_X9_tell, one_in h.1 hc hi, bw9, hb, show bt 1 0 2 = true from by decide, i01_1, i01_f, Option.bind_some, ↓reduceIte, b1, no_6]
    | true =>
      obtain ⟨k, hk, hk2, rfl⟩ := bt_of (a := 1) (b := 4) (by decide) (by decide) hb
      refine ⟨Z.1.2.1 3 i, zP (pA 3 i (nI k)) Z, ⟨⟨hZ.1.1, fun q hq => ?_, hZ.1.2.2⟩, hZ.2⟩, fun ν h => ⟨_, ?_, h.a (j := 3) (by decide) hi7, nEq.rf.wi (by decide)⟩, fun ν h => ⟨_, ?_, h.a (j := 3) (by decide) hi7, nEq.rf.wi (by decide)⟩⟩
      · obtain ⟨v0, v1, v2, v3, v4⟩ := hv q hq
        refine ⟨v0, v1, v2, ?_, v4⟩
        show ∃ k', 1 ≤ k' ∧ k' ≤ 4 ∧ (if 3 = 3 ∧ q = i then nI k else Z.1.2.1 3 q) = nI k'
        by_cases e : q = i
        · rw [if_pos ⟨rfl, e⟩]; exact ⟨k, hk, hk2, rfl⟩
        · rw [if_neg (fun z => e z.2)]; exact v3
      · simp only [f_X8_tell, per_in h.1 hc hi, bw8, hb, i01_1, Option.bind_some, ↓reduceIte, b1]
        rw [show (5 : Nat) = 2 + 3 from rfl, ex_8 h (by decide) hi7]
        rfl
      · simp only [f_X9_tell, one_in h.1 hc hi, bw9, hb, show bt 1 0 2 = true from by decide, i01_1, i01_f, Option.bind_some, ↓reduceIte, b1, ql, ib_in hi7 (show 7 < 2 ^ 31 by decide), nI_clamp (show i < 2 ^ 31 by omega), h.1.c3 hi7]
  by_cases h2 : y = 2
  · subst h2
    have no : (∀ ν, RP 1 Z.1 ν → f_X4_isOpen 1 v ν = some (0, ν)) → (∀ ν, RM Z.1 ν → f_X9_isOpen v ν = some (0, ν)) → both (f_X8_tell (nI i) 2 v) (f_X9_tell (nI i) 2 v) Z := fun o8 o9 => by
      refine both_no (a := -6) 6 (by decide) hZ (fun ν h => ?_) (fun ν h => ?_)
      · simp only [f_X8_tell, per_in h.1 hc hi, o8 ν h.1, Option.bind_some, ↓reduceIte, b1, show ((2 : Int32) = 0) = False from by decide, show ((2 : Int32) = 1) = False from by decide, rf_6]
      · simp only [f_X9_tell, one_in h.1 hc hi, bw9, show bt 2 0 2 = true from by decide, i01_1, o9 ν h.1, Option.bind_some, ↓reduceIte, b1, show ((2 : Int32) = 0) = False from by decide, show ((2 : Int32) = 1) = False from by decide, no_6]
    rcases (rng v 49 (by decide)).symm with hx | ⟨c, hc49, rfl⟩
    · exact no (fun ν _ => op8_out ν hx) (fun ν _ => op9_out ν hx)
    cases hf : Z.1.2.2.1 c with
    | true => exact no (fun ν h => by rw [op8_in h hc49, hf]; rfl) (fun ν h => by rw [op9_in h hc49, hf]; rfl)
    | false =>
      refine ⟨Z.1.2.1 4 i, zP (pA 4 i (nI c)) Z, ⟨⟨hZ.1.1, fun q hq => ?_, hZ.1.2.2⟩, hZ.2⟩, fun ν h => ⟨_, ?_, h.a (j := 4) (by decide) hi7, nEq.rf.wi (by decide)⟩, fun ν h => ⟨_, ?_, h.a (j := 4) (by decide) hi7, nEq.rf.wi (by decide)⟩⟩
      · obtain ⟨v0, v1, v2, v3, v4⟩ := hv q hq
        refine ⟨v0, v1, v2, v3, ?_⟩
        show ∃ k', k' < 49 ∧ (if 4 = 4 ∧ q = i then nI c else Z.1.2.1 4 q) = nI k' ∧ Z.1.2.2.1 k' = false
        by_cases e : q = i
        · rw [if_pos ⟨rfl, e⟩]; exact ⟨c, hc49, rfl, hf⟩
        · rw [if_neg (fun z => e z.2)]; exact v4
      · simp only [f_X8_tell, per_in h.1 hc hi, op8_in h.1 hc49, hf, Bool.false_eq_true, Option.bind_some, ↓reduceIte, b1, show ((2 : Int32) = 0) = False from by decide, show ((2 : Int32) = 1) = False from by decide]
        rw [show (6 : Nat) = 2 + 4 from rfl, ex_8 h (by decide) hi7]
        rfl
      · simp only [f_X9_tell, one_in h.1 hc hi, op9_in h.1 hc49, hf, Bool.false_eq_true, bw9, show bt 2 0 2 = true from by decide, i01_1, i01_f, Option.bind_some, ↓reduceIte, b1, ql, ib_in hi7 (show 7 < 2 ^ 31 by decide), nI_clamp (show i < 2 ^ 31 by omega), h.1.c4 hi7, show ((2 : Int32) = 0) = False from by decide, show ((2 : Int32) = 1) = False from by decide]
  have hb : bt y 0 2 = false := by
    cases hb : bt y 0 2 with
    | false => rfl
    | true =>
      obtain ⟨k, hk, hk2, rfl⟩ := bt_of (a := 0) (b := 2) (by decide) (by decide) hb
      have : k = 0 ∨ k = 1 ∨ k = 2 := by omega
      rcases this with rfl | rfl | rfl
      · exact absurd rfl h0
      · exact absurd rfl h1
      · exact absurd rfl h2
  refine both_no (a := -6) 6 (by decide) hZ (fun ν h => ?_) (fun ν h => ?_)
  · simp only [f_X8_tell, per_in h.1 hc hi, h0, h1, h2, ↓reduceIte, Option.bind_some, rf_6, b1]
  · simp only [f_X9_tell, one_in h.1 hc hi, bw9, hb, i01_f, Option.bind_some, ↓reduceIte, no_6, b1]
