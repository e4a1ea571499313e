/-! calls: without vote years -/
theorem sh_one : ∀ i, i < 7 → j_shl 1 (nI i) = nI (2 ^ i) := by decide +kernel
/-- as peek9, while one is gone -/
theorem peekg {Z : zS} {ν : gN} {m : Nat} {x : Int32} (h : IM Z ν) (hZ : okZ Z) (hm : m < 50000) : ∃ ν1 ν2, f_X9_keep 72 (nWI ν 53 28 x) = some ν1 ∧ f_X9_goesOn (nI m) ν1 = some ν2 ∧ FC (advS Z.1 m) ν2 ∧ ν2.1 53 28 = x ∧ ∀ ν3, FC (advS Z.1 m) ν3 → mEq fP ν2 ν3 → ∃ ν4, f_X9_again 72 ν3 = some ν4 ∧ IM Z (nWI ν4 53 28 (-1)) ∧ nEq (fun q => 53 ≤ q) ν ν4 := by
  have hM0 : RM Z.1 (nWI ν 53 28 x) := h.1.o (by decide)
  have hF0 : FC Z.1 (nWI ν 53 28 x) := ⟨hM0, by rw [wi_ne (by omega)]; exact h.f.2.imp id (fun z => ⟨z.1, z.2.eq (P := fun q => q = 53) (nEq.rf.wi rfl) (by decide)⟩)⟩
  obtain ⟨ν1, a1, a2, a3⟩ := kp9 (b := 72) (by decide) hM0
  have hF1 : FC Z.1 ν1 := ⟨hM0.eq a3 (fun q _ _ => by omega), by rw [(a3 53 (by decide)).1]; exact hF0.2.imp id (fun z => ⟨z.1, z.2.eq a3 (by decide)⟩)⟩
  obtain ⟨ν2, c1, c2, c3⟩ := on9 (m := m) hZ.1 hm hF1
  refine ⟨ν1, ν2, a1, c1, c2, ?_, fun ν3 d1 d2 => ?_⟩
  · rw [(c3 53 28 (by unfold wP; omega)).1, (a3 53 (by decide)).1, wi_eq]
  · have he : mEq (fun a b => a = 72 ∨ (a = 53 ∧ b = 28) ∨ wP a b) ν ν3 := (((mEq.rf.wi (P := fun a b => a = 72 ∨ (a = 53 ∧ b = 28) ∨ wP a b) (i := 53) (k := 28) (x := x) (Or.inr (Or.inl ⟨rfl, rfl⟩))).tr (a3.m (fun a b z => Or.inl z))).tr (c3.mono (fun a b z => Or.inr (Or.inr z)))).tr (d2.mono (fun a b z => Or.inr (Or.inr z.w)))
    have hn72 : nEq (fun q => q < 72) ν1 ν3 := (c3.tr (d2.mono (fun a b z => z.w))).n (fun a b z => by unfold wP at z; omega)
    have hK : RK 72 Z.1 ν3 := a2.eq hn72 (by omega)
    obtain ⟨ν4, f1, f2, f3, f4⟩ := ag9 (by decide) hK d1.1
    have hF4 : FC Z.1 (nWI ν4 53 28 (-1)) := by
      refine ⟨f2.o (by decide), ?_⟩
      rw [wi_ne (by omega)]
      rcases f3 with f3 | f3
      · exact Or.inl f3
      · rw [f3.1]
        exact d1.2.imp id (fun z => ⟨z.1, fun t ht => by rw [wi_ne (by omega)]; exact ((f4 70 t (by unfold gP; omega)).1).trans (z.2 t ht)⟩)
    have he4 : mEq (fun a b => a = 72 ∨ (a = 53 ∧ b = 28) ∨ wP a b ∨ gP a b) ν ν4 := (he.mono (fun a b z => z.imp id (fun y => y.imp id Or.inl))).tr (f4.mono (fun a b z => Or.inr (Or.inr (Or.inr z))))
    have hn : nEq (fun q => q < 62 ∨ q = 65 ∨ q = 66 ∨ 70 ≤ q) ν (nWI ν4 53 28 (-1)) := (he4.n (P := fun q => q < 62 ∨ q = 65 ∨ q = 66 ∨ 70 ≤ q) (fun a b z => by unfold wP gP at z; omega)).wi (by omega)
    refine ⟨ν4, f1, h.port hF4.1 hn (fun b b0 b9 b13 b14 b24 => ?_) hF4.2, he4.n (fun a b z => by unfold wP gP at z; omega)⟩
    by_cases z : b = 28
    · rw [z, wi_eq]; exact h.2.2.2.2.2.2.2.symm
    · rw [wi_ne (by omega)]
      exact (he4 53 b (by unfold wP gP; omega)).1
theorem op_without (x y : Int32) {Z : zS} (hZ : okZ Z) : both (f_X8_without x y) (f_X9_without x y) Z := by
  have hc := hZ.1.1
  rcases (rng x Z.1.1 (by omega)).symm with hx | ⟨i, hi, rfl⟩
  · refine both_no (a := -1) 1 (by decide) hZ (fun ν h => ?_) (fun ν h => ?_)
    · simp only [f_X8_without, per_out h.1 hx, Option.bind_some, ↓reduceIte, rf_1]
    · simp only [f_X9_without, one_out h.1 hc hx, Option.bind_some, ↓reduceIte, no_1]
  have hi7 : i < 7 := by omega
  cases hb : bt y 0 30 with
  | false =>
    refine both_no (a := -6) 6 (by decide) hZ (fun ν h => ?_) (fun ν h => ?_)
    · simp only [f_X8_without, per_in h.1 hc hi, ahd8, hb, i01_f, Option.bind_some, ↓reduceIte, b1, rf_6]
    · simp only [f_X9_without, one_in h.1 hc hi, tim9, hb, i01_f, Option.bind_some, ↓reduceIte, b1, no_6]
  | true =>
    obtain ⟨m, _, hm, rfl⟩ := bt_of (a := 0) (b := 30) (by decide) (by decide) hb
    obtain ⟨s, hs4, hs⟩ := hZ.w0
    refine ⟨nI (pck Z.1 (fun i => posN Z.1 i m) (fun q => (2 ^ i).testBit q) s), Z, hZ, fun ν h => ?_, fun ν h => ?_⟩
    · obtain ⟨ν', e1, e2, e3, e4, e5⟩ := la8 (m := m) hZ.1 (by omega) h.1
      refine ⟨ν', ?_, h.sc e5 (fun a z => by unfold scC; omega), e5.c (fun a z => by omega)⟩
      have el := elect8 (xm := 2 ^ i) e3 hc (AT.of hZ.1 e2 e4) (p2_lt hi7) hs hs4
      simp only [f_X8_without, per_in h.1 hc hi, ahd8, hb, i01_1, Option.bind_some, ↓reduceIte, b1, e1, sh_one i hi7, el]
    · obtain ⟨ν1, ν2, e1, e2, e3, e4, e5⟩ := peekg (x := nI i) h hZ (show m < 50000 by omega)
      obtain ⟨ν3, d1, d2, d3⟩ := elect9 (S := advS Z.1 m) (g := fun i => posN Z.1 i m) (ex := fun q => (2 ^ i).testBit q) (s := s) hc hZ.f0 (fun i hi => ⟨if_pos hi, (posN_ok (hZ.1.2.1 i hi) hZ.f0 m).1⟩) hs hs4 e3 (fun q hq => by
        have hq' : q < Z.1.1 := hq
        rw [e4, Nat.testBit_two_pow]
        exact propext ⟨fun z => by rw [nI_eq (by omega) (by omega)] at z; rw [z]; exact decide_eq_true rfl, fun z => by rw [of_decide_eq_true z]⟩)
      obtain ⟨ν4, f1, f2, f3⟩ := e5 ν3 d2 d3
      refine ⟨nWI ν4 53 28 (-1), ?_, f2, f3.wi (by decide)⟩
      rw [advS, pck_adv] at d1
      simp only [f_X9_without, f_X9_chosenBehind, one_in h.1 hc hi, tim9, hb, i01_1, Option.bind_some, ↓reduceIte, b1, ql, e1, e2, d1, f1]
/-! voting -/
def vtS (S : pS) (m : Nat) : pS := (S.1, fun a b => if a = 5 ∧ b < S.1 ∧ m.testBit b = true then S.2.1 5 b + 1 else if a = 4 ∧ b < S.1 ∧ m.testBit b = true then 24 else S.2.1 a b, S.2.2.1, fun q => if q = 3 then S.2.2.2.1 3 + 1 else S.2.2.2.1 q, S.2.2.2.2)
theorem okP.vt {S : pS} (hS : okP S) (m : Nat) : okP (vtS S m) := by
  refine ⟨hS.1, fun i hi => ?_, hS.2.2.1, hS.2.2.2.1, hS.2.2.2.2.1, hS.2.2.2.2.2⟩
  obtain ⟨v0, v1, v2, v3, k, k1, k2, k3⟩ := hS.2.1 i hi
  refine ⟨v0, v1, v2, v3, ?_⟩
  show ∃ k, k < 49 ∧ (if 4 = 5 ∧ i < S.1 ∧ m.testBit i = true then S.2.1 5 i + 1 else if 4 = 4 ∧ i < S.1 ∧ m.testBit i = true then 24 else S.2.1 4 i) = nI k ∧ S.2.2.1 k = false
  rw [if_neg (fun z => absurd z.1 (by decide))]
  by_cases z : 4 = 4 ∧ i < S.1 ∧ m.testBit i = true
  · rw [if_pos z]; exact ⟨24, by decide, rfl, hS.2.2.1⟩
  · rw [if_neg z]; exact ⟨k, k1, k2, k3⟩
theorem vt8_L {S : pS} {m : Nat} {k : gN → Option (Int32 × gN)} (hc : S.1 ≤ 7) (hm : m < 128) : ∀ j n i ν, i + j = S.1 → j < n → ν.1 1 6 = nI S.1 → (∀ q, i ≤ q → q < 7 → ν.1 7 q = S.2.1 5 q) → ∃ ν', f_X8_holdVote_L35 (nI m) k n (nI i) ν = k ν' ∧ (∀ q, q < 7 → ν'.1 7 q = if i ≤ q ∧ q < S.1 ∧ m.testBit q = true then S.2.1 5 q + 1 else ν.1 7 q) ∧ (∀ q, q < 7 → ν'.1 6 q = if i ≤ q ∧ q < S.1 ∧ m.testBit q = true then 24 else ν.1 6 q) ∧ nEq (fun q => q = 6 ∨ q = 7) ν ν' := by
  intro j
  induction j with
  | zero =>
    intro n i ν hi hn h h5
    obtain ⟨n, rfl⟩ : ∃ m, n = m + 1 := ⟨n - 1, by omega⟩
    exact ⟨ν, by rw [f_X8_holdVote_L35, h, if_pos (nI_le (by omega) (by omega))], fun q _ => by rw [if_neg (by omega)], fun q _ => by rw [if_neg (by omega)], nEq.rf⟩
  | succ j ih =>
    intro n i ν hi hn h h5
    obtain ⟨n, rfl⟩ : ∃ m, n = m + 1 := ⟨n - 1, by omega⟩
    have hi7 : i < 7 := by omega
    rw [f_X8_holdVote_L35, h, if_neg (nI_ge (by omega) (by omega)), in8 ν hm hi7, Option.bind_some, nI_1]
    cases hb : m.testBit i with
    | false =>
      rw [if_pos (show (i01 false, ν).1 = 0 from rfl)]
      obtain ⟨ν', e1, e2, e3, e4⟩ := ih n (i + 1) ν (by omega) (by omega) h (fun q h1 h2 => h5 q (by omega) h2)
      refine ⟨ν', e1, fun q hq => ?_, fun q hq => ?_, e4⟩
      · rw [e2 q hq]
        by_cases z : i + 1 ≤ q ∧ q < S.1 ∧ m.testBit q = true
        · rw [if_pos z, if_pos ⟨by omega, z.2⟩]
        · rw [if_neg z, if_neg]
          rintro ⟨z1, z2, z3⟩
          by_cases y : q = i
          · rw [y, hb] at z3; exact absurd z3 (by decide)
          · exact z ⟨by omega, z2, z3⟩
      · rw [e3 q hq]
        by_cases z : i + 1 ≤ q ∧ q < S.1 ∧ m.testBit q = true
        · rw [if_pos z, if_pos ⟨by omega, z.2⟩]
        · rw [if_neg z, if_neg]
          rintro ⟨z1, z2, z3⟩
          by_cases y : q = i
          · rw [y, hb] at z3; exact absurd z3 (by decide)
          · exact z ⟨by omega, z2, z3⟩
    | true =>
      obtain ⟨ν', e1, e2, e3, e4⟩ := ih n (i + 1) (nWI (nWI ν 7 i (S.2.1 5 i + 1)) 6 i 24) (by omega) (by omega) (by rw [wi_ne (by omega), wi_ne (by omega)]; exact h) (fun q h1 h2 => by rw [wi_ne (by omega), wi_ne (by omega)]; exact h5 q (by omega) h2)
      refine ⟨ν', ?_, fun q hq => ?_, fun q hq => ?_, ((nEq.rf.wi (P := fun q => q = 6 ∨ q = 7) (Or.inr rfl)).wi (Or.inl rfl)).tr e4⟩
      · rw [if_neg (show ¬ (i01 true, ν).1 = 0 from by show ¬ i01 true = 0; decide), if_pos (ib_in hi7 (by decide)), if_pos (ib_in hi7 (by decide)), ql, if_pos (ib_in hi7 (by decide)), ql, nI_clamp (by omega), h5 i (Nat.le_refl _) hi7]
        exact e1
      · rw [e2 q hq]
        by_cases z : i + 1 ≤ q ∧ q < S.1 ∧ m.testBit q = true
        · rw [if_pos z, if_pos ⟨by omega, z.2⟩]
        · rw [if_neg z]
          by_cases y : q = i
          · rw [y, wi_ne (by omega), wi_eq, if_pos ⟨Nat.le_refl _, by omega, hb⟩]
          · rw [wi_ne (by omega), wi_ne (by omega), if_neg (fun w => z ⟨by omega, w.2⟩)]
      · rw [e3 q hq]
        by_cases z : i + 1 ≤ q ∧ q < S.1 ∧ m.testBit q = true
        · rw [if_pos z, if_pos ⟨by omega, z.2⟩]
        · rw [if_neg z]
          by_cases y : q = i
          · rw [y, wi_eq, if_pos ⟨Nat.le_refl _, by omega, hb⟩]
          · rw [wi_ne (by omega), wi_ne (by omega), if_neg (fun w => z ⟨by omega, w.2⟩)]
theorem vt9_L {S : pS} {m : Nat} {k : gN → Option (Int32 × gN)} (hc : S.1 ≤ 7) (hm : m < 128) : ∀ j n i ν, i + j = S.1 → j < n → ν.1 53 0 = nI S.1 → (∀ q, i ≤ q → q < 7 → ν.1 59 q = S.2.1 5 q) → ∃ ν', f_X9_votes_L7 (nI m) k n (nI i) ν = k ν' ∧ (∀ q, q < 7 → ν'.1 59 q = if i ≤ q ∧ q < S.1 ∧ m.testBit q = true then S.2.1 5 q + 1 else ν.1 59 q) ∧ (∀ q, q < 7 → ν'.1 58 q = if i ≤ q ∧ q < S.1 ∧ m.testBit q = true then 24 else ν.1 58 q) ∧ nEq (fun q => q = 58 ∨ q = 59) ν ν' := by
  intro j
  induction j with
  | zero =>
    intro n i ν hi hn h h5
    obtain ⟨n, rfl⟩ : ∃ m, n = m + 1 := ⟨n - 1, by omega⟩
    exact ⟨ν, by rw [f_X9_votes_L7, h, if_pos (nI_le (by omega) (by omega))], fun q _ => by rw [if_neg (by omega)], fun q _ => by rw [if_neg (by omega)], nEq.rf⟩
  | succ j ih =>
    intro n i ν hi hn h h5
    obtain ⟨n, rfl⟩ : ∃ m, n = m + 1 := ⟨n - 1, by omega⟩
    have hi7 : i < 7 := by omega
    rw [f_X9_votes_L7, h, if_neg (nI_ge (by omega) (by omega)), nI_1]
    cases hb : m.testBit i with
    | false =>
      rw [if_pos (by rw [bit_s0 m hm i hi7]; exact hb)]
      obtain ⟨ν', e1, e2, e3, e4⟩ := ih n (i + 1) ν (by omega) (by omega) h (fun q h1 h2 => h5 q (by omega) h2)
      refine ⟨ν', e1, fun q hq => ?_, fun q hq => ?_, e4⟩
      · rw [e2 q hq]
        by_cases z : i + 1 ≤ q ∧ q < S.1 ∧ m.testBit q = true
        · rw [if_pos z, if_pos ⟨by omega, z.2⟩]
        · rw [if_neg z, if_neg]
          rintro ⟨z1, z2, z3⟩
          by_cases y : q = i
          · rw [y, hb] at z3; exact absurd z3 (by decide)
          · exact z ⟨by omega, z2, z3⟩
      · rw [e3 q hq]
        by_cases z : i + 1 ≤ q ∧ q < S.1 ∧ m.testBit q = true
        · rw [if_pos z, if_pos ⟨by omega, z.2⟩]
        · rw [if_neg z, if_neg]
          rintro ⟨z1, z2, z3⟩
          by_cases y : q = i
          · rw [y, hb] at z3; exact absurd z3 (by decide)
          · exact z ⟨by omega, z2, z3⟩
    | true =>
      obtain ⟨ν', e1, e2, e3, e4⟩ := ih n (i + 1) (nWI (nWI ν 59 i (S.2.1 5 i + 1)) 58 i 24) (by omega) (by omega) (by rw [wi_ne (by omega), wi_ne (by omega)]; exact h) (fun q h1 h2 => by rw [wi_ne (by omega), wi_ne (by omega)]; exact h5 q (by omega) h2)
      refine ⟨ν', ?_, fun q hq => ?_, fun q hq => ?_, ((nEq.rf.wi (P := fun q => q = 58 ∨ q = 59) (Or.inr rfl)).wi (Or.inl rfl)).tr e4⟩
      · rw [if_neg (by rw [bit_s0 m hm i hi7, hb]; decide), if_pos (ib_in hi7 (by decide)), if_pos (ib_in hi7 (by decide)), ql, if_pos (ib_in hi7 (by decide)), ql, nI_clamp (by omega), h5 i (Nat.le_refl _) hi7]
        exact e1
      · rw [e2 q hq]
        by_cases z : i + 1 ≤ q ∧ q < S.1 ∧ m.testBit q = true
        · rw [if_pos z, if_pos ⟨by omega, z.2⟩]
        · rw [if_neg z]
          by_cases y : q = i
          · rw [y, wi_ne (by omega), wi_eq, if_pos ⟨Nat.le_refl _, by omega, hb⟩]
          · rw [wi_ne (by omega), wi_ne (by omega), if_neg (fun w => z ⟨by omega, w.2⟩)]
      · rw [e3 q hq]
        by_cases z : i + 1 ≤ q ∧ q < S.1 ∧ m.testBit q = true
        · rw [if_pos z, if_pos ⟨by omega, z.2⟩]
        · rw [if_neg z]
          by_cases y : q = i
          · rw [y, wi_eq, if_pos ⟨Nat.le_refl _, by omega, hb⟩]
          · rw [wi_ne (by omega), wi_ne (by omega), if_neg (fun w => z ⟨by omega, w.2⟩)]
theorem hv8 {Z : zS} {ν : gN} {s : Nat} (h : IC Z ν) (hZ : okZ Z) (hC : CH Z.1.2.2.1 ν) (hs : Z.1.2.2.2.1 0 = nI s) (hs4 : s ≤ 4) : ∃ ν', f_X8_holdVote ν = some (nI (pck Z.1 (fun i => posN Z.1 i 0) (fun q => (0 : Nat).testBit q) s), ν') ∧ IC (vtS Z.1 (pck Z.1 (fun i => posN Z.1 i 0) (fun q => (0 : Nat).testBit q) s), Z.2) ν' ∧ CH Z.1.2.2.1 ν' ∧ nEq (fun q => q = 31 ∨ q = 6 ∨ q = 7 ∨ q = 1) ν ν' := by
  have hc := hZ.1.1
  obtain ⟨ν1, a1, a2, a3⟩ := lk8 (p := 1) (m := 0) (by decide) hZ.1 (by decide) h.1 hC
  have h1 : RP 1 Z.1 ν1 := h.1.eq a3 (fun a _ _ => by omega)
  have hC1 : CH Z.1.2.2.1 ν1 := ⟨hC.1.eq a3 (by decide), hC.2.1.eq a3 (by decide), hC.2.2.eq a3 (by decide)⟩
  have el := elect8 (xm := 0) h1 hc (AT.of hZ.1 a2 hC1) (by decide) hs hs4
  generalize hM : pck Z.1 (fun i => posN Z.1 i 0) (fun q => (0 : Nat).testBit q) s = M at el ⊢
  have hM' : M < 128 := by rw [← hM]; exact pck_lt hc s
  obtain ⟨ν2, e1, e2, e3, e4⟩ := vt8_L (S := Z.1) (m := M) (k := fun ν_14 => qL (nWI ν_14 1 11 ((ν_14.1 1 11) + 1)) (fun ν_15 => some (nI M, ν_15))) hc hM' Z.1.1 FU 0 ν1 (by omega) (by unfold FU; omega) h1.1 (fun q _ hq => h1.c5 hq)
  have w2 : ν2.1 1 11 = Z.1.2.2.2.1 3 := ((e4 1 (by decide)).1 11).trans (h1.2.2.2.1 3 (by decide))
  have hn : nEq (fun q => q = 31 ∨ q = 6 ∨ q = 7 ∨ q = 1) ν (nWI ν2 1 11 (Z.1.2.2.2.1 3 + 1)) := ((a3.mono (Q := fun q => q = 31 ∨ q = 6 ∨ q = 7 ∨ q = 1) (fun a z => Or.inl z)).tr (e4.mono (fun a z => by omega))).wi (by omega)
  refine ⟨nWI ν2 1 11 (Z.1.2.2.2.1 3 + 1), ?_, h.port (S' := vtS Z.1 M) ⟨?_, fun j hj i hi => ?_, fun i hi => ?_, fun k hk => ?_, ?_⟩ (hn.mono (fun a z => by omega)), ⟨hC.1.eq hn (by decide), hC.2.1.eq hn (by decide), hC.2.2.eq hn (by decide)⟩, hn⟩
  · rw [f_X8_holdVote, show (0 : Int32) = nI 0 from rfl, a1, Option.bind_some, el, Option.bind_some]
    refine Eq.trans e1 ?_
    rw [ql, w2]
  · rw [wi_ne (by omega), (e4 1 (by decide)).1]; exact h1.1
  · rw [wi_ne (by omega)]
    show ν2.1 (1 + 1 + j) i = (if j = 5 ∧ i < Z.1.1 ∧ M.testBit i = true then Z.1.2.1 5 i + 1 else if j = 4 ∧ i < Z.1.1 ∧ M.testBit i = true then 24 else Z.1.2.1 j i)
    by_cases z : j = 5
    · subst z
      rw [show (1 + 1 + 5) = 7 from rfl, e2 i hi]
      by_cases y : i < Z.1.1 ∧ M.testBit i = true
      · rw [if_pos ⟨Nat.zero_le _, y⟩, if_pos ⟨rfl, y⟩]
      · rw [if_neg (fun w => y w.2), if_neg (fun w => y w.2), if_neg (fun w => y w.2)]; exact h1.c5 hi
    · rw [if_neg (fun w => z w.1)]
      by_cases z4 : j = 4
      · subst z4
        rw [show (1 + 1 + 4) = 6 from rfl, e3 i hi]
        by_cases y : i < Z.1.1 ∧ M.testBit i = true
        · rw [if_pos ⟨Nat.zero_le _, y⟩, if_pos ⟨rfl, y⟩]
        · rw [if_neg (fun w => y w.2), if_neg (fun w => y w.2)]; exact h1.c4 hi
      · rw [if_neg (fun w => z4 w.1), (e4 (1 + 1 + j) (by omega)).1]; exact h1.2.1 j hj i hi
  · rw [show (nWI ν2 1 11 (Z.1.2.2.2.1 3 + 1)).2 1 7 = ν2.2 1 7 from rfl, (e4 1 (by decide)).2]; exact h1.2.2.1 i hi
  · show _ = (if k = 3 then Z.1.2.2.2.1 3 + 1 else Z.1.2.2.2.1 k)
    by_cases z : k = 3
    · subst z; rw [if_pos rfl, wi_eq]
    · rw [if_neg z, wi_ne (by omega), (e4 1 (by decide)).1]; exact h1.2.2.2.1 k hk
  · rw [wi_ne (by omega), (e4 1 (by decide)).1]; exact h1.2.2.2.2
theorem hv9 {Z : zS} {ν : gN} {s : Nat} (h : IM Z ν) (hZ : okZ Z) (hs : Z.1.2.2.2.1 0 = nI s) (hs4 : s ≤ 4) : ∃ ν', f_X9_votes ν = some (nI (pck Z.1 (fun i => posN Z.1 i 0) (fun q => (0 : Nat).testBit q) s), ν') ∧ IM (vtS Z.1 (pck Z.1 (fun i => posN Z.1 i 0) (fun q => (0 : Nat).testBit q) s), Z.2) ν' ∧ nEq (fun q => 53 ≤ q) ν ν' := by
  have hc := hZ.1.1
  obtain ⟨ν1, d1, d2, d3⟩ := elect9 (S := Z.1) (g := fun i => posN Z.1 i 0) (ex := fun q => (0 : Nat).testBit q) (s := s) hc hZ.f0 (fun i hi => ⟨(posN_0 (hZ.1.2.1 i hi)).1, (posN_0 (hZ.1.2.1 i hi)).2.1⟩) hs hs4 h.f (ex_0 (S := Z.1) hc h.2.2.2.2.2.2.2)
  generalize hM : pck Z.1 (fun i => posN Z.1 i 0) (fun q => (0 : Nat).testBit q) s = M at d1 ⊢
  have hM' : M < 128 := by rw [← hM]; exact pck_lt hc s
  have h1 := d2.1
  obtain ⟨ν2, e1, e2, e3, e4⟩ := vt9_L (S := Z.1) (m := M) (k := fun ν_10 => if inb 3 4 = true then if inb 3 4 = true then qL (nWI ν_10 61 (3 : Int32).toNatClampNeg ((ν_10.1 61 (3 : Int32).toNatClampNeg) + 1)) (fun ν_13 => some (nI M, ν_13)) else none else none) hc hM' Z.1.1 FU 0 ν1 (by omega) (by unfold FU; omega) h1.1 (fun q _ hq => h1.c5 hq)
  have w2 : ν2.1 61 3 = Z.1.2.2.2.1 3 := ((e4 61 (by decide)).1 3).trans (h1.2.2.2.1 3 (by decide))
  have hq : mEq (fun a b => fP a b ∨ a = 58 ∨ a = 59 ∨ a = 61) ν (nWI ν2 61 3 (Z.1.2.2.2.1 3 + 1)) := ((d3.mono (Q := fun a b => fP a b ∨ a = 58 ∨ a = 59 ∨ a = 61) (fun a b z => Or.inl z)).tr (e4.m (fun a b z => by omega))).wi (Or.inr (Or.inr (Or.inr rfl)))
  have hR : RM (vtS Z.1 M) (nWI ν2 61 3 (Z.1.2.2.2.1 3 + 1)) := by
    refine ⟨?_, fun j hj i hi => ?_, fun i hi => ?_, fun k hk => ?_, ?_⟩
    · rw [wi_ne (by omega), (e4 53 (by decide)).1]; exact h1.1
    · rw [wi_ne (by omega)]
      show ν2.1 (54 + j) i = (if j = 5 ∧ i < Z.1.1 ∧ M.testBit i = true then Z.1.2.1 5 i + 1 else if j = 4 ∧ i < Z.1.1 ∧ M.testBit i = true then 24 else Z.1.2.1 j i)
      by_cases z : j = 5
      · subst z
        rw [show (54 + 5) = 59 from rfl, e2 i hi]
        by_cases y : i < Z.1.1 ∧ M.testBit i = true
        · rw [if_pos ⟨Nat.zero_le _, y⟩, if_pos ⟨rfl, y⟩]
        · rw [if_neg (fun w => y w.2), if_neg (fun w => y w.2), if_neg (fun w => y w.2)]; exact h1.c5 hi
      · rw [if_neg (fun w => z w.1)]
        by_cases z4 : j = 4
        · subst z4
          rw [show (54 + 4) = 58 from rfl, e3 i hi]
          by_cases y : i < Z.1.1 ∧ M.testBit i = true
          · rw [if_pos ⟨Nat.zero_le _, y⟩, if_pos ⟨rfl, y⟩]
          · rw [if_neg (fun w => y w.2), if_neg (fun w => y w.2)]; exact h1.c4 hi
        · rw [if_neg (fun w => z4 w.1), (e4 (54 + j) (by omega)).1]; exact h1.2.1 j hj i hi
    · rw [wi_ne (by omega), (e4 60 (by decide)).1]; exact h1.2.2.1 i hi
    · show _ = (if k = 3 then Z.1.2.2.2.1 3 + 1 else Z.1.2.2.2.1 k)
      by_cases z : k = 3
      · subst z; rw [if_pos rfl, wi_eq]
      · rw [if_neg z, wi_ne (by omega), (e4 61 (by decide)).1]; exact h1.2.2.2.1 k hk
    · rw [wi_ne (by omega), (e4 53 (by decide)).1]; exact h1.2.2.2.2
  refine ⟨nWI ν2 61 3 (Z.1.2.2.2.1 3 + 1), ?_, h.fc (S' := vtS Z.1 M) ⟨hR, ?_⟩ hq (fun a b z => by unfold fP at z; omega) (fun b z => by unfold fP at z; omega), hq.n (fun a b z => by unfold fP at z; omega)⟩
  · rw [f_X9_votes, d1, Option.bind_some]
    refine Eq.trans e1 ?_
    have i4 : inb 3 4 = true := rfl
    rw [if_pos i4, if_pos i4, ql, show (3 : Int32).toNatClampNeg = 3 from rfl, w2]
  · rw [wi_ne (by omega), (e4 53 (by decide)).1]
    exact d2.2.imp id (fun z => ⟨z.1, fun t ht => by rw [wi_ne (by omega), (e4 70 (by decide)).1]; exact z.2 t ht⟩)
theorem okZ.vt {Z : zS} (h : okZ Z) (m : Nat) : okZ (vtS Z.1 m, Z.2) := ⟨h.1.vt m, h.2⟩
theorem op_vote {Z : zS} (hZ : okZ Z) : both f_X8_vote f_X9_vote Z := by
  obtain ⟨s, hs4, hs⟩ := hZ.w0
  refine ⟨nI (pck Z.1 (fun i => posN Z.1 i 0) (fun q => (0 : Nat).testBit q) s), _, hZ.vt (pck Z.1 (fun i => posN Z.1 i 0) (fun q => (0 : Nat).testBit q) s), fun ν h => ?_, fun ν h => ?_⟩
  · obtain ⟨ν1, a1, a2, a3⟩ := ch8 (F := Z.1.2.2.1) ν h.1.2.2.1
    have h1 : IC Z ν1 := h.sc a3 (fun a z => by unfold scC; omega)
    obtain ⟨ν', e1, e2, e3, e4⟩ := hv8 h1 hZ a2 hs hs4
    refine ⟨ν', ?_, e2, (a3.c (fun a z => by omega)).tr (e4.c (fun a z => by omega))⟩
    rw [f_X8_vote, a1, Option.bind_some, e1]; rfl
  · obtain ⟨ν', e1, e2, e3⟩ := hv9 h hZ hs hs4
    refine ⟨ν', ?_, e2, e3⟩
    rw [f_X9_vote, e1]; rfl
