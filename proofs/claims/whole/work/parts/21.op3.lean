/-! calls: fence person show row -/
theorem op_fence (x : Int32) (b : Bool) {Z : zS} (hZ : okZ Z) : both (f_X8_fence x (i01 b)) (f_X9_fence x (i01 b)) Z := by
  have hc := hZ.1.1
  have no : (∀ ν, RP 1 Z.1 ν → f_X4_mayBeFenced 1 x ν = some (0, ν)) → (∀ ν, RM Z.1 ν → f_X9_isFree x ν = some (0, ν)) → both (f_X8_fence x (i01 b)) (f_X9_fence x (i01 b)) Z := fun o8 o9 => by
    refine both_no (a := -6) 6 (by decide) hZ (fun ν h => ?_) (fun ν h => ?_)
    · simp only [f_X8_fence, o8 ν h.1, Option.bind_some, ↓reduceIte, rf_6]
    · simp only [f_X9_fence, o9 ν h.1, Option.bind_some, ↓reduceIte, no_6]
  rcases (rng x 49 (by decide)).symm with hx | ⟨c, hc49, rfl⟩
  · exact no (fun ν _ => mb8_out ν hx) (fun ν _ => fr9_out ν hx)
  cases hf : frS Z.1 c with
  | false => exact no (fun ν h => by rw [mb8 h hc hc49, hf]; rfl) (fun ν h => by rw [fr9 h hc hc49, hf]; rfl)
  | true =>
    have hf' : c ≠ 24 ∧ msk (atS Z.1 (nI c)) Z.1.1 = 0 := by
      have := hf
      simp only [frS, Bool.and_eq_true, decide_eq_true_eq] at this
      exact this
    refine ⟨i01 (Z.1.2.2.1 c), zP (pF c b) Z, ⟨⟨hc, fun q hq => ?_, ?_, fun i hi => ?_, hZ.1.2.2.2.2⟩, hZ.2⟩, fun ν h => ?_, fun ν h => ?_⟩
    · obtain ⟨v0, v1, v2, v3, k, k1, k2, k3⟩ := hZ.1.2.1 q hq
      refine ⟨v0, v1, v2, v3, k, k1, k2, ?_⟩
      show (if k = c then b else Z.1.2.2.1 k) = false
      by_cases e : k = c
      · exfalso
        have t := msk_bit (P := atS Z.1 (nI c)) Z.1.1 q
        rw [hf'.2, decide_eq_true (show q < Z.1.1 from hq), show atS Z.1 (nI c) q = true from decide_eq_true (by rw [k2, e])] at t
        simp at t
      · rw [if_neg e]; exact k3
    · show (if 24 = c then b else Z.1.2.2.1 24) = false
      rw [if_neg (fun e => hf'.1 e.symm)]; exact hZ.1.2.2.1
    · show (if i = c then b else Z.1.2.2.1 i) = false
      rw [if_neg (by omega)]; exact hZ.1.2.2.2.1 i hi
    · obtain ⟨ν', e1, e2, e3⟩ := pf_8 (b := b) h hc49
      refine ⟨ν', ?_, e2, e3.mono (by intro a ha; show a < 53; omega)⟩
      simp only [f_X8_fence, mb8 h.1 hc hc49, hf, i01_1, Option.bind_some, ↓reduceIte, b1, fn_in h.1 hc49, e1]
      cases Z.1.2.2.1 c <;> rfl
    · obtain ⟨ν', e1, e2, e3⟩ := pf_9 (b := b) h hc49
      refine ⟨ν', ?_, e2, e3.mono (by intro a ha; show 53 ≤ a; omega)⟩
      simp only [f_X9_fence, fr9 h.1 hc hc49, hf, i01_1, Option.bind_some, ↓reduceIte, b1, ib_in hc49 (show 49 < 2 ^ 31 by decide), nI_clamp (show c < 2 ^ 31 by omega), h.1.2.2.1 c hc49, e1]
      cases Z.1.2.2.1 c <;> rfl
theorem kd_8 (x : Int32) (ν : gN) : f_X3_isKind x ν = some (i01 (bt x 0 6), ν) := by
  simp only [f_X3_isKind, bw8, Option.bind_some, zb_i01, ↓reduceIte]
theorem op_person (x1 x2 x3 x4 x5 : Int32) {Z : zS} (hZ : okZ Z) : both (f_X8_person x1 x2 x3 x4 x5) (f_X9_person x1 x2 x3 x4 x5) Z := by
  have hc := hZ.1.1
  cases g1 : bt x1 0 6 with
  | false =>
    refine both_no (a := -1) 1 (by decide) hZ (fun ν h => ?_) (fun ν h => ?_)
    · simp only [f_X8_person, kd_8, g1, i01_f, Option.bind_some, ↓reduceIte, rf_1]
    · simp only [f_X9_person, bw9, g1, i01_f, Option.bind_some, ↓reduceIte, no_1]
  | true =>
  cases g2 : bt x2 0 9 with
  | false =>
    refine both_no (a := -6) 6 (by decide) hZ (fun ν h => ?_) (fun ν h => ?_)
    · simp only [f_X8_person, kd_8, bw8, g1, g2, i01_f, i01_1, b1, Option.bind_some, ↓reduceIte, rf_6]
    · simp only [f_X9_person, bw9, g1, g2, i01_f, i01_1, b1, Option.bind_some, ↓reduceIte, no_6]
  | true =>
  cases g3 : bt x3 0 20 with
  | false =>
    refine both_no (a := -6) 6 (by decide) hZ (fun ν h => ?_) (fun ν h => ?_)
    · simp only [f_X8_person, kd_8, bw8, g1, g2, g3, i01_f, i01_1, b1, Option.bind_some, ↓reduceIte, rf_6]
    · simp only [f_X9_person, bw9, g1, g2, g3, i01_f, i01_1, b1, Option.bind_some, ↓reduceIte, no_6]
  | true =>
  cases g4 : bt x4 1 4 with
  | false =>
    refine both_no (a := -6) 6 (by decide) hZ (fun ν h => ?_) (fun ν h => ?_)
    · simp only [f_X8_person, kd_8, bw8, g1, g2, g3, g4, i01_f, i01_1, b1, Option.bind_some, ↓reduceIte, rf_6]
    · simp only [f_X9_person, bw9, g1, g2, g3, g4, i01_f, i01_1, b1, Option.bind_some, ↓reduceIte, no_6]
  | true =>
  have no : (∀ ν, RP 1 Z.1 ν → f_X4_isOpen 1 x5 ν = some (0, ν)) → (∀ ν, RM Z.1 ν → f_X9_isOpen x5 ν = some (0, ν)) → both (f_X8_person x1 x2 x3 x4 x5) (f_X9_person x1 x2 x3 x4 x5) Z := fun o8 o9 => by
    refine both_no (a := -6) 6 (by decide) hZ (fun ν h => ?_) (fun ν h => ?_)
    · simp only [f_X8_person, kd_8, bw8, g1, g2, g3, g4, i01_f, i01_1, b1, o8 ν h.1, Option.bind_some, ↓reduceIte, rf_6]
    · simp only [f_X9_person, bw9, g1, g2, g3, g4, i01_f, i01_1, b1, o9 ν h.1, Option.bind_some, ↓reduceIte, no_6]
  rcases (rng x5 49 (by decide)).symm with hx | ⟨c, hc49, rfl⟩
  · exact no (fun ν _ => op8_out ν hx) (fun ν _ => op9_out ν hx)
  cases hf : Z.1.2.2.1 c with
  | true => exact no (fun ν h => by rw [op8_in h hc49, hf]; rfl) (fun ν h => by rw [op9_in h hc49, hf]; rfl)
  | false =>
  by_cases hn : Z.1.1 = 7
  · refine both_no (a := -7) 7 (by decide) hZ (fun ν h => ?_) (fun ν h => ?_)
    · simp only [f_X8_person, kd_8, bw8, g1, g2, g3, g4, i01_f, i01_1, b1, op8_in h.1 hc49, hf, Bool.false_eq_true, f_X4_hasRoom, h.1.1, hn, show ((7 : Int32) ≤ nI 7) = True from by decide, Option.bind_some, ↓reduceIte, rf_7]
    · simp only [f_X9_person, bw9, g1, g2, g3, g4, i01_f, i01_1, b1, op9_in h.1 hc49, hf, Bool.false_eq_true, h.1.1, hn, show (nI 7 = 7) = True from by decide, Option.bind_some, ↓reduceIte, no_7]
  · have hn7 : Z.1.1 < 7 := by omega
    obtain ⟨k1, _, k1', rfl⟩ := bt_of (a := 0) (b := 6) (by decide) (by decide) g1
    obtain ⟨k2, _, k2', rfl⟩ := bt_of (a := 0) (b := 9) (by decide) (by decide) g2
    obtain ⟨k3, _, k3', rfl⟩ := bt_of (a := 0) (b := 20) (by decide) (by decide) g3
    obtain ⟨k4, k4'', k4', rfl⟩ := bt_of (a := 1) (b := 4) (by decide) (by decide) g4
    have hr : ((7 : Int32) ≤ nI Z.1.1) = False := eq_false (by rw [le_cn (c := 7) (k := 7) rfl (by omega) (by decide)]; omega)
    have h7 : (nI Z.1.1 = 7) = False := eq_false (by rw [eq_nc (c := 7) (k := 7) rfl (by omega) (by decide)]; omega)
    refine ⟨nI Z.1.1, zP (pN (Z.1.1 + 1)) (zP (pA 5 Z.1.1 0) (zP (pA 4 Z.1.1 (nI c)) (zP (pA 3 Z.1.1 (nI k4)) (zP (pA 2 Z.1.1 (nI k3)) (zP (pA 1 Z.1.1 (nI k2)) (zP (pA 0 Z.1.1 (nI k1)) Z)))))), ⟨⟨hn7, fun q hq => ?_, hZ.1.2.2⟩, fun s hs => ?_, hZ.2.2⟩, fun ν h => ⟨_, ?_, ((((((h.a (j := 0) (by decide) hn7).a (j := 1) (by decide) hn7).a (j := 2) (by decide) hn7).a (j := 3) (by decide) hn7).a (j := 4) (by decide) hn7).a (j := 5) (by decide) hn7).n, ?_⟩, fun ν h => ⟨_, ?_, ((((((h.a (j := 0) (by decide) hn7).a (j := 1) (by decide) hn7).a (j := 2) (by decide) hn7).a (j := 3) (by decide) hn7).a (j := 4) (by decide) hn7).a (j := 5) (by decide) hn7).n, ?_⟩⟩
    · have hq' : q < Z.1.1 + 1 := hq
      by_cases e : q = Z.1.1
      · subst e
        exact ⟨⟨k1, k1', by simp [zP, pN, pA]⟩, ⟨k2, k2', by simp [zP, pN, pA]⟩, ⟨k3, k3', by simp [zP, pN, pA]⟩, ⟨k4, k4'', k4', by simp [zP, pN, pA]⟩, ⟨c, hc49, by simp [zP, pN, pA], hf⟩⟩
      · have := hZ.1.2.1 q (by omega)
        simp only [vP, zP, pN, pA, e, and_false, ↓reduceIte]
        exact this
    · rcases hZ.2.1 s hs with z | ⟨q, z1, z2⟩ | z
      · exact Or.inl z
      · exact Or.inr (Or.inl ⟨q, show q < Z.1.1 + 1 by omega, z2⟩)
      · exact Or.inr (Or.inr z)
    · simp only [f_X8_person, kd_8, bw8, g1, g2, g3, g4, i01_1, b1, op8_in h.1 hc49, hf, Bool.false_eq_true, f_X4_hasRoom, f_X4_addPerson, h.1.1, hr, Option.bind_some, ↓reduceIte, ib_in hn7 (show 7 < 2 ^ 31 by decide), nI_clamp (show Z.1.1 < 2 ^ 31 by omega), ql]
      rw [show ((nWI (nWI (nWI (nWI (nWI (nWI ν (1 + 1) Z.1.1 (nI k1)) (1 + 2) Z.1.1 (nI k2)) (1 + 3) Z.1.1 (nI k3)) (1 + 4) Z.1.1 (nI k4)) (1 + 5) Z.1.1 (nI c)) (1 + 6) Z.1.1 0).1 1 6) = nI Z.1.1 from by rw [wi_ne (by omega), wi_ne (by omega), wi_ne (by omega), wi_ne (by omega), wi_ne (by omega), wi_ne (by omega), h.1.1], nI_1]
    · exact ((((((nEq.rf.wi (by decide)).wi (by decide)).wi (by decide)).wi (by decide)).wi (by decide)).wi (by decide)).wi (by decide)
    · have e : ∀ (μ : gN) a x, a ≠ 53 → (nWI μ a Z.1.1 x).1 53 0 = μ.1 53 0 := fun μ a x ha => wi_ne (by omega)
      simp only [f_X9_person, f_X9_newOne, bw9, g1, g2, g3, g4, i01_1, b1, op9_in h.1 hc49, hf, Bool.false_eq_true, h7, Option.bind_some, ↓reduceIte, h.1.1, e _ 54 _ (by decide), e _ 55 _ (by decide), e _ 56 _ (by decide), e _ 57 _ (by decide), e _ 58 _ (by decide), e _ 59 _ (by decide), ib_in hn7 (show 7 < 2 ^ 31 by decide), nI_clamp (show Z.1.1 < 2 ^ 31 by omega), ql, nI_1]
    · exact ((((((nEq.rf.wi (by decide)).wi (by decide)).wi (by decide)).wi (by decide)).wi (by decide)).wi (by decide)).wi (by decide)
