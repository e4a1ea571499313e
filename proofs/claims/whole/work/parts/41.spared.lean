/-! the call spared -/
theorem fr_of {S : pS} {c : Nat} (h : frS S c = true) : c ≠ 24 ∧ msk (atS S (nI c)) S.1 = 0 := by
  simp only [frS, Bool.and_eq_true, decide_eq_true_eq] at h
  exact h
theorem okZ.fen {Z : zS} (hZ : okZ Z) {c : Nat} (hc49 : c < 49) (hf : frS Z.1 c = true) (b : Bool) : okZ (zP (pF c b) Z) := by
  have hf' := fr_of hf
  refine ⟨⟨hZ.1.1, fun q hq => ?_, ?_, fun i hi => ?_, hZ.1.2.2.2.2⟩, hZ.2⟩
  · obtain ⟨v0, v1, v2, v3, k, k1, k2, k3⟩ := hZ.1.2.1 q hq
    refine ⟨v0, v1, v2, v3, k, k1, k2, ?_⟩
    show (if k = c then b else Z.1.2.2.1 k) = false
    by_cases e : k = c
    · exfalso
      have t := msk_bit (P := atS Z.1 (nI c)) Z.1.1 q
      rw [hf'.2, decide_eq_true (show q < Z.1.1 from hq), show atS Z.1 (nI c) q = true from decide_eq_true (by rw [k2, e])] at t
      simp at t
    · rw [if_neg e]; exact k3
  · show (if 24 = c then b else Z.1.2.2.1 24) = false
    rw [if_neg (fun e => hf'.1 e.symm)]; exact hZ.1.2.2.1
  · show (if i = c then b else Z.1.2.2.1 i) = false
    rw [if_neg (by omega)]; exact hZ.1.2.2.2.1 i hi
noncomputable def spM (S : pS) (m s c : Nat) : Nat := pck (pF c true S) (fun q => posN (pF c true S) q m) (fun q => (0 : Nat).testBit q) s
noncomputable def spP (S : pS) (x m s c : Nat) : Bool := frS S c && !S.2.2.1 c && !(spM S m s c).testBit x
theorem sp_8L {Z : zS} {x m s : Nat} {k : gN → Option (Int32 × gN)} (hZ : okZ Z) (hx : x < Z.1.1) (hm : m < 50000) (hs : Z.1.2.2.2.1 0 = nI s) (hs4 : s ≤ 4) : ∀ j n c ν, c + j = 49 → j < n → IC Z ν → ∃ ν', f_X8_spared_L33 (nI x) (nI m) k n (nI c) ν = (if fmi (spP Z.1 x m s) c j = 99 then k ν' else some (nI (fmi (spP Z.1 x m s) c j), ν')) ∧ IC Z ν' ∧ nEq (fun q => q < 53) ν ν' := by
  have hc7 := hZ.1.1
  intro j
  induction j with
  | zero =>
    intro n c ν hj hn h
    obtain ⟨n, rfl⟩ : ∃ m, n = m + 1 := ⟨n - 1, by omega⟩
    have e : c = 49 := by omega
    subst e
    exact ⟨ν, by rw [f_X8_spared_L33, if_pos (by decide), fmi, if_pos rfl], h, nEq.rf⟩
  | succ j ih =>
    intro n c ν hj hn h
    obtain ⟨n, rfl⟩ : ∃ m, n = m + 1 := ⟨n - 1, by omega⟩
    have hc : c < 49 := by omega
    have skip : spP Z.1 x m s c = false → ∀ ν1, IC Z ν1 → nEq (fun q => q < 53) ν ν1 → ∃ ν', f_X8_spared_L33 (nI x) (nI m) k n (nI c + 1) ν1 = (if fmi (spP Z.1 x m s) c (j + 1) = 99 then k ν' else some (nI (fmi (spP Z.1 x m s) c (j + 1)), ν')) ∧ IC Z ν' ∧ nEq (fun q => q < 53) ν ν' := fun hP ν1 h1 e => by
      obtain ⟨ν', e1, e2, e3⟩ := ih n (c + 1) ν1 (by omega) (by omega) h1
      refine ⟨ν', ?_, e2, e.tr e3⟩
      rw [nI_1, fmi, if_neg (show ¬ spP Z.1 x m s c = true by rw [hP]; decide)]
      exact e1
    rw [f_X8_spared_L33, if_neg (by rw [le_cn (c := 49) (k := 49) rfl (by omega) (by decide)]; omega), fn_in h.1 hc, Option.bind_some]
    cases hF : Z.1.2.2.1 c with
    | true =>
      rw [if_neg (show ¬ ((if true = true then (1 : Int32) else 0), ν).1 = 0 from by show ¬ (1 : Int32) = 0; decide)]
      exact skip (by simp [spP, hF]) ν h nEq.rf
    | false =>
      rw [if_pos (show ((if false = true then (1 : Int32) else 0), ν).1 = 0 from rfl)]
      show ∃ ν', (f_X4_mayBeFenced 1 (nI c) ν).bind _ = _ ∧ _
      rw [mb8 h.1 hc7 hc, Option.bind_some]
      cases hf : frS Z.1 c with
      | false =>
        rw [if_pos (show (i01 false, ν).1 = 0 from rfl)]
        exact skip (by simp [spP, hf]) ν h nEq.rf
      | true =>
        rw [if_neg (show ¬ (i01 true, ν).1 = 0 from by show ¬ i01 true = 0; decide)]
        have hZ' := hZ.fen hc hf true
        have hMK : MK (pF c true Z.1).2.2.1 (ν.2 1 7 ||| j_lshl 1 (nI c)) := fun i hi => by
          rw [bit_or (by omega) hi, h.1.2.2.1 i hi]
          show _ = if i = c then true else Z.1.2.2.1 i
          by_cases e : i = c <;> simp [e]
        obtain ⟨ν1, a1, a2, a3⟩ := ch8 (F := (pF c true Z.1).2.2.1) ν hMK
        have h1 : IC Z ν1 := h.sc a3 (fun a z => by unfold scC; omega)
        have q1 : RQ 1 (pF c true Z.1) ν1 := h1.1.q _
        obtain ⟨ν2, c1, c2, c3⟩ := q_lk8 (p := 1) (m := m) (S := pF c true Z.1) (by decide) hZ'.1 hm q1 a2
        have h2 : IC Z ν2 := h1.sc c3 (fun a z => by unfold scC; omega)
        have q2 : RQ 1 (pF c true Z.1) ν2 := h2.1.q _
        have hA : AT (pF c true Z.1) (fun i => posN (pF c true Z.1) i m) ν2 := AT.of hZ'.1 c2 (a2.eq c3 (by omega))
        have el := q_elect8 (xm := 0) (s := s) q2 hc7 hA (by decide) hs hs4
        have hM : spM Z.1 m s c < 128 := by
          unfold spM
          exact pck_lt (S := pF c true Z.1) hc7 s
        have hn2 : nEq (fun q => q < 53) ν ν2 := (a3.mono (Q := fun q => q < 53) (fun a z => by omega)).tr (c3.mono (fun a z => by omega))
        show ∃ ν', (f_X7_chart (ν.2 1 7 ||| j_lshl 1 (nI c)) ν).bind _ = _ ∧ _
        rw [a1, Option.bind_some, c1, Option.bind_some, show (0 : Int32) = nI 0 from rfl, el, Option.bind_some]
        show ∃ ν', (f_X8_isIn (nI (spM Z.1 m s c)) (nI x) ν2).bind _ = _ ∧ _
        rw [in8 ν2 hM (by omega), Option.bind_some]
        cases hb : (spM Z.1 m s c).testBit x with
        | false =>
          rw [if_pos (show (i01 false, ν2).1 = nI 0 from rfl)]
          refine ⟨ν2, ?_, h2, hn2⟩
          rw [fmi, if_pos (show spP Z.1 x m s c = true by simp [spP, hf, hF, hb]), if_neg (show ¬ c = 99 by omega)]
        | true =>
          rw [if_neg (show ¬ (i01 true, ν2).1 = nI 0 from by show ¬ i01 true = nI 0; decide)]
          exact skip (by simp [spP, hb]) ν2 h2 hn2
theorem fen_back {Z : zS} {c : Nat} (h : Z.1.2.2.1 c = false) : zP (pF c false) (zP (pF c true) Z) = Z := by
  unfold zP pF
  refine Prod.ext (Prod.ext rfl (Prod.ext rfl (Prod.ext (funext fun q => ?_) rfl))) rfl
  show (if q = c then false else if q = c then true else Z.1.2.2.1 q) = Z.1.2.2.1 q
  by_cases e : q = c
  · rw [if_pos e, e, h]
  · rw [if_neg e, if_neg e]
theorem sp_9L {Z : zS} {x m s : Nat} {k : Int32 → gN → Option (Int32 × gN)} (hZ : okZ Z) (hx : x < Z.1.1) (hm : m < 50000) (hs : Z.1.2.2.2.1 0 = nI s) (hs4 : s ≤ 4) : ∀ i n ν, i ≤ 49 → i < n → IM Z ν → ∃ ν', f_X9_spared_L34 (nI x) (nI m) k n (fI (fmi (spP Z.1 x m s) i (49 - i))) (nI i - 1) ν = k (fI (fmi (spP Z.1 x m s) 0 49)) ν' ∧ IM Z ν' ∧ nEq (fun q => 53 ≤ q) ν ν' := by
  have hc7 := hZ.1.1
  intro i
  induction i with
  | zero =>
    intro n ν hi hn h
    obtain ⟨n, rfl⟩ : ∃ m, n = m + 1 := ⟨n - 1, by omega⟩
    exact ⟨ν, by rw [f_X9_spared_L34, if_pos (by decide), Nat.sub_zero], h, nEq.rf⟩
  | succ c ih =>
    intro n ν hi hn h
    obtain ⟨n, rfl⟩ : ∃ m, n = m + 1 := ⟨n - 1, by omega⟩
    have hc : c < 49 := by omega
    have ih := fun ν1 h1 => ih n ν1 (by omega) (by omega) h1
    rw [show 49 - c = (49 - (c + 1)) + 1 by omega, fmi] at ih
    rw [f_X9_spared_L34, nI_pred, if_neg (nI_pos (by omega)), fr9 h.1 hc7 hc, Option.bind_some, ← Int32.sub_eq_add_neg]
    cases hf : frS Z.1 c with
    | false =>
      rw [if_pos (show (i01 false, ν).1 = 0 from rfl)]
      rw [if_neg (show ¬ spP Z.1 x m s c = true by simp [spP, hf])] at ih
      exact ih ν h
    | true =>
      rw [if_neg (show ¬ (i01 true, ν).1 = 0 from by show ¬ i01 true = 0; decide), if_pos (ib_in hc (by decide)), nI_clamp (by omega), h.1.2.2.1 c hc]
      cases hF : Z.1.2.2.1 c with
      | true =>
        rw [if_neg (by decide)]
        rw [if_neg (show ¬ spP Z.1 x m s c = true by simp [spP, hF])] at ih
        exact ih ν h
      | false =>
        rw [if_pos (show (if false = true then (1 : Int32) else 0) = 0 from rfl)]
        have hZ' := hZ.fen hc hf true
        obtain ⟨ν1, a1, a2, a3⟩ := pf_9 (b := true) h hc
        obtain ⟨ν2, ν3, e1, e2, e3, e4, e5⟩ := peek9 a2 hZ' hm
        obtain ⟨ν4, d1, d2, d3⟩ := chn9 hZ'.1 e3 e4 hs hs4
        obtain ⟨ν5, f1, f2, f3⟩ := e5 ν4 d2 d3
        obtain ⟨ν6, g1, g2, g3⟩ := pf_9 (b := false) f2 hc
        rw [fen_back hF] at g2
        have hM : spM Z.1 m s c < 128 := by
          unfold spM
          exact pck_lt (S := pF c true Z.1) hc7 s
        have hn6 : nEq (fun q => 53 ≤ q) ν ν6 := ((a3.mono (Q := fun q => 53 ≤ q) (fun a z => by omega)).tr f3).tr (g3.mono (fun a z => by omega))
        have hcb : f_X9_chosenBehind (nI m) ν1 = some (nI (spM Z.1 m s c), ν5) := by
          rw [f_X9_chosenBehind, e1, Option.bind_some, e2, Option.bind_some, d1, Option.bind_some, f1]; rfl
        rw [show f_X9_fenced (nI c) 1 (i01 true, ν).2 = some ν1 from a1, Option.bind_some, hcb, Option.bind_some]
        obtain ⟨ν', w1, w2, w3⟩ := ih ν6 g2
        refine ⟨ν', ?_, w2, hn6.tr w3⟩
        have g1' : f_X9_fenced (nI c) 0 ν5 = some ν6 := g1
        cases hb : (spM Z.1 m s c).testBit x with
        | false =>
          rw [if_pos (show j_shr (nI (spM Z.1 m s c)) (nI x) &&& 1 = 0 by rw [bit_s0 _ hM x (by omega)]; exact hb)]
          rw [if_pos (show spP Z.1 x m s c = true by simp [spP, hf, hF, hb]), show fI c = nI c from if_neg (by omega)] at w1
          show (f_X9_fenced (nI c) 0 ν5).bind _ = _
          rw [g1', Option.bind_some]
          exact w1
        | true =>
          rw [if_neg (show ¬ j_shr (nI (spM Z.1 m s c)) (nI x) &&& 1 = 0 by rw [bit_s0 _ hM x (by omega), hb]; decide)]
          rw [if_neg (show ¬ spP Z.1 x m s c = true by simp [spP, hb])] at w1
          show (f_X9_fenced (nI c) 0 ν5).bind _ = _
          rw [g1', Option.bind_some]
          exact w1
theorem sp_8E {Z : zS} {x m s : Nat} (hZ : okZ Z) (hx : x < Z.1.1) (hm : m < 50000) (hs : Z.1.2.2.2.1 0 = nI s) (hs4 : s ≤ 4) : ∃ A, (∀ ν, IC Z ν → ∃ ν', f_X8_spared_L33 (nI x) (nI m) (fun ν_17 => some ((-1), ν_17)) FU 0 ν = some (fI A, ν') ∧ IC Z ν' ∧ nEq (fun q => q < 53) ν ν') ∧ (∀ ν, IM Z ν → ∃ ν', f_X9_spared_L34 (nI x) (nI m) (fun z3_16 ν_17 => some (z3_16, ν_17)) FU (-1) 48 ν = some (fI A, ν') ∧ IM Z ν' ∧ nEq (fun q => 53 ≤ q) ν ν') := by
  have h8 := fun ν h => sp_8L (k := fun ν_17 => some ((-1), ν_17)) hZ hx hm hs hs4 49 FU 0 ν rfl (by decide) h
  have h9 := fun ν h => sp_9L (k := fun z3_16 ν_17 => some (z3_16, ν_17)) hZ hx hm hs hs4 49 FU ν (Nat.le_refl _) (by decide) h
  have e48 : nI 49 - 1 = 48 := by decide
  have ef : fI (fmi (spP Z.1 x m s) 49 (49 - 49)) = -1 := by rw [Nat.sub_self, fmi]; rfl
  rw [e48, ef] at h9
  generalize fmi (spP Z.1 x m s) 0 49 = f at h8 h9
  refine ⟨f, fun ν h => ?_, fun ν h => ?_⟩
  · obtain ⟨ν', e1, e2, e3⟩ := h8 ν h
    refine ⟨ν', ?_, e2, e3⟩
    rw [show (0 : Int32) = nI 0 from rfl, e1]
    by_cases z : f = 99
    · rw [if_pos z, fI, if_pos z]
    · rw [if_neg z, fI, if_neg z]
  · obtain ⟨ν', e1, e2, e3⟩ := h9 ν h
    exact ⟨ν', e1, e2, e3⟩
theorem op_spared (x y : Int32) {Z : zS} (hZ : okZ Z) : both (f_X8_spared x y) (f_X9_spared x y) Z := by
  have hc := hZ.1.1
  rcases (rng x Z.1.1 (by omega)).symm with hx | ⟨i, hi, rfl⟩
  · refine both_no (a := -11) 1 (by decide) hZ (fun ν h => ?_) (fun ν h => ?_)
    · simp only [f_X8_spared, per_out h.1 hx, Option.bind_some, ↓reduceIte, ra_1]
    · simp only [f_X9_spared, one_out h.1 hc hx, Option.bind_some, ↓reduceIte, nt_1]
  cases hb : bt y 0 30 with
  | false =>
    refine both_no (a := -16) 6 (by decide) hZ (fun ν h => ?_) (fun ν h => ?_)
    · simp only [f_X8_spared, per_in h.1 hc hi, ahd8, hb, i01_f, Option.bind_some, ↓reduceIte, b1, ra_6]
    · simp only [f_X9_spared, one_in h.1 hc hi, tim9, hb, i01_f, Option.bind_some, ↓reduceIte, b1, nt_6]
  | true =>
    obtain ⟨m, _, hm, rfl⟩ := bt_of (a := 0) (b := 30) (by decide) (by decide) hb
    obtain ⟨s, hs4, hs⟩ := hZ.w0
    obtain ⟨A, h8, h9⟩ := sp_8E (m := m) hZ hi (by omega) hs hs4
    refine ⟨fI A, Z, hZ, fun ν h => ?_, fun ν h => ?_⟩
    · obtain ⟨ν', e1, e2, e3⟩ := h8 ν h
      refine ⟨ν', ?_, e2, e3⟩
      rw [f_X8_spared, per_in h.1 hc hi, Option.bind_some, if_neg (show ¬ (1 : Int32) = 0 by decide)]
      show (f_X8_isAhead (nI m) ν).bind _ = _
      rw [ahd8, hb, Option.bind_some, if_neg (show ¬ i01 true = 0 by decide)]
      exact e1
    · obtain ⟨ν', e1, e2, e3⟩ := h9 ν h
      refine ⟨ν', ?_, e2, e3⟩
      simp only [f_X9_spared, one_in h.1 hc hi, tim9, hb, i01_1, Option.bind_some, ↓reduceIte, b1]
      exact e1
