/-! the call wanting -/
theorem pA_pA (j i : Nat) (x y : Int32) (S : pS) : pA j i x (pA j i y S) = pA j i x S := by
  unfold pA
  refine Prod.ext rfl (Prod.ext (funext fun a => funext fun b => ?_) rfl)
  show (if a = j ∧ b = i then x else if a = j ∧ b = i then y else S.2.1 a b) = (if a = j ∧ b = i then x else S.2.1 a b)
  split <;> rfl
theorem pA_self (j i : Nat) (S : pS) : pA j i (S.2.1 j i) S = S := by
  unfold pA
  refine Prod.ext rfl (Prod.ext (funext fun a => funext fun b => ?_) rfl)
  show (if a = j ∧ b = i then S.2.1 j i else S.2.1 a b) = S.2.1 a b
  by_cases e : a = j ∧ b = i
  · rw [if_pos e, e.1, e.2]
  · rw [if_neg e]
theorem zA_zA (j i : Nat) (x y : Int32) (Z : zS) : zP (pA j i x) (zP (pA j i y) Z) = zP (pA j i x) Z := Prod.ext (pA_pA j i x y Z.1) rfl
theorem zA_self (j i : Nat) (Z : zS) : zP (pA j i (Z.1.2.1 j i)) Z = Z := Prod.ext (pA_self j i Z.1) rfl
noncomputable def wnM (S : pS) (x m s w : Nat) : Nat := pck (pA 2 x (nI w) S) (fun q => posN (pA 2 x (nI w) S) q m) (fun q => (0 : Nat).testBit q) s
noncomputable def wnP (S : pS) (x m s w : Nat) : Bool := (wnM S x m s w).testBit x
/-- the first or the last of P below n -/
def wnF (P : Nat → Bool) (l : Bool) : Nat → Nat
  | 0 => 99
  | t + 1 => if P t = true then (if wnF P l t = 99 then t else if l = true then t else wnF P l t) else wnF P l t
theorem wnF_lt {P : Nat → Bool} {l : Bool} : ∀ n, wnF P l n < n ∨ wnF P l n = 99
  | 0 => Or.inr rfl
  | n + 1 => by
    have ih := wnF_lt (P := P) (l := l) n
    rw [wnF]
    split
    · split
      · exact Or.inl (Nat.lt_succ_self n)
      · split
        · exact Or.inl (Nat.lt_succ_self n)
        · omega
    · omega
theorem wn_8L {Z : zS} {x m s : Nat} {l : Bool} {k : Int32 → gN → Option (Int32 × gN)} (hZ : okZ Z) (hx : x < Z.1.1) (hm : m < 50000) (hs : Z.1.2.2.2.1 0 = nI s) (hs4 : s ≤ 4) : ∀ j n t ν u, t + j = 21 → j < n → RP 8 (pA 2 x u Z.1) ν → CH Z.1.2.2.1 ν → ∃ ν', f_X8_wanting_L77 (nI x) (nI m) (i01 l) k n (fI (wnF (wnP Z.1 x m s) l t)) (nI t) ν = k (fI (wnF (wnP Z.1 x m s) l 21)) ν' ∧ nEq (fun q => (8 ≤ q ∧ q < 15) ∨ q = 31) ν ν' := by
  have hc7 := hZ.1.1
  intro j
  induction j with
  | zero =>
    intro n t ν u hj hn h hC
    obtain ⟨n, rfl⟩ : ∃ m, n = m + 1 := ⟨n - 1, by omega⟩
    have e : t = 21 := by omega
    subst e
    exact ⟨ν, by rw [f_X8_wanting_L77, if_pos (by decide)], nEq.rf⟩
  | succ j ih =>
    intro n t ν u hj hn h hC
    obtain ⟨n, rfl⟩ : ∃ m, n = m + 1 := ⟨n - 1, by omega⟩
    have hx7 : x < 7 := by omega
    have h1 := h.a (j := 2) (i := x) (x := nI t) (by decide) hx7
    rw [pA_pA] at h1
    have e1 : nEq (fun q => (8 ≤ q ∧ q < 15) ∨ q = 31) ν (nWI ν 11 x (nI t)) := nEq.rf.wi (by omega)
    have hC1 : CH (pA 2 x (nI t) Z.1).2.2.1 (nWI ν 11 x (nI t)) := hC.eq e1 (by omega)
    have hZ' := hZ.a2 x t (by omega)
    obtain ⟨ν2, c1, c2, c3⟩ := lk8 (p := 8) (m := m) (S := pA 2 x (nI t) Z.1) (by decide) hZ'.1 hm h1 hC1
    have h2 : RP 8 (pA 2 x (nI t) Z.1) ν2 := h1.eq c3 (fun a _ _ => by omega)
    have hC2 : CH (pA 2 x (nI t) Z.1).2.2.1 ν2 := hC1.eq c3 (by omega)
    have el := elect8 (xm := 0) (s := s) h2 hc7 (AT.of hZ'.1 c2 hC2) (by decide) hs hs4
    have hM : wnM Z.1 x m s t < 128 := by
      unfold wnM
      exact pck_lt (S := pA 2 x (nI t) Z.1) hc7 s
    have hf := wnF_lt (P := wnP Z.1 x m s) (l := l) t
    obtain ⟨ν', w1, w2⟩ := ih n (t + 1) ν2 (nI t) (by omega) (by omega) h2 hC2
    rw [wnF] at w1
    refine ⟨ν', ?_, (e1.tr (c3.mono (fun a z => Or.inr z))).tr w2⟩
    have el' : f_X2_elect 8 0 ν2 = some (nI (wnM Z.1 x m s t), ν2) := el
    rw [f_X8_wanting_L77, if_neg (by rw [lt_cn (c := 20) (k := 20) rfl (by omega) (by decide)]; omega), if_pos (ib_in hx7 (by decide)), nI_clamp (by omega), ql, c1, Option.bind_some, el', Option.bind_some, in8 ν2 hM hx7, Option.bind_some, nI_1]
    have hP : wnP Z.1 x m s t = (wnM Z.1 x m s t).testBit x := rfl
    rw [hP] at w1
    generalize wnF (wnP Z.1 x m s) l t = f at w1 hf ⊢
    cases hb : (wnM Z.1 x m s t).testBit x with
    | false =>
      rw [if_pos (show (i01 false, ν2).1 = 0 from rfl)]
      rw [if_neg (by rw [hb]; decide)] at w1
      exact w1
    | true =>
      rw [if_neg (show ¬ (i01 true, ν2).1 = 0 from by show ¬ i01 true = 0; decide)]
      rw [if_pos hb] at w1
      by_cases z : f = 99
      · rw [if_pos (by rw [fI_m2 (by omega)]; exact z)]
        rw [if_pos z, show fI t = nI t from if_neg (by omega)] at w1
        exact w1
      · rw [if_neg (by rw [fI_m2 (by omega)]; exact z)]
        rw [if_neg z] at w1
        cases l with
        | true =>
          rw [if_pos (show i01 true = 1 from rfl)]
          rw [if_pos rfl, show fI t = nI t from if_neg (by omega)] at w1
          exact w1
        | false =>
          rw [if_neg (show ¬ i01 false = 1 by decide)]
          rw [if_neg (by decide)] at w1
          exact w1
theorem wn_1 {Z : zS} {x m s w : Nat} {u : Int32} {ν : gN} (hZ : okZ Z) (hx : x < Z.1.1) (hm : m < 50000) (hs : Z.1.2.2.2.1 0 = nI s) (hs4 : s ≤ 4) (hw : w ≤ 20) (h : IM (zP (pA 2 x u) Z) ν) : ∃ ν', f_X9_chosenBehind (nI m) (nWI ν 56 x (nI w)) = some (nI (wnM Z.1 x m s w), ν') ∧ IM (zP (pA 2 x (nI w)) Z) ν' ∧ nEq (fun q => 53 ≤ q) ν ν' := by
  have hc7 := hZ.1.1
  have h1 : IM (zP (pA 2 x (nI w)) Z) (nWI ν 56 x (nI w)) := by
    have z := h.a (j := 2) (i := x) (x := nI w) (by decide) (by omega)
    rw [zA_zA] at z
    exact z
  have hZ' := hZ.a2 x w hw
  obtain ⟨ν2, ν3, e1, e2, e3, e4, e5⟩ := peek9 h1 hZ' hm
  obtain ⟨ν4, d1, d2, d3⟩ := chn9 hZ'.1 e3 e4 hs hs4
  obtain ⟨ν5, f1, f2, f3⟩ := e5 ν4 d2 d3
  refine ⟨ν5, ?_, f2, (nEq.rf.wi (P := fun q => 53 ≤ q) (by decide)).tr f3⟩
  rw [f_X9_chosenBehind, e1, Option.bind_some, e2, Option.bind_some, d1, Option.bind_some, f1]; rfl
theorem wnM_lt {S : pS} {x m s w : Nat} (hc : S.1 ≤ 7) : wnM S x m s w < 128 := by
  unfold wnM
  exact pck_lt (S := pA 2 x (nI w) S) hc s
theorem wn_9U {Z : zS} {x m s : Nat} {y4 : Int32} {k : Int32 → gN → Option (Int32 × gN)} (hZ : okZ Z) (hx : x < Z.1.1) (hm : m < 50000) (hs : Z.1.2.2.2.1 0 = nI s) (hs4 : s ≤ 4) : ∀ j n t ν u, t + j = 21 → j < n → IM (zP (pA 2 x u) Z) ν → ∃ ν' u', f_X9_wanting_L58 (nI x) (nI m) (i01 true) y4 k n (fI (wnF (wnP Z.1 x m s) true t)) (nI t) ν = k (fI (wnF (wnP Z.1 x m s) true 21)) ν' ∧ IM (zP (pA 2 x u') Z) ν' ∧ nEq (fun q => 53 ≤ q) ν ν' := by
  have hc7 := hZ.1.1
  intro j
  induction j with
  | zero =>
    intro n t ν u hj hn h
    obtain ⟨n, rfl⟩ : ∃ m, n = m + 1 := ⟨n - 1, by omega⟩
    have e : t = 21 := by omega
    subst e
    exact ⟨ν, u, by rw [f_X9_wanting_L58, if_pos (by decide)], h, nEq.rf⟩
  | succ j ih =>
    intro n t ν u hj hn h
    obtain ⟨n, rfl⟩ : ∃ m, n = m + 1 := ⟨n - 1, by omega⟩
    have hx7 : x < 7 := by omega
    obtain ⟨ν1, a1, a2, a3⟩ := wn_1 hZ hx hm hs hs4 (show t ≤ 20 by omega) h
    obtain ⟨ν', u', w1, w2, w3⟩ := ih n (t + 1) ν1 (nI t) (by omega) (by omega) a2
    rw [wnF] at w1
    refine ⟨ν', u', ?_, w2, a3.tr w3⟩
    have hM := wnM_lt (x := x) (m := m) (s := s) (w := t) hc7
    rw [f_X9_wanting_L58, if_neg (by rw [lt_cn (c := 20) (k := 20) rfl (by omega) (by decide)]; omega), if_neg (show ¬ i01 true = 0 by decide), if_pos (ib_in hx7 (by decide)), nI_clamp (by omega), ql, a1, Option.bind_some, nI_1]
    have hP : wnP Z.1 x m s t = (wnM Z.1 x m s t).testBit x := rfl
    rw [hP] at w1
    generalize wnF (wnP Z.1 x m s) true t = f at w1 ⊢
    cases hb : (wnM Z.1 x m s t).testBit x with
    | false =>
      rw [if_neg (show ¬ j_shr (nI (wnM Z.1 x m s t)) (nI x) &&& 1 = 1 by rw [bit_s _ hM x hx7, hb]; decide)]
      rw [if_neg (by rw [hb]; decide)] at w1
      exact w1
    | true =>
      rw [if_pos (show j_shr (nI (wnM Z.1 x m s t)) (nI x) &&& 1 = 1 by rw [bit_s _ hM x hx7]; exact hb)]
      rw [if_pos hb] at w1
      have e : (if f = 99 then t else if true = true then t else f) = t := by
        by_cases z : f = 99
        · rw [if_pos z]
        · rw [if_neg z, if_pos rfl]
      rw [e, show fI t = nI t from if_neg (by omega)] at w1
      exact w1
theorem wn_9D {Z : zS} {x m s : Nat} {y4 : Int32} {k : Int32 → gN → Option (Int32 × gN)} (hZ : okZ Z) (hx : x < Z.1.1) (hm : m < 50000) (hs : Z.1.2.2.2.1 0 = nI s) (hs4 : s ≤ 4) : ∀ j n t ν u, t + j = 21 → j < n → IM (zP (pA 2 x u) Z) ν → ∃ ν' u', f_X9_wanting_L58 (nI x) (nI m) (i01 false) y4 k n (fI (fmi (wnP Z.1 x m s) (21 - t) t)) (nI t) ν = k (fI (fmi (wnP Z.1 x m s) 0 21)) ν' ∧ IM (zP (pA 2 x u') Z) ν' ∧ nEq (fun q => 53 ≤ q) ν ν' := by
  have hc7 := hZ.1.1
  intro j
  induction j with
  | zero =>
    intro n t ν u hj hn h
    obtain ⟨n, rfl⟩ : ∃ m, n = m + 1 := ⟨n - 1, by omega⟩
    have e : t = 21 := by omega
    subst e
    exact ⟨ν, u, by rw [f_X9_wanting_L58, if_pos (by decide), Nat.sub_self], h, nEq.rf⟩
  | succ j ih =>
    intro n t ν u hj hn h
    obtain ⟨n, rfl⟩ : ∃ m, n = m + 1 := ⟨n - 1, by omega⟩
    have hx7 : x < 7 := by omega
    obtain ⟨ν1, a1, a2, a3⟩ := wn_1 hZ hx hm hs hs4 (show 20 - t ≤ 20 by omega) h
    obtain ⟨ν', u', w1, w2, w3⟩ := ih n (t + 1) ν1 (nI (20 - t)) (by omega) (by omega) a2
    rw [show 21 - (t + 1) = 20 - t by omega, fmi, show 20 - t + 1 = 21 - t by omega] at w1
    refine ⟨ν', u', ?_, w2, a3.tr w3⟩
    have hM := wnM_lt (x := x) (m := m) (s := s) (w := 20 - t) hc7
    have e20 : (20 : Int32) - nI t = nI (20 - t) := nI_sub (a := 20) (by omega)
    rw [f_X9_wanting_L58, if_neg (by rw [lt_cn (c := 20) (k := 20) rfl (by omega) (by decide)]; omega), if_pos (show i01 false = 0 from rfl), if_pos (ib_in hx7 (by decide)), nI_clamp (by omega), ql, e20, a1, Option.bind_some, nI_1]
    have hP : wnP Z.1 x m s (20 - t) = (wnM Z.1 x m s (20 - t)).testBit x := rfl
    rw [hP] at w1
    generalize fmi (wnP Z.1 x m s) (21 - t) t = f at w1 ⊢
    cases hb : (wnM Z.1 x m s (20 - t)).testBit x with
    | false =>
      rw [if_neg (show ¬ j_shr (nI (wnM Z.1 x m s (20 - t))) (nI x) &&& 1 = 1 by rw [bit_s _ hM x hx7, hb]; decide)]
      rw [if_neg (by rw [hb]; decide)] at w1
      exact w1
    | true =>
      rw [if_pos (show j_shr (nI (wnM Z.1 x m s (20 - t))) (nI x) &&& 1 = 1 by rw [bit_s _ hM x hx7]; exact hb)]
      rw [if_pos hb, show fI (20 - t) = nI (20 - t) from if_neg (by omega)] at w1
      exact w1
theorem fmi_snoc {P : Nat → Bool} : ∀ n i, i + n < 99 → fmi P i (n + 1) = if fmi P i n = 99 then (if P (i + n) = true then i + n else 99) else fmi P i n
  | 0, i, _ => by
    show (if P i = true then i else 99) = if (99 : Nat) = 99 then (if P (i + 0) = true then i + 0 else 99) else 99
    rw [if_pos rfl, Nat.add_zero]
  | n + 1, i, hi => by
    rw [fmi, fmi_snoc n (i + 1) (by omega), fmi]
    by_cases h : P i = true
    · rw [if_pos h, if_pos h, if_neg (show ¬ i = 99 by omega)]
    · rw [if_neg h, if_neg h, show i + 1 + n = i + (n + 1) by omega]
theorem wf_fmi {P : Nat → Bool} : ∀ n, n < 99 → wnF P false n = fmi P 0 n
  | 0, _ => rfl
  | n + 1, h => by
    rw [wnF, fmi_snoc n 0 (by omega), wf_fmi n (by omega), Nat.zero_add]
    by_cases z : fmi P 0 n = 99
    · rw [if_pos z, if_pos z, z]
    · rw [if_neg z, if_neg z, if_neg (show ¬ false = true by decide)]
      split <;> rfl
theorem wn_E {Z : zS} {x m s : Nat} (l : Bool) (hZ : okZ Z) (hx : x < Z.1.1) (hm : m < 50000) (hs : Z.1.2.2.2.1 0 = nI s) (hs4 : s ≤ 4) : ∃ A, (∀ ν, IC Z ν → CH Z.1.2.2.1 ν → RP 8 Z.1 ν → ∃ ν', f_X8_wanting_L77 (nI x) (nI m) (i01 l) (fun z4_18 ν_19 => some (z4_18, ν_19)) FU (-1) 0 ν = some (fI A, ν') ∧ IC Z ν' ∧ nEq (fun q => q < 53) ν ν') ∧ (∀ ν, IM Z ν → ∃ ν', f_X9_wanting_L58 (nI x) (nI m) (i01 l) (Z.1.2.1 2 x) (fun z5_18 ν_19 => if inb (nI x) 7 = true then qL (nWI ν_19 56 (nI x).toNatClampNeg (Z.1.2.1 2 x)) (fun ν_21 => some (z5_18, ν_21)) else none) FU (-1) 0 ν = some (fI A, ν') ∧ IM Z ν' ∧ nEq (fun q => 53 ≤ q) ν ν') := by
  have hc7 := hZ.1.1
  have hx7 : x < 7 := by omega
  have h8 := fun ν h hC => wn_8L (l := l) (k := fun z4_18 ν_19 => some (z4_18, ν_19)) hZ hx hm hs hs4 21 FU 0 ν (Z.1.2.1 2 x) rfl (by decide) h hC
  have hU := fun ν h => wn_9U (y4 := Z.1.2.1 2 x) (k := fun z5_18 ν_19 => if inb (nI x) 7 = true then qL (nWI ν_19 56 (nI x).toNatClampNeg (Z.1.2.1 2 x)) (fun ν_21 => some (z5_18, ν_21)) else none) hZ hx hm hs hs4 21 FU 0 ν (Z.1.2.1 2 x) rfl (by decide) h
  have hD := fun ν h => wn_9D (y4 := Z.1.2.1 2 x) (k := fun z5_18 ν_19 => if inb (nI x) 7 = true then qL (nWI ν_19 56 (nI x).toNatClampNeg (Z.1.2.1 2 x)) (fun ν_21 => some (z5_18, ν_21)) else none) hZ hx hm hs hs4 21 FU 0 ν (Z.1.2.1 2 x) rfl (by decide) h
  rw [zA_self] at hU hD
  rw [pA_self] at h8
  have e0 : ∀ l, fI (wnF (wnP Z.1 x m s) l 0) = -1 := fun l => by rw [wnF]; rfl
  have e1 : fI (fmi (wnP Z.1 x m s) (21 - 0) 0) = -1 := by rw [fmi]; rfl
  rw [e0] at h8 hU
  rw [e1, ← wf_fmi 21 (by decide)] at hD
  refine ⟨wnF (wnP Z.1 x m s) l 21, fun ν h hC h3 => ?_, fun ν h => ?_⟩
  · generalize wnF (wnP Z.1 x m s) l 21 = A at h8 ⊢
    obtain ⟨ν', c1, c2⟩ := h8 ν h3 hC
    exact ⟨ν', c1, h.sc c2 (fun a z => by unfold scC; omega), c2.mono (fun a z => by show a < 53; omega)⟩
  · have h9 : ∃ ν' u', f_X9_wanting_L58 (nI x) (nI m) (i01 l) (Z.1.2.1 2 x) (fun z5_18 ν_19 => if inb (nI x) 7 = true then qL (nWI ν_19 56 (nI x).toNatClampNeg (Z.1.2.1 2 x)) (fun ν_21 => some (z5_18, ν_21)) else none) FU (-1) (nI 0) ν = (if inb (nI x) 7 = true then qL (nWI ν' 56 (nI x).toNatClampNeg (Z.1.2.1 2 x)) (fun ν_21 => some (fI (wnF (wnP Z.1 x m s) l 21), ν_21)) else none) ∧ IM (zP (pA 2 x u') Z) ν' ∧ nEq (fun q => 53 ≤ q) ν ν' := by
      cases l with
      | true => exact hU ν h
      | false => exact hD ν h
    generalize wnF (wnP Z.1 x m s) l 21 = A at h9 ⊢
    obtain ⟨ν1, u', c1, c2, c3⟩ := h9
    have h2 := c2.a (j := 2) (i := x) (x := Z.1.2.1 2 x) (by decide) hx7
    rw [zA_zA, zA_self] at h2
    refine ⟨nWI ν1 56 x (Z.1.2.1 2 x), ?_, h2, c3.wi (by decide)⟩
    refine Eq.trans c1 ?_
    rw [if_pos (ib_in hx7 (by decide)), nI_clamp (by omega), ql]
theorem op_wanting (x y w : Int32) {Z : zS} (hZ : okZ Z) : both (f_X8_wanting x y w) (f_X9_wanting x y w) Z := by
  have hc := hZ.1.1
  rcases (rng x Z.1.1 (by omega)).symm with hx | ⟨i, hi, rfl⟩
  · refine both_no (a := -11) 1 (by decide) hZ (fun ν h => ?_) (fun ν h => ?_)
    · simp only [f_X8_wanting, per_out h.1 hx, Option.bind_some, ↓reduceIte, ra_1]
    · simp only [f_X9_wanting, one_out h.1 hc hx, Option.bind_some, ↓reduceIte, nt_1]
  have hi7 : i < 7 := by omega
  by_cases hw : w = 0 ∨ w = 1
  · have hb01 : bt w 0 1 = true := by rcases hw with rfl | rfl <;> decide
    obtain ⟨l, rfl⟩ : ∃ l, w = i01 l := by
      rcases hw with rfl | rfl
      · exact ⟨false, rfl⟩
      · exact ⟨true, rfl⟩
    cases hb : bt y 0 30 with
    | false =>
      refine both_no (a := -16) 6 (by decide) hZ (fun ν h => ?_) (fun ν h => ?_)
      · cases l with
        | false => simp only [f_X8_wanting, per_in h.1 hc hi, ahd8, hb, i01_f, Option.bind_some, ↓reduceIte, b1, ra_6]
        | true => simp only [f_X8_wanting, per_in h.1 hc hi, ahd8, hb, i01_f, i01_1, Option.bind_some, ↓reduceIte, b1, ra_6]
      · simp only [f_X9_wanting, one_in h.1 hc hi, bw9, hb01, i01_1, tim9, hb, i01_f, Option.bind_some, ↓reduceIte, b1, nt_6]
    | true =>
      obtain ⟨m, _, hm, rfl⟩ := bt_of (a := 0) (b := 30) (by decide) (by decide) hb
      obtain ⟨s, hs4, hs⟩ := hZ.w0
      obtain ⟨A, h8, h9⟩ := wn_E (m := m) l hZ hi (by omega) hs hs4
      refine ⟨fI A, Z, hZ, fun ν h => ?_, fun ν h => ?_⟩
      · obtain ⟨ν1, a1, a2, a3⟩ := ch8 (F := Z.1.2.2.1) ν h.1.2.2.1
        have h1 : IC Z ν1 := h.sc a3 (fun a z => by unfold scC; omega)
        obtain ⟨ν2, c1, c2, c3⟩ := tf8 (p0 := 8) (p1 := 1) h1.1 (by omega)
        have h2 : IC Z ν2 := h1.sc c3 (fun a z => by unfold scC; omega)
        obtain ⟨ν', e1, e2, e3⟩ := h8 ν2 h2 (a2.eq c3 (by omega)) c2
        refine ⟨ν', ?_, e2, ((a3.c (fun a z => by omega)).tr (c3.c (fun a z => by omega))).tr e3⟩
        rw [f_X8_wanting, per_in h.1 hc hi, Option.bind_some, if_neg (show ¬ (1 : Int32) = 0 by decide)]
        cases l with
        | false =>
          rw [if_pos (show i01 false = 0 from rfl)]
          show (f_X8_isAhead (nI m) ν).bind _ = _
          rw [ahd8, hb, Option.bind_some, if_neg (show ¬ i01 true = 0 by decide)]
          show (f_X7_chart (ν.2 1 7) ν).bind _ = _
          rw [a1, Option.bind_some, c1, Option.bind_some]
          exact e1
        | true =>
          rw [if_neg (show ¬ i01 true = 0 by decide), if_pos (show i01 true = 1 from rfl)]
          show (f_X8_isAhead (nI m) ν).bind _ = _
          rw [ahd8, hb, Option.bind_some, if_neg (show ¬ i01 true = 0 by decide)]
          show (f_X7_chart (ν.2 1 7) ν).bind _ = _
          rw [a1, Option.bind_some, c1, Option.bind_some]
          exact e1
      · obtain ⟨ν', e1, e2, e3⟩ := h9 ν h
        refine ⟨ν', ?_, e2, e3⟩
        rw [f_X9_wanting, one_in h.1 hc hi, Option.bind_some, if_neg (show ¬ (1 : Int32) = 0 by decide)]
        show (f_X9_within (i01 l) 0 1 ν).bind _ = _
        rw [bw9, hb01, Option.bind_some, if_neg (show ¬ i01 true = 0 by decide)]
        show (f_X9_isTime (nI m) ν).bind _ = _
        rw [tim9, hb, Option.bind_some, if_neg (show ¬ i01 true = 0 by decide), if_pos (ib_in hi7 (by decide))]
        show f_X9_wanting_L58 (nI i) (nI m) (i01 l) (ν.1 56 (nI i).toNatClampNeg) (fun z5_18 ν_19 => if inb (nI i) 7 = true then qL (nWI ν_19 56 (nI i).toNatClampNeg (ν.1 56 (nI i).toNatClampNeg)) (fun ν_21 => some (z5_18, ν_21)) else none) FU (-1) 0 ν = _
        rw [show ν.1 56 (nI i).toNatClampNeg = Z.1.2.1 2 i from by rw [nI_clamp (by omega)]; exact h.1.c2 hi7]
        exact e1
  · simp only [not_or] at hw
    have hb01 : bt w 0 1 = false := by
      cases hb : bt w 0 1 with
      | false => rfl
      | true =>
        obtain ⟨k, hk, hk2, rfl⟩ := bt_of (a := 0) (b := 1) (by decide) (by decide) hb
        have : k = 0 ∨ k = 1 := by omega
        rcases this with rfl | rfl
        · exact absurd rfl hw.1
        · exact absurd rfl hw.2
    refine both_no (a := -15) 5 (by decide) hZ (fun ν h => ?_) (fun ν h => ?_)
    · simp only [f_X8_wanting, per_in h.1 hc hi, hw.1, hw.2, ↓reduceIte, ra_5, Option.bind_some, b1]
    · simp only [f_X9_wanting, one_in h.1 hc hi, bw9, hb01, i01_f, ↓reduceIte, nt_5, Option.bind_some, b1]
