/-! THE CHOSEN: who is furthest, who is elected -/
theorem or_2 : ∀ m, m < 128 → ∀ p, p < 128 → nI m ||| nI p = nI (m ||| p) := by decide +kernel
theorem or_lt {m p : Nat} (h : m < 128) (h2 : p < 128) : m ||| p < 128 := Nat.or_lt_two_pow (n := 7) h h2
theorem bit_u : ∀ m, m < 128 → ∀ i, i < 7 → (j_ushr (nI m) (nI i) &&& 1 = 0) = (m.testBit i = false) := by
  have h : ∀ m, m < 128 → ∀ i, i < 7 → decide (j_ushr (nI m) (nI i) &&& 1 = 0) = decide (m.testBit i = false) := by decide +kernel
  intro m hm i hi
  exact propext (decide_eq_decide.mp (h m hm i hi))
theorem bit_s : ∀ m, m < 128 → ∀ i, i < 7 → (j_shr (nI m) (nI i) &&& 1 = 1) = (m.testBit i = true) := by
  have h : ∀ m, m < 128 → ∀ i, i < 7 → decide (j_shr (nI m) (nI i) &&& 1 = 1) = decide (m.testBit i = true) := by decide +kernel
  intro m hm i hi
  exact propext (decide_eq_decide.mp (h m hm i hi))
theorem bit_s0 : ∀ m, m < 128 → ∀ i, i < 7 → (j_shr (nI m) (nI i) &&& 1 = 0) = (m.testBit i = false) := by
  have h : ∀ m, m < 128 → ∀ i, i < 7 → decide (j_shr (nI m) (nI i) &&& 1 = 0) = decide (m.testBit i = false) := by decide +kernel
  intro m hm i hi
  exact propext (decide_eq_decide.mp (h m hm i hi))
theorem in8 {m i : Nat} (ν : gN) (hm : m < 128) (hi : i < 7) : f_X8_isIn (nI m) (nI i) ν = some (i01 (m.testBit i), ν) := by
  rw [f_X8_isIn]
  cases h : m.testBit i with
  | false => rw [if_pos (by rw [bit_u m hm i hi]; exact h)]; rfl
  | true => rw [if_neg (by rw [bit_u m hm i hi, h]; decide)]; rfl
theorem and_no : ∀ m, m < 128 → ∀ p, p < 128 → nI m &&& (nI p ^^^ (-1)) = nI (m &&& (127 - p)) := by decide +kernel
theorem no_bit : ∀ p, p < 128 → ∀ i, i < 7 → (127 - p).testBit i = !p.testBit i := by decide +kernel
theorem p2_lt {i : Nat} (h : i < 7) : 2 ^ i < 128 := Nat.pow_lt_pow_right (m := i) (n := 7) (by decide) h
/-- the furthest of P by d, the first of equals; 99 if none -/
def fur (P : Nat → Bool) (d : Nat → Nat) : Nat → Nat
  | 0 => 99
  | n + 1 => if P n = true then (if fur P d n = 99 then n else if d n ≤ d (fur P d n) then fur P d n else n) else fur P d n
theorem fur_lt {P : Nat → Bool} {d : Nat → Nat} : ∀ n, fur P d n < n ∨ fur P d n = 99
  | 0 => Or.inr rfl
  | n + 1 => by
    have ih := fur_lt (P := P) (d := d) n
    rw [fur]
    split
    · split
      · exact Or.inl (Nat.lt_succ_self n)
      · split
        · omega
        · exact Or.inl (Nat.lt_succ_self n)
    · omega
theorem fur_cong {P Q : Nat → Bool} {d e : Nat → Nat} : ∀ n, (∀ i, i < n → P i = Q i) → (∀ i, i < n → d i = e i) → fur P d n = fur Q e n
  | 0, _, _ => rfl
  | n + 1, h, hd => by
    have ih := fur_cong n (fun i hi => h i (by omega)) (fun i hi => hd i (by omega))
    have hl := fur_lt (P := Q) (d := e) n
    rw [fur, fur, ih, h n (by omega), hd n (by omega)]
    by_cases z : fur Q e n = 99
    · rw [if_pos z, if_pos z]
    · rw [if_neg z, if_neg z, hd _ (by omega)]
def fI (f : Nat) : Int32 := if f = 99 then -1 else nI f
theorem fI_m1 {f : Nat} (h : f < 7 ∨ f = 99) : (fI f = -1) = (f = 99) := by
  apply propext
  unfold fI
  by_cases z : f = 99
  · rw [if_pos z]; exact ⟨fun _ => z, fun _ => rfl⟩
  · rw [if_neg z]
    exact ⟨fun q => absurd q (fun e => nI_pos (n := f) (by omega) (by rw [e]; decide)), fun q => absurd q z⟩
/-- where they are now: cell 31 and the distances of cell 25 -/
def AT (S : pS) (g : Nat → Nat) (ν : gN) : Prop := (∀ i, i < S.1 → ν.1 31 i = nI (g i) ∧ g i < 49) ∧ TT 25 (dst S.2.2.1 24) ν
theorem fu_8 {p m : Nat} {S : pS} {g : Nat → Nat} {ν : gN} {k : Int32 → gN → Option (Int32 × gN)} (h : RP p S ν) (hc : S.1 ≤ 7) (hA : AT S g ν) (hm : m < 128) : ∀ j n i, i + j = S.1 → j < n → f_X2_furthest_L9 p (nI m) k n (fI (fur (fun q => !m.testBit q && decide (dst S.2.2.1 24 (g q) ≠ 99)) (fun q => dst S.2.2.1 24 (g q)) i)) (if fur (fun q => !m.testBit q && decide (dst S.2.2.1 24 (g q) ≠ 99)) (fun q => dst S.2.2.1 24 (g q)) i = 99 then -1 else nI (dst S.2.2.1 24 (g (fur (fun q => !m.testBit q && decide (dst S.2.2.1 24 (g q) ≠ 99)) (fun q => dst S.2.2.1 24 (g q)) i)))) (nI i) ν = k (fI (fur (fun q => !m.testBit q && decide (dst S.2.2.1 24 (g q) ≠ 99)) (fun q => dst S.2.2.1 24 (g q)) S.1)) ν := by
  intro j
  induction j with
  | zero =>
    intro n i hi hn
    obtain ⟨n, rfl⟩ : ∃ m, n = m + 1 := ⟨n - 1, by omega⟩
    have e : i = S.1 := by omega
    rw [f_X2_furthest_L9, h.1, e, if_pos (nI_le (Nat.le_refl _) (by omega))]
  | succ j ih =>
    intro n i hi hn
    obtain ⟨n, rfl⟩ : ∃ m, n = m + 1 := ⟨n - 1, by omega⟩
    have hi' : i < S.1 := by omega
    have hi7 : i < 7 := by omega
    have ih := ih n (i + 1) (by omega) (by omega)
    obtain ⟨a1, a2⟩ := hA.1 i hi'
    have hd := dst_le S.2.2.1 24 (g i)
    rw [f_X2_furthest_L9, h.1, if_neg (nI_ge hi' (by omega)), if_pos (ib_in hi7 (by decide)), nI_clamp (by omega), a1, if_pos (ib_in a2 (by decide)), in8 ν hm hi7, Option.bind_some, nI_clamp (by omega), hA.2 _ a2, nI_1]
    have e9 : nI (dst S.2.2.1 24 (g i)) = 99 ↔ dst S.2.2.1 24 (g i) = 99 := eq_nc (c := 99) (k := 99) rfl (by omega) (by decide)
    rw [fur] at ih
    cases hb : m.testBit i with
    | true =>
      rw [if_neg (show ¬ (i01 true, ν).1 = 0 from by show ¬ i01 true = 0; decide)]
      rw [if_neg (show ¬ (!m.testBit i && decide (dst S.2.2.1 24 (g i) ≠ 99)) = true by simp [hb])] at ih
      exact ih
    | false =>
      rw [if_pos (show (i01 false, ν).1 = 0 from rfl)]
      by_cases h99 : dst S.2.2.1 24 (g i) = 99
      · rw [if_pos (e9.mpr h99)]
        rw [if_neg (show ¬ (!m.testBit i && decide (dst S.2.2.1 24 (g i) ≠ 99)) = true by simp [h99])] at ih
        exact ih
      · rw [if_neg (fun q => h99 (e9.mp q))]
        rw [if_pos (show (!m.testBit i && decide (dst S.2.2.1 24 (g i) ≠ 99)) = true by simp [hb, h99])] at ih
        generalize hf : fur (fun q => !m.testBit q && decide (dst S.2.2.1 24 (g q) ≠ 99)) (fun q => dst S.2.2.1 24 (g q)) i = f at ih ⊢
        by_cases hf9 : f = 99
        · rw [if_pos hf9]
          rw [if_pos hf9] at ih
          rw [if_neg (show ¬ nI (dst S.2.2.1 24 (g i)) ≤ -1 from by
            rw [Int32.le_iff_toInt_le, nI_toInt (by omega)]
            show ¬ (_ : Int) ≤ -1
            omega)]
          rw [if_neg (show ¬ i = 99 by omega)] at ih
          rw [show fI i = nI i from if_neg (by omega)] at ih
          exact ih
        · rw [if_neg hf9]
          rw [if_neg hf9] at ih
          have hdf := dst_le S.2.2.1 24 (g f)
          by_cases hl : dst S.2.2.1 24 (g i) ≤ dst S.2.2.1 24 (g f)
          · rw [if_pos (nI_le hl (by omega))]
            rw [if_pos hl, if_neg hf9] at ih
            exact ih
          · rw [if_neg (nI_ge (by omega) (by omega))]
            rw [if_neg hl, if_neg (show ¬ i = 99 by omega), show fI i = nI i from if_neg (by omega)] at ih
            exact ih
theorem fur8 {p m : Nat} {S : pS} {g : Nat → Nat} {ν : gN} (h : RP p S ν) (hc : S.1 ≤ 7) (hA : AT S g ν) (hm : m < 128) : f_X2_furthest p (nI m) ν = some (fI (fur (fun q => !m.testBit q && decide (dst S.2.2.1 24 (g q) ≠ 99)) (fun q => dst S.2.2.1 24 (g q)) S.1), ν) := by
  rw [f_X2_furthest]
  exact fu_8 (k := fun z4_5 ν_6 => some (z4_5, ν_6)) h hc hA hm S.1 FU 0 (by omega) (by unfold FU; omega)
/-- those put out, as a set -/
theorem sa_L {p : Nat} {S : pS} {ν : gN} {k : Int32 → gN → Option (Int32 × gN)} (h : RP p S ν) (hc : S.1 ≤ 7) : ∀ j n i, i + j = S.1 → j < n → f_X4_smellingAbove_L4 p (S.2.2.2.1 1) k n (nI (msk (ouS S) i)) (nI i) ν = k (nI (msk (ouS S) S.1)) ν := by
  intro j
  induction j with
  | zero =>
    intro n i hi hn
    obtain ⟨n, rfl⟩ : ∃ m, n = m + 1 := ⟨n - 1, by omega⟩
    have e : i = S.1 := by omega
    rw [f_X4_smellingAbove_L4, h.1, e, if_pos (nI_le (Nat.le_refl _) (by omega))]
  | succ j ih =>
    intro n i hi hn
    obtain ⟨n, rfl⟩ : ∃ m, n = m + 1 := ⟨n - 1, by omega⟩
    have hi7 : i < 7 := by omega
    have hm : msk (ouS S) i < 128 := mlt (c := S.1) (by omega) hc
    rw [f_X4_smellingAbove_L4, h.1, if_neg (nI_ge (by omega) (by omega)), sm8 h hi7, Option.bind_some, nI_1, or_0, or_k _ hm _ hi7]
    have hs := ih n (i + 1) (by omega) (by omega)
    rw [msk] at hs
    by_cases hq : smS S i ≤ S.2.2.2.1 1
    · rw [if_pos hq]
      rw [if_neg (show ¬ ouS S i = true by simp [ouS, hq])] at hs
      exact hs
    · rw [if_neg hq]
      rw [if_pos (show ouS S i = true by simp [ouS, hq])] at hs
      exact hs
theorem sa8 {p : Nat} {S : pS} {ν : gN} (h : RP p S ν) (hc : S.1 ≤ 7) : f_X4_smellingAbove p (ν.1 p 9) ν = some (nI (msk (ouS S) S.1), ν) := by
  rw [f_X4_smellingAbove, show ν.1 p 9 = S.2.2.2.1 1 from h.2.2.2.1 1 (by decide)]
  exact sa_L (k := fun z2_3 ν_4 => some (z2_3, ν_4)) h hc S.1 FU 0 (by omega) (by unfold FU; omega)
theorem on_out {S : pS} {ν : gN} {k : Int32 → gN → Option (Int32 × gN)} (h : RM S ν) (hc : S.1 ≤ 7) : ∀ j n i, i + j = S.1 → j < n → f_X9_outNow_L4 k n (nI (msk (ouS S) i)) (nI i) ν = k (nI (msk (ouS S) S.1)) ν := by
  intro j
  induction j with
  | zero =>
    intro n i hi hn
    obtain ⟨n, rfl⟩ : ∃ m, n = m + 1 := ⟨n - 1, by omega⟩
    have e : i = S.1 := by omega
    rw [f_X9_outNow_L4, h.1, e, if_pos (nI_le (Nat.le_refl _) (by omega))]
  | succ j ih =>
    intro n i hi hn
    obtain ⟨n, rfl⟩ : ∃ m, n = m + 1 := ⟨n - 1, by omega⟩
    have hi7 : i < 7 := by omega
    have hm : msk (ouS S) i < 128 := mlt (c := S.1) (by omega) hc
    rw [f_X9_outNow_L4, h.1, if_neg (nI_ge (by omega) (by omega)), ou9 h hi7, Option.bind_some, nI_1, or_k _ hm _ hi7]
    have hs := ih n (i + 1) (by omega) (by omega)
    rw [msk] at hs
    cases hq : ouS S i with
    | false =>
      rw [if_pos (show (i01 false, ν).1 = 0 from rfl)]
      rw [if_neg (show ¬ ouS S i = true by simp [hq])] at hs
      exact hs
    | true =>
      rw [if_neg (show ¬ (i01 true, ν).1 = 0 from by show ¬ i01 true = 0; decide)]
      rw [if_pos hq] at hs
      exact hs
theorem out9 {S : pS} {ν : gN} (h : RM S ν) (hc : S.1 ≤ 7) : f_X9_outNow ν = some (nI (msk (ouS S) S.1), ν) := by
  rw [f_X9_outNow]
  exact on_out (k := fun z ν => some (z, ν)) h hc S.1 FU 0 (by omega) (by unfold FU; omega)
theorem fl_8L {p : Nat} {S : pS} {ν : gN} {k : Int32 → gN → Option (Int32 × gN)} (h : RP p S ν) (hc : S.1 ≤ 7) : ∀ j n i, i + j = S.1 → j < n → f_X4_fleeing_L4 p k n (nI (msk (flS S) i)) (nI i) ν = k (nI (msk (flS S) S.1)) ν := by
  intro j
  induction j with
  | zero =>
    intro n i hi hn
    obtain ⟨n, rfl⟩ : ∃ m, n = m + 1 := ⟨n - 1, by omega⟩
    have e : i = S.1 := by omega
    rw [f_X4_fleeing_L4, h.1, e, if_pos (nI_le (Nat.le_refl _) (by omega))]
  | succ j ih =>
    intro n i hi hn
    obtain ⟨n, rfl⟩ : ∃ m, n = m + 1 := ⟨n - 1, by omega⟩
    have hi7 : i < 7 := by omega
    have hm : msk (flS S) i < 128 := mlt (c := S.1) (by omega) hc
    rw [f_X4_fleeing_L4, h.1, if_neg (nI_ge (by omega) (by omega)), fl8 h hi7, Option.bind_some, nI_1, or_0, or_k _ hm _ hi7]
    have hs := ih n (i + 1) (by omega) (by omega)
    rw [msk] at hs
    cases hq : flS S i with
    | false =>
      rw [if_pos (show (i01 false, ν).1 = 0 from rfl)]
      rw [if_neg (show ¬ flS S i = true by simp [hq])] at hs
      exact hs
    | true =>
      rw [if_neg (show ¬ (i01 true, ν).1 = 0 from by show ¬ i01 true = 0; decide)]
      rw [if_pos hq] at hs
      exact hs
theorem flm8 {p : Nat} {S : pS} {ν : gN} (h : RP p S ν) (hc : S.1 ≤ 7) : f_X4_fleeing p ν = some (nI (msk (flS S) S.1), ν) := by
  rw [f_X4_fleeing]
  exact fl_8L (k := fun z ν => some (z, ν)) h hc S.1 FU 0 (by omega) (by unfold FU; omega)
theorem fl_9L {S : pS} {ν : gN} {k : Int32 → gN → Option (Int32 × gN)} (h : RM S ν) (hc : S.1 ≤ 7) : ∀ j n i, i + j = S.1 → j < n → f_X9_fleeing_L4 k n (nI (msk (flS S) i)) (nI i) ν = k (nI (msk (flS S) S.1)) ν := by
  intro j
  induction j with
  | zero =>
    intro n i hi hn
    obtain ⟨n, rfl⟩ : ∃ m, n = m + 1 := ⟨n - 1, by omega⟩
    have e : i = S.1 := by omega
    rw [f_X9_fleeing_L4, h.1, e, if_pos (nI_le (Nat.le_refl _) (by omega))]
  | succ j ih =>
    intro n i hi hn
    obtain ⟨n, rfl⟩ : ∃ m, n = m + 1 := ⟨n - 1, by omega⟩
    have hi7 : i < 7 := by omega
    have hm : msk (flS S) i < 128 := mlt (c := S.1) (by omega) hc
    rw [f_X9_fleeing_L4, h.1, if_neg (nI_ge (by omega) (by omega)), fl9 h hi7, Option.bind_some, nI_1, or_k _ hm _ hi7]
    have hs := ih n (i + 1) (by omega) (by omega)
    rw [msk] at hs
    cases hq : flS S i with
    | false =>
      rw [if_pos (show (i01 false, ν).1 = 0 from rfl)]
      rw [if_neg (show ¬ flS S i = true by simp [hq])] at hs
      exact hs
    | true =>
      rw [if_neg (show ¬ (i01 true, ν).1 = 0 from by show ¬ i01 true = 0; decide)]
      rw [if_pos hq] at hs
      exact hs
theorem flm9 {S : pS} {ν : gN} (h : RM S ν) (hc : S.1 ≤ 7) : f_X9_fleeing ν = some (nI (msk (flS S) S.1), ν) := by
  rw [f_X9_fleeing]
  exact fl_9L (k := fun z ν => some (z, ν)) h hc S.1 FU 0 (by omega) (by unfold FU; omega)
/-- who may be chosen; the picks -/
noncomputable def elg (S : pS) (g : Nat → Nat) (ex : Nat → Bool) (i : Nat) : Bool := !ouS S i && !ex i && decide (dst S.2.2.1 24 (g i) ≠ 99)
noncomputable def pck (S : pS) (g : Nat → Nat) (ex : Nat → Bool) : Nat → Nat
  | 0 => 0
  | n + 1 => if fur (fun i => elg S g ex i && !(pck S g ex n).testBit i) (fun q => dst S.2.2.1 24 (g q)) S.1 = 99 then pck S g ex n else pck S g ex n ||| 2 ^ fur (fun i => elg S g ex i && !(pck S g ex n).testBit i) (fun q => dst S.2.2.1 24 (g q)) S.1
theorem pck_lt {S : pS} {g : Nat → Nat} {ex : Nat → Bool} (hc : S.1 ≤ 7) : ∀ n, pck S g ex n < 128
  | 0 => by rw [pck]; decide
  | n + 1 => by
    have ih := pck_lt (g := g) (ex := ex) hc n
    rw [pck]
    split
    · exact ih
    · next h =>
      have := fur_lt (P := fun i => elg S g ex i && !(pck S g ex n).testBit i) (d := fun q => dst S.2.2.1 24 (g q)) S.1
      exact or_lt ih (p2_lt (by omega))
theorem el_8 {p xm s : Nat} {S : pS} {g : Nat → Nat} {ν : gN} {k : Int32 → gN → Option (Int32 × gN)} (h : RP p S ν) (hc : S.1 ≤ 7) (hA : AT S g ν) (hx : xm < 128) (hs : S.2.2.2.1 0 = nI s) (hs4 : s ≤ 4) : ∀ j n i, i + j = s → j < n → f_X2_elect_L18 p (nI (xm ||| msk (ouS S) S.1)) k n (nI (pck S g (fun q => xm.testBit q) i)) (nI i) ν = k (nI (pck S g (fun q => xm.testBit q) s)) ν := by
  intro j
  induction j with
  | zero =>
    intro n i hi hn
    obtain ⟨n, rfl⟩ : ∃ m, n = m + 1 := ⟨n - 1, by omega⟩
    have e : i = s := by omega
    rw [f_X2_elect_L18, show ν.1 p 8 = nI s from (h.2.2.2.1 0 (by decide)).trans hs, e, if_pos (nI_le (Nat.le_refl _) (by omega))]
  | succ j ih =>
    intro n i hi hn
    obtain ⟨n, rfl⟩ : ∃ m, n = m + 1 := ⟨n - 1, by omega⟩
    have ih := ih n (i + 1) (by omega) (by omega)
    have hm : msk (ouS S) S.1 < 128 := mlt (Nat.le_refl _) hc
    have hp := pck_lt (g := g) (ex := fun q => xm.testBit q) hc i
    have hf := fur_lt (P := fun q => elg S g (fun q => xm.testBit q) q && !(pck S g (fun q => xm.testBit q) i).testBit q) (d := fun q => dst S.2.2.1 24 (g q)) S.1
    have e : fur (fun q => !(xm ||| msk (ouS S) S.1 ||| pck S g (fun q => xm.testBit q) i).testBit q && decide (dst S.2.2.1 24 (g q) ≠ 99)) (fun q => dst S.2.2.1 24 (g q)) S.1 = fur (fun q => elg S g (fun q => xm.testBit q) q && !(pck S g (fun q => xm.testBit q) i).testBit q) (fun q => dst S.2.2.1 24 (g q)) S.1 := by
      refine fur_cong S.1 (fun q hq => ?_) (fun _ _ => rfl)
      show (!(xm ||| msk (ouS S) S.1 ||| pck S g (fun q => xm.testBit q) i).testBit q && _) = (elg S g (fun q => xm.testBit q) q && !(pck S g (fun q => xm.testBit q) i).testBit q)
      rw [Nat.testBit_or, Nat.testBit_or, msk_bit, decide_eq_true hq, Bool.true_and, elg]
      cases xm.testBit q <;> cases ouS S q <;> cases (pck S g (fun q => xm.testBit q) i).testBit q <;> simp
    rw [f_X2_elect_L18, show ν.1 p 8 = nI s from (h.2.2.2.1 0 (by decide)).trans hs, if_neg (nI_ge (by omega) (by omega)), or_2 _ (or_lt hx hm) _ hp, fur8 h hc hA (or_lt (or_lt hx hm) hp), Option.bind_some, e, nI_1]
    rw [pck] at ih
    generalize hff : fur (fun q => elg S g (fun q => xm.testBit q) q && !(pck S g (fun q => xm.testBit q) i).testBit q) (fun q => dst S.2.2.1 24 (g q)) S.1 = f at ih hf ⊢
    by_cases z : f = 99
    · rw [if_pos (by rw [fI_m1 (by omega)]; exact z)]
      rw [if_pos z] at ih
      exact ih
    · rw [if_neg (by rw [fI_m1 (by omega)]; exact z), show fI f = nI f from if_neg z, or_k _ hp _ (by omega)]
      rw [if_neg z] at ih
      exact ih
theorem elect8 {p xm s : Nat} {S : pS} {g : Nat → Nat} {ν : gN} (h : RP p S ν) (hc : S.1 ≤ 7) (hA : AT S g ν) (hx : xm < 128) (hs : S.2.2.2.1 0 = nI s) (hs4 : s ≤ 4) : f_X2_elect p (nI xm) ν = some (nI (pck S g (fun q => xm.testBit q) s), ν) := by
  rw [f_X2_elect, sa8 h hc, Option.bind_some, or_2 _ hx _ (mlt (Nat.le_refl _) hc)]
  exact el_8 (k := fun z ν => some (z, ν)) h hc hA hx hs hs4 s FU 0 (by omega) (by unfold FU; omega)
/-! the reference -/
theorem FC.fe {S : pS} {ν ν' : gN} (e : mEq fP ν ν') {b : Nat} (hb : b ≠ 24) : ν'.1 53 b = ν.1 53 b := (e 53 b (by unfold fP; omega)).1
theorem le99 {d : Nat} (h : d ≤ 99) : ((99 : Int32) ≤ nI d) = (d = 99) := by
  rw [propext (le_cn (c := 99) (k := 99) rfl (by omega) (by decide))]
  exact propext ⟨fun _ => by omega, fun _ => by omega⟩
theorem ce_L {S : pS} {g : Nat → Nat} {ex : Nat → Bool} {k : Int32 → gN → Option (Int32 × gN)} (hc : S.1 ≤ 7) (h0 : S.2.2.1 24 = false) (hg : ∀ i, i < S.1 → S.2.1 4 i = nI (g i) ∧ g i < 49) : ∀ j n i ν, i + j = S.1 → j < n → FC S ν → (∀ q, q < S.1 → (nI q = ν.1 53 28) = (ex q = true)) → ∃ ν', f_X9_chosenNow_L4 k n (nI (msk (elg S g ex) i)) (nI i) ν = k (nI (msk (elg S g ex) S.1)) ν' ∧ FC S ν' ∧ mEq fP ν ν' := by
  intro j
  induction j with
  | zero =>
    intro n i ν hi hn h hex
    obtain ⟨n, rfl⟩ : ∃ m, n = m + 1 := ⟨n - 1, by omega⟩
    have e : i = S.1 := by omega
    exact ⟨ν, by rw [f_X9_chosenNow_L4, h.1.1, e, if_pos (nI_le (Nat.le_refl _) (by omega))], h, mEq.rf⟩
  | succ j ih =>
    intro n i ν hi hn h hex
    obtain ⟨n, rfl⟩ : ∃ m, n = m + 1 := ⟨n - 1, by omega⟩
    have hi' : i < S.1 := by omega
    have hi7 : i < 7 := by omega
    have hm : msk (elg S g ex) i < 128 := mlt (c := S.1) (by omega) hc
    have ih := fun ν' => ih n (i + 1) ν' (by omega) (by omega)
    rw [msk] at ih
    rw [f_X9_chosenNow_L4, h.1.1, if_neg (nI_ge hi' (by omega)), nI_1]
    by_cases hx : ex i = true
    · rw [if_pos (by rw [hex i hi']; exact hx)]
      rw [if_neg (show ¬ elg S g ex i = true by simp [elg, hx])] at ih
      exact ih ν h hex
    · rw [if_neg (by rw [hex i hi']; exact hx), ou9 h.1 hi7, Option.bind_some]
      cases ho : ouS S i with
      | true =>
        rw [if_neg (show ¬ (i01 true, ν).1 = 0 from by show ¬ i01 true = 0; decide)]
        rw [if_neg (show ¬ elg S g ex i = true by simp [elg, ho])] at ih
        exact ih ν h hex
      | false =>
        obtain ⟨a1, a2⟩ := hg i hi'
        obtain ⟨ν1, e1, e2, e3⟩ := fo9 h h0 a2
        have hex1 : ∀ q, q < S.1 → (nI q = ν1.1 53 28) = (ex q = true) := fun q hq => by rw [(e3 53 28 (by unfold fP; omega)).1]; exact hex q hq
        rw [if_pos (show (i01 false, ν).1 = 0 from rfl), if_pos (ib_in hi7 (by decide)), nI_clamp (by omega), h.1.c4 hi7, a1, e1, Option.bind_some, or_k _ hm _ hi7]
        by_cases h9 : dst S.2.2.1 24 (g i) = 99
        · rw [if_pos (by rw [le99 (dst_le _ _ _)]; exact h9)]
          rw [if_neg (show ¬ elg S g ex i = true by simp [elg, h9])] at ih
          obtain ⟨ν', f1, f2, f3⟩ := ih ν1 e2 hex1
          exact ⟨ν', f1, f2, e3.tr f3⟩
        · rw [if_neg (by rw [le99 (dst_le _ _ _)]; exact h9)]
          rw [if_pos (show elg S g ex i = true by simp [elg, h9, ho, hx])] at ih
          obtain ⟨ν', f1, f2, f3⟩ := ih ν1 e2 hex1
          exact ⟨ν', f1, f2, e3.tr f3⟩
theorem fu_9 {m : Nat} {S : pS} {g : Nat → Nat} {k : Int32 → gN → Option (Int32 × gN)} (hc : S.1 ≤ 7) (h0 : S.2.2.1 24 = false) (hg : ∀ i, i < S.1 → S.2.1 4 i = nI (g i) ∧ g i < 49) (hm : m < 128) : ∀ j n i ν, i + j = S.1 → j < n → FC S ν → ∃ ν', f_X9_furthest_L4 (nI m) k n (fI (fur (fun q => m.testBit q) (fun q => dst S.2.2.1 24 (g q)) i)) (nI i) ν = k (fI (fur (fun q => m.testBit q) (fun q => dst S.2.2.1 24 (g q)) S.1)) ν' ∧ FC S ν' ∧ mEq fP ν ν' := by
  intro j
  induction j with
  | zero =>
    intro n i ν hi hn h
    obtain ⟨n, rfl⟩ : ∃ m, n = m + 1 := ⟨n - 1, by omega⟩
    have e : i = S.1 := by omega
    exact ⟨ν, by rw [f_X9_furthest_L4, h.1.1, e, if_pos (nI_le (Nat.le_refl _) (by omega))], h, mEq.rf⟩
  | succ j ih =>
    intro n i ν hi hn h
    obtain ⟨n, rfl⟩ : ∃ m, n = m + 1 := ⟨n - 1, by omega⟩
    have hi' : i < S.1 := by omega
    have hi7 : i < 7 := by omega
    have ih := fun ν' => ih n (i + 1) ν' (by omega) (by omega)
    have hf := fur_lt (P := fun q => m.testBit q) (d := fun q => dst S.2.2.1 24 (g q)) i
    rw [fur] at ih
    rw [f_X9_furthest_L4, h.1.1, if_neg (nI_ge hi' (by omega)), nI_1]
    generalize hff : fur (fun q => m.testBit q) (fun q => dst S.2.2.1 24 (g q)) i = f at ih hf ⊢
    cases hb : m.testBit i with
    | false =>
      rw [if_neg (by rw [bit_s m hm i hi7, hb]; decide)]
      rw [if_neg (by rw [hb]; decide)] at ih
      exact ih ν h
    | true =>
      rw [if_pos (by rw [bit_s m hm i hi7]; exact hb)]
      rw [if_pos hb] at ih
      by_cases z : f = 99
      · rw [if_pos (by rw [fI_m1 (by omega)]; exact z)]
        rw [if_pos z, show fI i = nI i from if_neg (by omega)] at ih
        exact ih ν h
      · obtain ⟨a1, a2⟩ := hg i hi'
        obtain ⟨c1, c2⟩ := hg f (by omega)
        obtain ⟨ν1, e1, e2, e3⟩ := fo9 h h0 a2
        obtain ⟨ν2, d1, d2, d3⟩ := fo9 e2 h0 c2
        rw [if_neg (by rw [fI_m1 (by omega)]; exact z), show fI f = nI f from if_neg z, if_pos (ib_in hi7 (by decide)), nI_clamp (by omega), h.1.c4 hi7, a1, e1, Option.bind_some, if_pos (ib_in (show f < 7 by omega) (by decide)), nI_clamp (by omega), e2.1.c4 (show f < 7 by omega), c1, d1, Option.bind_some]
        rw [if_neg z] at ih
        have l1 := dst_le S.2.2.1 24 (g i)
        have l2 := dst_le S.2.2.1 24 (g f)
        by_cases hl : dst S.2.2.1 24 (g i) ≤ dst S.2.2.1 24 (g f)
        · rw [if_pos (nI_le hl (by omega))]
          rw [if_pos hl, show fI f = nI f from if_neg z] at ih
          obtain ⟨ν', f1, f2, f3⟩ := ih ν2 d2
          exact ⟨ν', f1, f2, e3.tr (d3.tr f3)⟩
        · rw [if_neg (nI_ge (by omega) (by omega))]
          rw [if_neg hl, show fI i = nI i from if_neg (by omega)] at ih
          obtain ⟨ν', f1, f2, f3⟩ := ih ν2 d2
          exact ⟨ν', f1, f2, e3.tr (d3.tr f3)⟩
theorem fur9 {m : Nat} {S : pS} {g : Nat → Nat} {ν : gN} (hc : S.1 ≤ 7) (h0 : S.2.2.1 24 = false) (hg : ∀ i, i < S.1 → S.2.1 4 i = nI (g i) ∧ g i < 49) (hm : m < 128) (h : FC S ν) : ∃ ν', f_X9_furthest (nI m) ν = some (fI (fur (fun q => m.testBit q) (fun q => dst S.2.2.1 24 (g q)) S.1), ν') ∧ FC S ν' ∧ mEq fP ν ν' := by
  rw [f_X9_furthest]
  exact fu_9 (k := fun z ν => some (z, ν)) hc h0 hg hm S.1 FU 0 ν (by omega) (by unfold FU; omega) h
theorem el_9 {s : Nat} {S : pS} {g : Nat → Nat} {ex : Nat → Bool} {k : Int32 → gN → Option (Int32 × gN)} (hc : S.1 ≤ 7) (h0 : S.2.2.1 24 = false) (hg : ∀ i, i < S.1 → S.2.1 4 i = nI (g i) ∧ g i < 49) (hs : S.2.2.2.1 0 = nI s) (hs4 : s ≤ 4) : ∀ j n i ν, i + j = s → j < n → FC S ν → ∃ ν', f_X9_chosenNow_L59 (nI (msk (elg S g ex) S.1)) k n (nI (pck S g ex i)) (nI i) ν = k (nI (pck S g ex s)) ν' ∧ FC S ν' ∧ mEq fP ν ν' := by
  intro j
  induction j with
  | zero =>
    intro n i ν hi hn h
    obtain ⟨n, rfl⟩ : ∃ m, n = m + 1 := ⟨n - 1, by omega⟩
    have e : i = s := by omega
    exact ⟨ν, by rw [f_X9_chosenNow_L59, if_pos (show inb 0 4 = true from rfl), show ν.1 61 (0 : Int32).toNatClampNeg = nI s from (h.1.2.2.2.1 0 (by decide)).trans hs, e, if_pos (nI_le (Nat.le_refl _) (by omega))], h, mEq.rf⟩
  | succ j ih =>
    intro n i ν hi hn h
    obtain ⟨n, rfl⟩ : ∃ m, n = m + 1 := ⟨n - 1, by omega⟩
    have ih := fun ν' => ih n (i + 1) ν' (by omega) (by omega)
    have hm : msk (elg S g ex) S.1 < 128 := mlt (Nat.le_refl _) hc
    have hp := pck_lt (g := g) (ex := ex) hc i
    have hml : msk (elg S g ex) S.1 &&& (127 - pck S g ex i) < 128 := Nat.lt_of_le_of_lt Nat.and_le_left hm
    have hf := fur_lt (P := fun q => elg S g ex q && !(pck S g ex i).testBit q) (d := fun q => dst S.2.2.1 24 (g q)) S.1
    have e : fur (fun q => (msk (elg S g ex) S.1 &&& (127 - pck S g ex i)).testBit q) (fun q => dst S.2.2.1 24 (g q)) S.1 = fur (fun q => elg S g ex q && !(pck S g ex i).testBit q) (fun q => dst S.2.2.1 24 (g q)) S.1 := by
      refine fur_cong S.1 (fun q hq => ?_) (fun _ _ => rfl)
      show (msk (elg S g ex) S.1 &&& (127 - pck S g ex i)).testBit q = (elg S g ex q && !(pck S g ex i).testBit q)
      rw [Nat.testBit_and, msk_bit, decide_eq_true hq, Bool.true_and, no_bit _ hp q (by omega)]
    obtain ⟨ν1, e1, e2, e3⟩ := fur9 hc h0 hg hml h
    rw [f_X9_chosenNow_L59, if_pos (show inb 0 4 = true from rfl), show ν.1 61 (0 : Int32).toNatClampNeg = nI s from (h.1.2.2.2.1 0 (by decide)).trans hs, if_neg (nI_ge (by omega) (by omega)), and_no _ hm _ hp, e1, Option.bind_some, e, nI_1]
    rw [pck] at ih
    generalize hff : fur (fun q => elg S g ex q && !(pck S g ex i).testBit q) (fun q => dst S.2.2.1 24 (g q)) S.1 = f at ih hf ⊢
    by_cases z : f = 99
    · rw [if_pos (by rw [fI_m1 (by omega)]; exact z)]
      rw [if_pos z] at ih
      obtain ⟨ν', f1, f2, f3⟩ := ih ν1 e2
      exact ⟨ν', f1, f2, e3.tr f3⟩
    · rw [if_neg (by rw [fI_m1 (by omega)]; exact z), show fI f = nI f from if_neg z, or_k _ hp _ (by omega)]
      rw [if_neg z] at ih
      obtain ⟨ν', f1, f2, f3⟩ := ih ν1 e2
      exact ⟨ν', f1, f2, e3.tr f3⟩
theorem elect9 {s : Nat} {S : pS} {g : Nat → Nat} {ex : Nat → Bool} {ν : gN} (hc : S.1 ≤ 7) (h0 : S.2.2.1 24 = false) (hg : ∀ i, i < S.1 → S.2.1 4 i = nI (g i) ∧ g i < 49) (hs : S.2.2.2.1 0 = nI s) (hs4 : s ≤ 4) (h : FC S ν) (hex : ∀ q, q < S.1 → (nI q = ν.1 53 28) = (ex q = true)) : ∃ ν', f_X9_chosenNow ν = some (nI (pck S g ex s), ν') ∧ FC S ν' ∧ mEq fP ν ν' := by
  rw [f_X9_chosenNow]
  obtain ⟨ν1, e1, e2, e3⟩ := ce_L (k := fun z1_6 ν_7 => f_X9_chosenNow_L59 z1_6 (fun z2_11 ν_12 => some (z2_11, ν_12)) FU 0 0 ν_7) hc h0 hg S.1 FU 0 ν (by omega) (by unfold FU; omega) h hex
  obtain ⟨ν', f1, f2, f3⟩ := el_9 (ex := ex) (k := fun z2_11 ν_12 => some (z2_11, ν_12)) hc h0 hg hs hs4 s FU 0 ν1 (by omega) (by unfold FU; omega) e2
  exact ⟨ν', Eq.trans e1 f1, f2, e3.tr f3⟩
