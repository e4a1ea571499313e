/-! the call tells -/
noncomputable def ledS (S : pS) (x y : Nat) : Nat → Nat → Bool
  | 0, _ => false
  | n + 1, t => ledS S x y n t || decide (t = posN (pA 2 x (nI n) S) x y)
theorem led_49 {Z : zS} {x y : Nat} (hZ : okZ Z) (hx : x < Z.1.1) : ∀ n, n ≤ 21 → ∀ i, 49 ≤ i → ledS Z.1 x y n i = false
  | 0, _, _, _ => rfl
  | n + 1, hn, i, hi => by
    have hp := (posN_ok ((hZ.a2 x n (by omega)).1.2.1 x hx) (hZ.a2 x n (by omega)).1.2.2.1 y).1
    have hp' : posN (pA 2 x (nI n) Z.1) x y < 49 := hp
    rw [ledS, led_49 hZ hx n (by omega) i hi, decide_eq_false (by omega)]; rfl
/-! the class -/
theorem tq_37 {Z : zS} {x w : Nat} {k : gN → Option gN} (hZ : okZ Z) (hx : x < Z.1.1) (hw : w ≤ 20) : ∀ j n y ν, y + j = 30 → j < n → RP 8 (pA 2 x (nI w) Z.1) ν → CH Z.1.2.2.1 ν → (∀ q, 1 ≤ q → q ≤ 30 → MK (ledS Z.1 x q (if q < y + 1 then w + 1 else w)) (ν.2 32 q)) → ∃ ν', f_X2_trackWants_L37 8 (nI x) (nI w) k n (nI (posN (pA 2 x (nI w) Z.1) x y)) (nI (y + 1)) ν = k ν' ∧ (∀ q, 1 ≤ q → q ≤ 30 → MK (ledS Z.1 x q (w + 1)) (ν'.2 32 q)) ∧ nEq (fun q => q = 32) ν ν' := by
  have hc7 := hZ.1.1
  have hx7 : x < 7 := by omega
  have hZ' := hZ.a2 x w hw
  have hv : vP (pA 2 x (nI w) Z.1) x := hZ'.1.2.1 x hx
  have h24 : (pA 2 x (nI w) Z.1).2.2.1 24 = false := hZ'.1.2.2.1
  intro j
  induction j with
  | zero =>
    intro n y ν hj hn h hC hM
    obtain ⟨n, rfl⟩ : ∃ m, n = m + 1 := ⟨n - 1, by omega⟩
    have e : y = 30 := by omega
    subst e
    refine ⟨ν, by rw [f_X2_trackWants_L37, if_pos (by decide)], fun q h1 h2 => ?_, nEq.rf⟩
    have z := hM q h1 h2
    rw [if_pos (by omega)] at z
    exact z
  | succ j ih =>
    intro n y ν hj hn h hC hM
    obtain ⟨n, rfl⟩ : ∃ m, n = m + 1 := ⟨n - 1, by omega⟩
    have hp := posN_ok hv h24 (y + 1)
    have hp1 : posN (pA 2 x (nI w) Z.1) x (y + 1) < 49 := hp.1
    have ha : f_X4_afterYard 8 (nI x) (nI (posN (pA 2 x (nI w) Z.1) x y)) (ν.1 8 10 + nI (y + 1) - 1) ν = some (nI (posN (pA 2 x (nI w) Z.1) x (y + 1)), ν) := by
      rw [show ν.1 8 10 = (pA 2 x (nI w) Z.1).2.2.2.1 2 from h.2.2.2.1 2 (by decide), show (pA 2 x (nI w) Z.1).2.2.2.1 2 + nI (y + 1) - 1 = (pA 2 x (nI w) Z.1).2.2.2.1 2 + nI y from by rw [← nI_1, ← Int32.add_assoc, Int32.add_sub_cancel], ay8 (y := y) h hC hx7 hv (posN_ok hv h24 y).1]
      rfl
    have he : nEq (fun q => q = 32) ν (nWL ν 32 (y + 1) (ν.2 32 (y + 1) ||| j_lshl 1 (nI (posN (pA 2 x (nI w) Z.1) x (y + 1))))) := nEq.rf.wl rfl
    obtain ⟨ν', e1, e2, e3⟩ := ih n (y + 1) _ (by omega) (by omega) (h.eq he (fun a _ _ => by omega)) (hC.eq he (fun a _ _ => by omega)) (fun q h1 h2 => by
      by_cases z : q = y + 1
      · subst z
        rw [wl_eq, if_pos (by omega)]
        have z := hM (y + 1) h1 h2
        rw [if_neg (by omega)] at z
        intro i hi
        rw [bit_or (by omega) hi, z i hi]; rfl
      · rw [wl_ne (Or.inr z)]
        have z2 := hM q h1 h2
        by_cases z3 : q < y + 1
        · rw [if_pos z3] at z2; rw [if_pos (by omega)]; exact z2
        · rw [if_neg z3] at z2; rw [if_neg (by omega)]; exact z2)
    refine ⟨ν', ?_, e2, he.tr e3⟩
    rw [f_X2_trackWants_L37, if_neg (by rw [lt_cn (c := 30) (k := 30) rfl (by omega) (by decide)]; omega), ha, Option.bind_some, if_pos (ib_in (show y + 1 < 31 by omega) (by decide)), if_pos (ib_in (show y + 1 < 31 by omega) (by decide)), nI_clamp (by omega), ql, nI_1]
    exact e1
theorem tq_11 {Z : zS} {x : Nat} {k : gN → Option gN} (hZ : okZ Z) (hx : x < Z.1.1) : ∀ j n w ν u, w + j = 21 → j < n → RP 8 (pA 2 x u Z.1) ν → CH Z.1.2.2.1 ν → (∀ q, 1 ≤ q → q ≤ 30 → MK (ledS Z.1 x q w) (ν.2 32 q)) → ∃ ν', f_X2_trackWants_L11 8 (nI x) k n (nI w) ν = k ν' ∧ (∀ q, 1 ≤ q → q ≤ 30 → MK (ledS Z.1 x q 21) (ν'.2 32 q)) ∧ nEq (fun q => (8 ≤ q ∧ q < 15) ∨ q = 32) ν ν' := by
  have hc7 := hZ.1.1
  have hx7 : x < 7 := by omega
  intro j
  induction j with
  | zero =>
    intro n w ν u hj hn h hC hM
    obtain ⟨n, rfl⟩ : ∃ m, n = m + 1 := ⟨n - 1, by omega⟩
    have e : w = 21 := by omega
    subst e
    exact ⟨ν, by rw [f_X2_trackWants_L11, if_pos (by decide)], hM, nEq.rf⟩
  | succ j ih =>
    intro n w ν u hj hn h hC hM
    obtain ⟨n, rfl⟩ : ∃ m, n = m + 1 := ⟨n - 1, by omega⟩
    have h1 := h.a (j := 2) (i := x) (x := nI w) (by decide) hx7
    rw [pA_pA] at h1
    have e1 : nEq (fun q => (8 ≤ q ∧ q < 15) ∨ q = 32) ν (nWI ν 11 x (nI w)) := nEq.rf.wi (by omega)
    have hC1 : CH Z.1.2.2.1 (nWI ν 11 x (nI w)) := hC.eq e1 (fun a _ _ => by omega)
    have hZ' := hZ.a2 x w (by omega)
    have e0 : (nWI ν 11 x (nI w)).1 13 x = nI (posN (pA 2 x (nI w) Z.1) x 0) := (h1.c4 hx7).trans (posN_0 (hZ'.1.2.1 x hx)).1
    obtain ⟨ν1, a1, a2, a3⟩ := tq_37 (k := fun ν_13 => f_X2_trackWants_L11 8 (nI x) k n (nI w + 1) ν_13) hZ hx (show w ≤ 20 by omega) 30 FU 0 (nWI ν 11 x (nI w)) (by omega) (by decide) h1 hC1 (fun q h1 h2 => by rw [if_neg (by omega), wi_2]; exact hM q h1 h2)
    have e2 := e1.tr (a3.mono (Q := fun q => (8 ≤ q ∧ q < 15) ∨ q = 32) (fun a z => Or.inr z))
    obtain ⟨ν', w1, w2, w3⟩ := ih n (w + 1) ν1 (nI w) (by omega) (by omega) (h1.eq a3 (fun a _ _ => by omega)) (hC1.eq a3 (fun a _ _ => by omega)) a2
    refine ⟨ν', ?_, w2, e2.tr w3⟩
    rw [f_X2_trackWants_L11, if_neg (by rw [lt_cn (c := 20) (k := 20) rfl (by omega) (by decide)]; omega), if_pos (ib_in hx7 (by decide)), nI_clamp (by omega), ql, if_pos (ib_in hx7 (by decide))]
    show f_X2_trackWants_L37 8 (nI x) (nI w) (fun ν_13 => f_X2_trackWants_L11 8 (nI x) k n (nI w + 1) ν_13) FU ((nWI ν 11 x (nI w)).1 13 x) (nI (0 + 1)) (nWI ν 11 x (nI w)) = _
    rw [e0, a1, nI_1]
    exact w1
theorem tw8 {Z : zS} {x : Nat} {ν : gN} (hZ : okZ Z) (hx : x < Z.1.1) (h : RP 8 Z.1 ν) (hC : CH Z.1.2.2.1 ν) : ∃ ν', f_X2_trackWants 8 (nI x) ν = some ν' ∧ (∀ q, 1 ≤ q → q ≤ 30 → MK (ledS Z.1 x q 21) (ν'.2 32 q)) ∧ nEq (fun q => (8 ≤ q ∧ q < 15) ∨ q = 32) ν ν' := by
  obtain ⟨ν1, a1, a2, a3⟩ := fill_L (b := 32) (N := 31) (x := 0) (k := fun ν_4 => some ν_4) (by decide) 31 FU 0 ν (by omega) (by decide)
  have e32 : nEq (fun q => q = 32) ν ν1 := fun a ha => ⟨fun b => by rw [a2], fun b => by rw [a3 a b, if_neg (fun z => ha z.1)]⟩
  have e1 : nEq (fun q => (8 ≤ q ∧ q < 15) ∨ q = 32) ν ν1 := e32.mono (fun a z => Or.inr z)
  have z0 : ∀ i, (Int64.toBitVec 0).getLsbD i = false := fun i => BitVec.getLsbD_zero
  have hR : RP 8 (pA 2 x (Z.1.2.1 2 x) Z.1) ν1 := by
    rw [pA_self]
    exact h.eq e32 (fun a _ _ => by omega)
  obtain ⟨ν', w1, w2, w3⟩ := tq_11 (k := fun ν_14 => some ν_14) hZ hx 21 FU 0 ν1 (Z.1.2.1 2 x) (by omega) (by decide) hR (hC.eq e32 (fun a _ _ => by omega)) (fun q h1 h2 i hi => by
    rw [a3 32 q, if_pos (by omega), z0 i]; rfl)
  refine ⟨ν', ?_, w2, e1.tr w3⟩
  rw [f_X2_trackWants, f_J7_fill_d0a16]
  rw [show f_J7_fill_d0a16_L6 32 31 0 (nI 31) (fun ν_4 => some ν_4) FU 0 ν = some ν1 from a1, Option.bind_some]
  exact w1
def mstN (c : Nat → Nat) : Nat → Nat
  | 0 => 1
  | j + 1 => if c (j + 2) ≤ c (mstN c j) then mstN c j else j + 2
theorem mst_le (c : Nat → Nat) : ∀ j, 1 ≤ mstN c j ∧ mstN c j ≤ j + 1
  | 0 => ⟨Nat.le_refl _, Nat.le_refl _⟩
  | j + 1 => by
    have := mst_le c j
    rw [mstN]
    split <;> omega
noncomputable def ledC (S : pS) (x y : Nat) : Nat := cnt (ledS S x y 21) 49
theorem ym_L {Z : zS} {x : Nat} {ν : gN} {k : Int32 → gN → Option (Int32 × gN)} (hZ : okZ Z) (hx : x < Z.1.1) (hM : ∀ q, 1 ≤ q → q ≤ 30 → MK (ledS Z.1 x q 21) (ν.2 32 q)) : ∀ j n i, i + j = 29 → j < n → f_X2_yardsOfMostTracks_L4 k n (nI (mstN (ledC Z.1 x) i)) (nI (i + 2)) ν = k (nI (mstN (ledC Z.1 x) 29)) ν := by
  intro j
  induction j with
  | zero =>
    intro n i hj hn
    obtain ⟨n, rfl⟩ : ∃ m, n = m + 1 := ⟨n - 1, by omega⟩
    have e : i = 29 := by omega
    subst e
    rw [f_X2_yardsOfMostTracks_L4, if_pos (by decide)]
  | succ j ih =>
    intro n i hj hn
    obtain ⟨n, rfl⟩ : ∃ m, n = m + 1 := ⟨n - 1, by omega⟩
    have ih := ih n (i + 1) (by omega) (by omega)
    have hm := mst_le (ledC Z.1 x) i
    have c1 := hB _ _ ν (hM (i + 2) (by omega) (by omega)) (led_49 hZ hx 21 (Nat.le_refl _))
    have c2 := hB _ _ ν (hM (mstN (ledC Z.1 x) i) (by omega) (by omega)) (led_49 hZ hx 21 (Nat.le_refl _))
    have l1 := cnt_le (ledS Z.1 x (i + 2) 21) 49
    have l2 := cnt_le (ledS Z.1 x (mstN (ledC Z.1 x) i) 21) 49
    rw [mstN] at ih
    rw [f_X2_yardsOfMostTracks_L4, if_neg (by rw [lt_cn (c := 30) (k := 30) rfl (by omega) (by decide)]; omega), if_pos (ib_in (show i + 2 < 31 by omega) (by decide)), nI_clamp (show i + 2 < 2 ^ 31 by omega), c1, Option.bind_some, if_pos (ib_in (show mstN (ledC Z.1 x) i < 31 by omega) (by decide)), nI_clamp (show mstN (ledC Z.1 x) i < 2 ^ 31 by omega)]
    show (f_J13_bitCount_95d88 (ν.2 32 (mstN (ledC Z.1 x) i)) ν).bind _ = _
    rw [c2, Option.bind_some, nI_1]
    by_cases g : ledC Z.1 x (i + 2) ≤ ledC Z.1 x (mstN (ledC Z.1 x) i)
    · rw [if_pos (show nI (cnt (ledS Z.1 x (i + 2) 21) 49) ≤ nI (cnt (ledS Z.1 x (mstN (ledC Z.1 x) i) 21) 49) from nI_le g (by omega))]
      rw [if_pos g] at ih
      exact ih
    · rw [if_neg (show ¬ nI (cnt (ledS Z.1 x (i + 2) 21) 49) ≤ nI (cnt (ledS Z.1 x (mstN (ledC Z.1 x) i) 21) 49) from nI_ge (Nat.lt_of_not_le g) (by omega))]
      rw [if_neg g] at ih
      exact ih
/-! the reference -/
theorem lt_L {Z : zS} {x y : Nat} {u : Int32} {k : Int64 → gN → Option (Int32 × gN)} (hZ : okZ Z) (hx : x < Z.1.1) (hy : y < 50000) : ∀ j n t ν m, t + j = 21 → j < n → IM Z ν → MK (ledS Z.1 x y t) m → ∃ ν' m', f_X9_ledTo_L13 (nI x) (nI y) u k n m (nI t) ν = k m' ν' ∧ MK (ledS Z.1 x y 21) m' ∧ IM Z ν' ∧ nEq (fun q => 53 ≤ q) ν ν' := by
  have hc7 := hZ.1.1
  have hx7 : x < 7 := by omega
  intro j
  induction j with
  | zero =>
    intro n t ν m hj hn h hM
    obtain ⟨n, rfl⟩ : ∃ m, n = m + 1 := ⟨n - 1, by omega⟩
    have e : t = 21 := by omega
    subst e
    exact ⟨ν, m, by rw [f_X9_ledTo_L13, if_pos (by decide)], hM, h, nEq.rf⟩
  | succ j ih =>
    intro n t ν m hj hn h hM
    obtain ⟨n, rfl⟩ : ∃ m, n = m + 1 := ⟨n - 1, by omega⟩
    obtain ⟨ν1, a1, a2, a3⟩ := kp9 (b := 72) (by decide) h.1
    have hF1 : FC Z.1 ν1 := ⟨h.1.eq a3 (fun q _ _ => by omega), by rw [(a3 53 (by decide)).1]; exact h.f.2.imp id (fun z => ⟨z.1, z.2.eq a3 (by decide)⟩)⟩
    have hF2 : FC (pA 2 x (nI t) Z.1) (nWI ν1 56 x (nI t)) := ⟨hF1.1.a (j := 2) (by decide) hx7, by rw [wi_ne (by omega)]; exact hF1.2.imp id (fun z => ⟨z.1, z.2.eq (P := fun q => q = 56) (nEq.rf.wi rfl) (by decide)⟩)⟩
    have hZ' := hZ.a2 x t (by omega)
    obtain ⟨ν2, c1, c2, c3⟩ := on9 (m := y) hZ'.1 hy hF2
    have c4 : mEq bP ν1 ν2 := (mEq.rf.wi (P := bP) (show bP 56 x from Or.inr (Or.inr (by decide)))).tr (c3.mono (fun a b z => bP.w z))
    have e58 : ν2.1 58 x = nI (posN (pA 2 x (nI t) Z.1) x y) := (c2.1.c4 hx7).trans (if_pos hx)
    obtain ⟨ν4, d1, d2, d3⟩ := back9 h a2 a3 c4 c2 rfl rfl
    have hp := (posN_ok (hZ'.1.2.1 x hx) hZ'.1.2.2.1 y).1
    have hp' : posN (pA 2 x (nI t) Z.1) x y < 49 := hp
    obtain ⟨ν', m', w1, w2, w3, w4⟩ := ih n (t + 1) ν4 (m ||| j_lshl 1 (nI (posN (pA 2 x (nI t) Z.1) x y))) (by omega) (by omega) d2 (fun i hi => by
      rw [bit_or (by omega) hi, hM i hi]; rfl)
    refine ⟨ν', m', ?_, w2, w3, d3.tr w4⟩
    rw [f_X9_ledTo_L13, if_neg (by rw [lt_cn (c := 20) (k := 20) rfl (by omega) (by decide)]; omega), a1, Option.bind_some, if_pos (ib_in hx7 (by decide)), nI_clamp (by omega), ql, c1, Option.bind_some, if_pos (ib_in hx7 (by decide)), d1, Option.bind_some, e58, nI_1]
    exact w1
theorem lt9 {Z : zS} {x y : Nat} {ν : gN} (hZ : okZ Z) (hx : x < Z.1.1) (hy : y < 50000) (h : IM Z ν) : ∃ ν', f_X9_ledTo (nI x) (nI y) ν = some (nI (ledC Z.1 x y), ν') ∧ IM Z ν' ∧ nEq (fun q => 53 ≤ q) ν ν' := by
  have hc7 := hZ.1.1
  have hx7 : x < 7 := by omega
  obtain ⟨ν1, m', w1, w2, w3, w4⟩ := lt_L (u := Z.1.2.1 2 x) (k := fun z4_12 ν_13 => if inb (nI x) 7 = true then qL (nWI ν_13 56 (nI x).toNatClampNeg (Z.1.2.1 2 x)) (fun ν_15 => (f_J13_bitCount_95d88 z4_12 ν_15).bind (fun r_17 => some (r_17.1, r_17.2))) else none) hZ hx hy 21 FU 0 ν 0 (by omega) (by decide) h (fun i hi => BitVec.getLsbD_zero)
  have h2 := w3.a (j := 2) (i := x) (x := Z.1.2.1 2 x) (by decide) hx7
  rw [zA_self] at h2
  refine ⟨nWI ν1 56 x (Z.1.2.1 2 x), ?_, h2, w4.wi (by decide)⟩
  rw [f_X9_ledTo, if_pos (ib_in hx7 (by decide))]
  rw [show ν.1 56 (nI x).toNatClampNeg = Z.1.2.1 2 x from by rw [nI_clamp (by omega)]; exact h.1.c2 hx7]
  refine Eq.trans w1 ?_
  rw [if_pos (ib_in hx7 (by decide)), nI_clamp (by omega), ql, hB _ _ _ w2 (led_49 hZ hx 21 (Nat.le_refl _))]
  rfl
def mrN (c : Nat → Nat) : Nat → Nat × Nat
  | 0 => (0, 0)
  | j + 1 => if (mrN c j).2 < c (j + 1) then (j + 1, c (j + 1)) else mrN c j
theorem mr_mst {c : Nat → Nat} (h1 : 0 < c 1) : ∀ j, mrN c (j + 1) = (mstN c j, c (mstN c j))
  | 0 => by
    show (if 0 < c 1 then (1, c 1) else (0, 0)) = (1, c 1)
    rw [if_pos h1]
  | j + 1 => by
    have ih := mr_mst h1 j
    rw [mrN, ih, mstN]
    by_cases g : c (j + 2) ≤ c (mstN c j)
    · rw [if_pos g, if_neg (by show ¬ c (mstN c j) < c (j + 2); omega)]
    · rw [if_neg g, if_pos (by show c (mstN c j) < c (j + 2); omega)]
theorem ct_pos {P : Nat → Bool} {i : Nat} (h : P i = true) : ∀ n, i < n → 0 < cnt P n
  | 0, h => by omega
  | n + 1, hi => by
    rw [cnt]
    by_cases e : i = n
    · subst e; rw [if_pos h]; omega
    · have := ct_pos h n (by omega)
      split <;> omega
theorem led_1 {Z : zS} {x y : Nat} (hZ : okZ Z) (hx : x < Z.1.1) : 0 < ledC Z.1 x y := by
  have hZ' := hZ.a2 x 20 (by decide)
  have hp := (posN_ok (hZ'.1.2.1 x hx) hZ'.1.2.2.1 y).1
  refine ct_pos (i := posN (pA 2 x (nI 20) Z.1) x y) ?_ 49 hp
  show (ledS Z.1 x y 20 _ || decide (_ = posN (pA 2 x (nI 20) Z.1) x y)) = true
  simp
theorem mr_le {c : Nat → Nat} {b : Nat} (hb : ∀ q, c q ≤ b) : ∀ j, (mrN c j).2 ≤ b ∧ (mrN c j).1 ≤ j
  | 0 => ⟨Nat.zero_le _, Nat.le_refl _⟩
  | j + 1 => by
    have := mr_le hb j
    have h2 := hb (j + 1)
    rw [mrN]
    split
    · exact ⟨h2, Nat.le_refl _⟩
    · exact ⟨this.1, by omega⟩
theorem tl_L {Z : zS} {x : Nat} {y2 : Int32} {k : Int32 → Int32 → gN → Option (Int32 × gN)} (hZ : okZ Z) (hx : x < Z.1.1) : ∀ j n i ν, i + j = 30 → j < n → IM Z ν → ∃ ν', f_X9_tells_L38 (nI x) y2 k n (nI (mrN (ledC Z.1 x) i).1) (nI (mrN (ledC Z.1 x) i).2) (nI (i + 1)) ν = k (nI (mrN (ledC Z.1 x) 30).1) (nI (mrN (ledC Z.1 x) 30).2) ν' ∧ IM Z ν' ∧ nEq (fun q => 53 ≤ q) ν ν' := by
  intro j
  induction j with
  | zero =>
    intro n i ν hj hn h
    obtain ⟨n, rfl⟩ : ∃ m, n = m + 1 := ⟨n - 1, by omega⟩
    have e : i = 30 := by omega
    subst e
    exact ⟨ν, by rw [f_X9_tells_L38, if_pos (by decide)], h, nEq.rf⟩
  | succ j ih =>
    intro n i ν hj hn h
    obtain ⟨n, rfl⟩ : ∃ m, n = m + 1 := ⟨n - 1, by omega⟩
    obtain ⟨ν1, a1, a2, a3⟩ := lt9 (y := i + 1) hZ hx (by omega) h
    obtain ⟨ν', e1, e2, e3⟩ := ih n (i + 1) ν1 (by omega) (by omega) a2
    have l1 : ledC Z.1 x (i + 1) ≤ 49 := cnt_le _ _
    have l2 := (mr_le (c := ledC Z.1 x) (b := 49) (fun q => cnt_le _ _) i).1
    refine ⟨ν', ?_, e2, a3.tr e3⟩
    rw [mrN] at e1
    rw [f_X9_tells_L38, if_neg (by rw [lt_cn (c := 30) (k := 30) rfl (by omega) (by decide)]; omega), a1, Option.bind_some, nI_1]
    by_cases g : (mrN (ledC Z.1 x) i).2 < ledC Z.1 x (i + 1)
    · rw [if_pos (show nI (mrN (ledC Z.1 x) i).2 < nI (ledC Z.1 x (i + 1)) from nI_lt g (by omega))]
      rw [if_pos g] at e1
      exact e1
    · rw [if_neg (show ¬ nI (mrN (ledC Z.1 x) i).2 < nI (ledC Z.1 x (i + 1)) from nI_nlt (by omega) (by omega))]
      rw [if_neg g] at e1
      exact e1
theorem ym8 {Z : zS} {x : Nat} {ν : gN} (hZ : okZ Z) (hx : x < Z.1.1) (hM : ∀ q, 1 ≤ q → q ≤ 30 → MK (ledS Z.1 x q 21) (ν.2 32 q)) : f_X2_yardsOfMostTracks ν = some (nI (mstN (ledC Z.1 x) 29), ν) := by
  have e := ym_L (k := fun z1_7 ν_8 => some (z1_7, ν_8)) hZ hx hM 29 FU 0 (by omega) (by decide)
  generalize mstN (ledC Z.1 x) 29 = M at e ⊢
  rw [f_X2_yardsOfMostTracks]
  exact e
theorem tl9 {Z : zS} {x M : Nat} {y2 : Int32} {k : Int32 → Int32 → gN → Option (Int32 × gN)} {ν : gN} (hZ : okZ Z) (hx : x < Z.1.1) (h : IM Z ν) (hM : mstN (ledC Z.1 x) 29 = M) : ∃ ν', f_X9_tells_L38 (nI x) y2 k FU 0 0 1 ν = k (nI M) (nI (ledC Z.1 x M)) ν' ∧ IM Z ν' ∧ nEq (fun q => 53 ≤ q) ν ν' := by
  have mr : mrN (ledC Z.1 x) 30 = (M, ledC Z.1 x M) := by rw [← hM]; exact mr_mst (c := ledC Z.1 x) (led_1 hZ hx) 29
  obtain ⟨ν', e1, e2, e3⟩ := tl_L (y2 := y2) (k := k) hZ hx 30 FU 0 ν (by omega) (by decide) h
  rw [mr] at e1
  exact ⟨ν', e1, e2, e3⟩
theorem tl_E {Z : zS} {x : Nat} (hZ : okZ Z) (hx : x < Z.1.1) : ∃ M C, M < 31 ∧ (∀ ν, IC Z ν → ∃ ν1 ν2 ν3, f_X7_chart (ν.2 1 7) ν = some ν1 ∧ f_X4_takeFrom 8 1 ν1 = some ν2 ∧ f_X2_trackWants 8 (nI x) ν2 = some ν3 ∧ f_X2_yardsOfMostTracks ν3 = some (nI M, ν3) ∧ f_J13_bitCount_95d88 (ν3.2 32 M) ν3 = some (nI C, ν3) ∧ IC Z ν3 ∧ nEq (fun q => q < 53) ν ν3) ∧ (∀ (y2 : Int32) k ν, IM Z ν → ∃ ν', f_X9_tells_L38 (nI x) y2 k FU 0 0 1 ν = k (nI M) (nI C) ν' ∧ IM Z ν' ∧ nEq (fun q => 53 ≤ q) ν ν') := by
  have m29 := mst_le (ledC Z.1 x) 29
  obtain ⟨M, hM⟩ : ∃ M, mstN (ledC Z.1 x) 29 = M := ⟨_, rfl⟩
  rw [hM] at m29
  refine ⟨M, ledC Z.1 x M, by omega, fun ν h => ?_, fun y2 k ν h => tl9 hZ hx h hM⟩
  obtain ⟨ν1, a1, a2, a3⟩ := ch8 (F := Z.1.2.2.1) ν h.1.2.2.1
  have h1 : IC Z ν1 := h.sc a3 (fun a z => by unfold scC; omega)
  obtain ⟨ν2, c1, c2, c3⟩ := tf8 (p0 := 8) (p1 := 1) h1.1 (by omega)
  have h2 : IC Z ν2 := h1.sc c3 (fun a z => by unfold scC; omega)
  obtain ⟨ν3, e1, e2, e3⟩ := tw8 hZ hx c2 (a2.eq c3 (by omega))
  refine ⟨ν1, ν2, ν3, a1, c1, e1, ?_, ?_, h2.sc e3 (fun a z => by unfold scC; omega), ((a3.c (fun a z => by omega)).tr (c3.c (fun a z => by omega))).tr (e3.c (fun a z => by omega))⟩
  · rw [← hM]; exact ym8 hZ hx e2
  · exact hB _ _ ν3 (e2 _ (by omega) (by omega)) (led_49 hZ hx 21 (Nat.le_refl _))
theorem op_tells (x w : Int32) {Z : zS} (hZ : okZ Z) : both (f_X8_tells x w) (f_X9_tells x w) Z := by
  have hc := hZ.1.1
  rcases (rng x Z.1.1 (by omega)).symm with hx | ⟨i, hi, rfl⟩
  · refine both_no (a := -1) 1 (by decide) hZ (fun ν h => ?_) (fun ν h => ?_)
    · simp only [f_X8_tells, per_out h.1 hx, Option.bind_some, ↓reduceIte, rf_1]
    · simp only [f_X9_tells, one_out h.1 hc hx, Option.bind_some, ↓reduceIte, no_1]
  have hi7 : i < 7 := by omega
  by_cases hw : w = 0 ∨ w = 1
  · have hb01 : bt w 0 1 = true := by rcases hw with rfl | rfl <;> decide
    obtain ⟨M, C, hM, h8, h9⟩ := tl_E hZ hi
    have i31 := ib_in hM (show 31 < 2 ^ 31 by decide)
    have c31 := nI_clamp (show M < 2 ^ 31 by omega)
    rcases hw with rfl | rfl
    · refine ⟨nI M, Z, hZ, fun ν h => ?_, fun ν h => ?_⟩
      · obtain ⟨ν1, ν2, ν3, a1, a2, a3, a4, a5, a6, a7⟩ := h8 ν h
        refine ⟨ν3, ?_, a6, a7⟩
        rw [f_X8_tells, per_in h.1 hc hi, Option.bind_some, if_neg (show ¬ (1 : Int32) = 0 by decide), if_pos rfl]
        show (f_X7_chart (ν.2 1 7) ν).bind _ = _
        rw [a1, Option.bind_some, a2, Option.bind_some, a3, Option.bind_some, a4, Option.bind_some, if_pos rfl]
      · obtain ⟨ν', e1, e2, e3⟩ := h9 0 (fun z3_7 z4_8 ν_9 => if (0 : Int32) = 0 then some (z3_7, ν_9) else some (z4_8, ν_9)) ν h
        refine ⟨ν', ?_, e2, e3⟩
        rw [f_X9_tells, one_in h.1 hc hi, Option.bind_some, if_neg (show ¬ (1 : Int32) = 0 by decide)]
        show (f_X9_within 0 0 1 ν).bind _ = _
        rw [bw9, hb01, Option.bind_some, if_neg (show ¬ i01 true = 0 by decide)]
        exact e1
    · refine ⟨nI C, Z, hZ, fun ν h => ?_, fun ν h => ?_⟩
      · obtain ⟨ν1, ν2, ν3, a1, a2, a3, a4, a5, a6, a7⟩ := h8 ν h
        refine ⟨ν3, ?_, a6, a7⟩
        rw [f_X8_tells, per_in h.1 hc hi, Option.bind_some, if_neg (show ¬ (1 : Int32) = 0 by decide), if_neg (show ¬ (1 : Int32) = 0 by decide), if_pos rfl]
        show (f_X7_chart (ν.2 1 7) ν).bind _ = _
        rw [a1, Option.bind_some, a2, Option.bind_some, a3, Option.bind_some, a4, Option.bind_some, if_neg (show ¬ (1 : Int32) = 0 by decide), if_pos i31, c31]
        show (f_J13_bitCount_95d88 (ν3.2 32 M) ν3).bind _ = _
        rw [a5, Option.bind_some]
      · obtain ⟨ν', e1, e2, e3⟩ := h9 1 (fun z3_7 z4_8 ν_9 => if (1 : Int32) = 0 then some (z3_7, ν_9) else some (z4_8, ν_9)) ν h
        refine ⟨ν', ?_, e2, e3⟩
        rw [f_X9_tells, one_in h.1 hc hi, Option.bind_some, if_neg (show ¬ (1 : Int32) = 0 by decide)]
        show (f_X9_within 1 0 1 ν).bind _ = _
        rw [bw9, hb01, Option.bind_some, if_neg (show ¬ i01 true = 0 by decide)]
        exact e1
  · simp only [not_or] at hw
    have hb01 : bt w 0 1 = false := by
      cases hb : bt w 0 1 with
      | false => rfl
      | true =>
        obtain ⟨k, hk, hk2, rfl⟩ := bt_of (a := 0) (b := 1) (by decide) (by decide) hb
        have : k = 0 ∨ k = 1 := by omega
        rcases this with rfl | rfl
        · exact absurd rfl hw.1
        · exact absurd rfl hw.2
    refine both_no (a := -5) 5 (by decide) hZ (fun ν h => ?_) (fun ν h => ?_)
    · simp only [f_X8_tells, per_in h.1 hc hi, hw.1, hw.2, ↓reduceIte, rf_5, Option.bind_some, b1]
    · simp only [f_X9_tells, one_in h.1 hc hi, bw9, hb01, i01_f, ↓reduceIte, no_5, Option.bind_some, b1]
