/-! calls: hide crowd; counting bits -/
theorem fI_m2 {f : Nat} (h : f < 49 ∨ f = 99) : (fI f = -1) = (f = 99) := by
  apply propext
  unfold fI
  by_cases z : f = 99
  · rw [if_pos z]; exact ⟨fun _ => z, fun _ => rfl⟩
  · rw [if_neg z]
    exact ⟨fun q => absurd q (fun e => nI_pos (n := f) (by omega) (by rw [e]; decide)), fun q => absurd q z⟩
theorem hd8_L {m : Nat} {D0 D1 : Nat → Nat} {k : Int32 → gN → Option (Int32 × gN)} {ν : gN} (hm : m < 2 ^ 31) (h0 : TT 25 D0 ν) (h1 : TT 28 D1 ν) (l0 : ∀ t, D0 t ≤ 99) (l1 : ∀ t, D1 t ≤ 99) : ∀ j n i, i + j = 49 → j < n → f_X8_hide_L80 (nI m) k n (fI (fur (fun t => decide (D1 t ≤ m) && decide (D0 t ≠ 99)) D0 i)) (nI i) ν = k (fI (fur (fun t => decide (D1 t ≤ m) && decide (D0 t ≠ 99)) D0 49)) ν := by
  intro j
  induction j with
  | zero =>
    intro n i hi hn
    obtain ⟨n, rfl⟩ : ∃ m, n = m + 1 := ⟨n - 1, by omega⟩
    have e : i = 49 := by omega
    subst e
    rw [f_X8_hide_L80, if_pos (by decide)]
  | succ j ih =>
    intro n i hi hn
    obtain ⟨n, rfl⟩ : ∃ m, n = m + 1 := ⟨n - 1, by omega⟩
    have hi49 : i < 49 := by omega
    have ih := ih n (i + 1) (by omega) (by omega)
    have hf := fur_lt (P := fun t => decide (D1 t ≤ m) && decide (D0 t ≠ 99)) (d := D0) i
    have q0 := l0 i
    have q1 := l1 i
    rw [fur] at ih
    rw [f_X8_hide_L80, if_neg (by rw [le_cn (c := 49) (k := 49) rfl (by omega) (by decide)]; omega), if_pos (ib_in hi49 (by decide)), nI_clamp (by omega), h1 i hi49, h0 i hi49, nI_1]
    have e9 : nI (D0 i) = 99 ↔ D0 i = 99 := eq_nc (c := 99) (k := 99) rfl (by omega) (by decide)
    have q2 := l0 (fur (fun t => decide (D1 t ≤ m) && decide (D0 t ≠ 99)) D0 i)
    generalize hff : fur (fun t => decide (D1 t ≤ m) && decide (D0 t ≠ 99)) D0 i = f at ih hf q2 ⊢
    by_cases g1 : D1 i ≤ m
    · rw [if_neg (nI_nlt g1 hm), if_pos (ib_in hi49 (by decide))]
      by_cases g0 : D0 i = 99
      · rw [if_pos (e9.mpr g0), if_pos rfl]
        rw [if_neg (by simp [g0])] at ih
        exact ih
      · rw [if_neg (fun z => g0 (e9.mp z)), if_neg (by decide)]
        rw [if_pos (by simp [g0, g1])] at ih
        by_cases z : f = 99
        · rw [if_pos (by rw [fI_m2 (by omega)]; exact z)]
          rw [if_pos z, show fI i = nI i from if_neg (by omega)] at ih
          exact ih
        · rw [if_neg (by rw [fI_m2 (by omega)]; exact z), show fI f = nI f from if_neg z, if_pos (ib_in hi49 (by decide)), if_pos (ib_in (show f < 49 by omega) (by decide)), nI_clamp (show f < 2 ^ 31 by omega), h0 f (by omega)]
          rw [if_neg z] at ih
          by_cases hl : D0 i ≤ D0 f
          · rw [if_pos (nI_le hl (by omega))]
            rw [if_pos hl, show fI f = nI f from if_neg z] at ih
            exact ih
          · rw [if_neg (nI_ge (by omega) (by omega))]
            rw [if_neg hl, show fI i = nI i from if_neg (by omega)] at ih
            exact ih
    · rw [if_pos (nI_lt (by omega) (by omega)), if_pos rfl]
      rw [if_neg (by simp [g1])] at ih
      exact ih
theorem hd9_L {m : Nat} {S : pS} {D1 : Nat → Nat} {k : Int32 → gN → Option (Int32 × gN)} (hm : m < 2 ^ 31) (hF0 : S.2.2.1 24 = false) (l1 : ∀ t, D1 t ≤ 99) : ∀ j n i ν, i + j = 49 → j < n → FC S ν → TT 71 D1 ν → ∃ ν', f_X9_hide_L47 (nI m) k n (fI (fur (fun t => decide (D1 t ≤ m) && decide (dst S.2.2.1 24 t ≠ 99)) (dst S.2.2.1 24) i)) (nI i) ν = k (fI (fur (fun t => decide (D1 t ≤ m) && decide (dst S.2.2.1 24 t ≠ 99)) (dst S.2.2.1 24) 49)) ν' ∧ FC S ν' ∧ mEq fP ν ν' := by
  intro j
  induction j with
  | zero =>
    intro n i ν hi hn h h1
    obtain ⟨n, rfl⟩ : ∃ m, n = m + 1 := ⟨n - 1, by omega⟩
    have e : i = 49 := by omega
    subst e
    exact ⟨ν, by rw [f_X9_hide_L47, if_pos (by decide)], h, mEq.rf⟩
  | succ j ih =>
    intro n i ν hi hn h h1
    obtain ⟨n, rfl⟩ : ∃ m, n = m + 1 := ⟨n - 1, by omega⟩
    have hi49 : i < 49 := by omega
    have ih := fun ν' => ih n (i + 1) ν' (by omega) (by omega)
    have hf := fur_lt (P := fun t => decide (D1 t ≤ m) && decide (dst S.2.2.1 24 t ≠ 99)) (d := dst S.2.2.1 24) i
    have q0 := dst_le S.2.2.1 24 i
    have q1 := l1 i
    have hT : ∀ ν ν', mEq fP ν ν' → TT 71 D1 ν → TT 71 D1 ν' := fun ν ν' e z t ht => ((e 71 t (by unfold fP; omega)).1).trans (z t ht)
    rw [fur] at ih
    rw [f_X9_hide_L47, if_neg (by rw [le_cn (c := 49) (k := 49) rfl (by omega) (by decide)]; omega), if_pos (ib_in hi49 (by decide)), nI_clamp (by omega), h1 i hi49, nI_1]
    have q2 := dst_le S.2.2.1 24 (fur (fun t => decide (D1 t ≤ m) && decide (dst S.2.2.1 24 t ≠ 99)) (dst S.2.2.1 24) i)
    generalize hff : fur (fun t => decide (D1 t ≤ m) && decide (dst S.2.2.1 24 t ≠ 99)) (dst S.2.2.1 24) i = f at ih hf q2 ⊢
    by_cases g1 : D1 i ≤ m
    · rw [if_neg (nI_nlt g1 hm)]
      obtain ⟨ν1, e1, e2, e3⟩ := fo9 h hF0 hi49
      rw [e1, Option.bind_some]
      by_cases g0 : dst S.2.2.1 24 i = 99
      · rw [if_pos (by rw [le99 q0]; exact g0)]
        rw [if_neg (by simp [g0])] at ih
        obtain ⟨ν', f1, f2, f3⟩ := ih ν1 e2 (hT _ _ e3 h1)
        exact ⟨ν', f1, f2, e3.tr f3⟩
      · rw [if_neg (by rw [le99 q0]; exact g0)]
        rw [if_pos (by simp [g0, g1])] at ih
        by_cases z : f = 99
        · rw [if_pos (by rw [fI_m2 (by omega)]; exact z)]
          rw [if_pos z, show fI i = nI i from if_neg (by omega)] at ih
          obtain ⟨ν', f1, f2, f3⟩ := ih ν1 e2 (hT _ _ e3 h1)
          exact ⟨ν', f1, f2, e3.tr f3⟩
        · obtain ⟨ν2, a1, a2, a3⟩ := fo9 e2 hF0 hi49
          obtain ⟨ν3, c1, c2, c3⟩ := fo9 a2 hF0 (show f < 49 by omega)
          have e4 := e3.tr (a3.tr c3)
          rw [if_neg (by rw [fI_m2 (by omega)]; exact z), show fI f = nI f from if_neg z, a1, Option.bind_some, c1, Option.bind_some]
          rw [if_neg z] at ih
          by_cases hl : dst S.2.2.1 24 i ≤ dst S.2.2.1 24 f
          · rw [if_pos (nI_le hl (by omega))]
            rw [if_pos hl, show fI f = nI f from if_neg z] at ih
            obtain ⟨ν', f1, f2, f3⟩ := ih ν3 c2 (hT _ _ e4 h1)
            exact ⟨ν', f1, f2, e4.tr f3⟩
          · rw [if_neg (nI_ge (by omega) (by omega))]
            rw [if_neg hl, show fI i = nI i from if_neg (by omega)] at ih
            obtain ⟨ν', f1, f2, f3⟩ := ih ν3 c2 (hT _ _ e4 h1)
            exact ⟨ν', f1, f2, e4.tr f3⟩
    · rw [if_pos (nI_lt (by omega) (by omega))]
      rw [if_neg (by simp [g1])] at ih
      exact ih ν h h1
theorem op_hide (x y : Int32) {Z : zS} (hZ : okZ Z) : both (f_X8_hide x y) (f_X9_hide x y) Z := by
  have hc := hZ.1.1
  rcases (rng x Z.1.1 (by omega)).symm with hx | ⟨i, hi, rfl⟩
  · refine both_no (a := -11) 1 (by decide) hZ (fun ν h => ?_) (fun ν h => ?_)
    · simp only [f_X8_hide, per_out h.1 hx, Option.bind_some, ↓reduceIte, ra_1]
    · simp only [f_X9_hide, one_out h.1 hc hx, Option.bind_some, ↓reduceIte, nt_1]
  have hi7 : i < 7 := by omega
  cases hb : bt y 0 30 with
  | false =>
    refine both_no (a := -16) 6 (by decide) hZ (fun ν h => ?_) (fun ν h => ?_)
    · simp only [f_X8_hide, per_in h.1 hc hi, ahd8, hb, i01_f, Option.bind_some, ↓reduceIte, b1, ra_6]
    · simp only [f_X9_hide, one_in h.1 hc hi, tim9, hb, i01_f, Option.bind_some, ↓reduceIte, b1, nt_6]
  | true =>
    obtain ⟨m, _, hm, rfl⟩ := bt_of (a := 0) (b := 30) (by decide) (by decide) hb
    obtain ⟨p1, p2, p3⟩ := posN_0 (hZ.1.2.1 i hi)
    refine ⟨fI (fur (fun t => decide (dst Z.1.2.2.1 (posN Z.1 i 0) t ≤ m) && decide (dst Z.1.2.2.1 24 t ≠ 99)) (dst Z.1.2.2.1 24) 49), Z, hZ, fun ν h => ?_, fun ν h => ?_⟩
    · obtain ⟨ν1, a1, a2, a3⟩ := ch8 (F := Z.1.2.2.1) ν h.1.2.2.1
      have h1 : IC Z ν1 := h.sc a3 (fun a z => by unfold scC; omega)
      obtain ⟨ν2, e1, e2, e3⟩ := sp8 (F := Z.1.2.2.1) ν1 (Or.inr rfl) h1.1.2.2.1 p2
      have h2 : IC Z ν2 := h1.sc e3 (fun a z => by unfold scC; omega)
      refine ⟨ν2, ?_, h2, (a3.c (fun a z => by omega)).tr (e3.c (fun a z => by omega))⟩
      have e5 : ν1.1 6 i = nI (posN Z.1 i 0) := (h1.1.c4 hi7).trans p1
      have hl := hd8_L (k := fun z3_18 ν_19 => some (z3_18, ν_19)) (show m < 2 ^ 31 by omega) (a2.1.eq e3 (by decide)) e2 (fun t => dst_le _ _ _) (fun t => dst_le _ _ _) 49 FU 0 rfl (by decide)
      simp only [f_X8_hide, per_in h.1 hc hi, ahd8, hb, i01_1, Option.bind_some, ↓reduceIte, b1, a1, ib_in hi7 (show 7 < 2 ^ 31 by decide), nI_clamp (show i < 2 ^ 31 by omega), e5, e1]
      exact hl
    · obtain ⟨ν1, e1, e2, e3⟩ := sp9 (a := 71) (Or.inr rfl) h.1 p2 p3
      have h1 : IM Z ν1 := h.eq (e3.mono (fun a z => by unfold scM; omega))
      obtain ⟨ν', f1, f2, f3⟩ := hd9_L (k := fun z3_15 ν_16 => some (z3_15, ν_16)) (show m < 2 ^ 31 by omega) hZ.f0 (fun t => dst_le _ _ _) 49 FU 0 ν1 rfl (by decide) h1.f e2
      have e5 : ν.1 58 i = nI (posN Z.1 i 0) := (h.1.c4 hi7).trans p1
      refine ⟨ν', ?_, h1.fp f2 f3, (e3.mono (Q := fun q => 53 ≤ q) (fun a z => by omega)).tr (fP.n f3)⟩
      simp only [f_X9_hide, one_in h.1 hc hi, tim9, hb, i01_1, Option.bind_some, ↓reduceIte, b1, ib_in hi7 (show 7 < 2 ^ 31 by decide), nI_clamp (show i < 2 ^ 31 by omega), e5, e1]
      exact f1
/-! counting -/
def cnt (P : Nat → Bool) : Nat → Nat
  | 0 => 0
  | n + 1 => if P n = true then cnt P n + 1 else cnt P n
theorem cnt_le (P : Nat → Bool) : ∀ n, cnt P n ≤ n
  | 0 => Nat.le_refl _
  | n + 1 => by have := cnt_le P n; rw [cnt]; split <;> omega
theorem cnt_cong {P Q : Nat → Bool} : ∀ n, (∀ i, i < n → P i = Q i) → cnt P n = cnt Q n
  | 0, _ => rfl
  | n + 1, h => by rw [cnt, cnt, cnt_cong n (fun i hi => h i (by omega)), h n (by omega)]
theorem cnt_cut {P : Nat → Bool} {n : Nat} : ∀ m, n ≤ m → cnt (fun i => decide (i < n) && P i) m = cnt P n
  | 0, h => by
    have : n = 0 := by omega
    subst this; rfl
  | m + 1, h => by
    by_cases e : n = m + 1
    · subst e
      exact cnt_cong _ (fun i hi => by simp [hi])
    · rw [cnt, if_neg (by simp; omega)]
      exact cnt_cut m (by omega)
theorem cnt_0 {P : Nat → Bool} : ∀ n, (cnt P n = 0) = (msk P n = 0)
  | 0 => by simp [cnt, msk]
  | n + 1 => by
    have ih := cnt_0 (P := P) n
    rw [cnt, msk]
    split
    · refine propext ⟨fun z => by omega, fun z => ?_⟩
      have := congrArg (fun x => x.testBit n) z
      simp at this
    · exact ih
def bcI (x0 : Int32) : Int32 :=
  let v1 := x0 - ((j_ushr x0 1) &&& 1431655765)
  let v3 := (v1 &&& 858993459) + ((j_ushr v1 2) &&& 858993459)
  let v5 := (v3 + (j_ushr v3 4)) &&& 252645135
  let v7 := v5 + (j_ushr v5 8)
  let v9 := v7 + (j_ushr v7 16)
  v9 &&& 63
theorem bc6 (x : Int32) (ν : gN) : f_J6_bitCount_0f7a4 x ν = some (bcI x, ν) := rfl
theorem bc_t : ∀ m, m < 128 → bcI (nI m) = nI (cnt (fun i => m.testBit i) 7) := by decide +kernel
theorem bcm {P : Nat → Bool} {n : Nat} (h : n ≤ 7) (ν : gN) : f_J6_bitCount_0f7a4 (nI (msk P n)) ν = some (nI (cnt P n), ν) := by
  rw [bc6, bc_t _ (mlt (Nat.le_refl n) h)]
  rw [cnt_cong (Q := fun i => decide (i < n) && P i) 7 (fun i _ => msk_bit n i), cnt_cut 7 h]
/-- how many are at c -/
def atN (g : Nat → Nat) (n c : Nat) : Nat := cnt (fun i => decide (g i = c)) n
theorem cs_i {p : Nat} {S : pS} {g : Nat → Nat} {ν : gN} {c : Nat} {y2 y3 : Int32} {k : Int32 → gN → Option (Int32 × gN)} (h : RP p S ν) (hc7 : S.1 ≤ 7) (hc : c < 49) (hA : ∀ i, i < S.1 → ν.1 31 i = nI (g i) ∧ g i < 49) : ∀ j n i, i + j = S.1 → j < n → f_X2_crowdedSquare_L20 p y2 y3 (nI c) k n (nI (atN g i c)) (nI i) ν = k (nI (atN g S.1 c)) ν := by
  intro j
  induction j with
  | zero =>
    intro n i hi hn
    obtain ⟨n, rfl⟩ : ∃ m, n = m + 1 := ⟨n - 1, by omega⟩
    have e : i = S.1 := by omega
    rw [f_X2_crowdedSquare_L20, h.1, e, if_pos (nI_le (Nat.le_refl _) (by omega))]
  | succ j ih =>
    intro n i hi hn
    obtain ⟨n, rfl⟩ : ∃ m, n = m + 1 := ⟨n - 1, by omega⟩
    have hi7 : i < 7 := by omega
    obtain ⟨a1, a2⟩ := hA i (by omega)
    have ih := ih n (i + 1) (by omega) (by omega)
    rw [atN, cnt] at ih
    rw [f_X2_crowdedSquare_L20, h.1, if_neg (nI_ge (by omega) (by omega)), if_pos (ib_in hi7 (by decide)), nI_clamp (by omega), a1, nI_1]
    by_cases e : g i = c
    · rw [if_pos (by rw [e]), nI_1]
      rw [if_pos (by simp [e])] at ih
      exact ih
    · rw [if_neg (by rw [nI_eq (by omega) (by omega)]; exact e), Int32.add_zero, nI_1]
      rw [if_neg (by simp [e])] at ih
      exact ih
theorem cs_c {p : Nat} {S : pS} {g : Nat → Nat} {ν : gN} {k : Int32 → gN → Option (Int32 × gN)} (h : RP p S ν) (hc7 : S.1 ≤ 7) (hA : ∀ i, i < S.1 → ν.1 31 i = nI (g i) ∧ g i < 49) : ∀ j n c, c + j = 49 → j < n → f_X2_crowdedSquare_L7 p k n (fI (fur (fun c => decide (atN g S.1 c ≠ 0)) (atN g S.1) c)) (nI (if fur (fun c => decide (atN g S.1 c ≠ 0)) (atN g S.1) c = 99 then 0 else atN g S.1 (fur (fun c => decide (atN g S.1 c ≠ 0)) (atN g S.1) c))) (nI c) ν = k (fI (fur (fun c => decide (atN g S.1 c ≠ 0)) (atN g S.1) 49)) ν := by
  intro j
  induction j with
  | zero =>
    intro n c hi hn
    obtain ⟨n, rfl⟩ : ∃ m, n = m + 1 := ⟨n - 1, by omega⟩
    have e : c = 49 := by omega
    subst e
    rw [f_X2_crowdedSquare_L7, if_pos (by decide)]
  | succ j ih =>
    intro n c hi hn
    obtain ⟨n, rfl⟩ : ∃ m, n = m + 1 := ⟨n - 1, by omega⟩
    have hc : c < 49 := by omega
    have ih := ih n (c + 1) (by omega) (by omega)
    have hf := fur_lt (P := fun c => decide (atN g S.1 c ≠ 0)) (d := atN g S.1) c
    have l1 : atN g S.1 c ≤ 7 := Nat.le_trans (cnt_le _ _) hc7
    rw [fur] at ih
    rw [f_X2_crowdedSquare_L7, if_neg (by rw [le_cn (c := 49) (k := 49) rfl (by omega) (by decide)]; omega)]
    rw [show f_X2_crowdedSquare_L20 p (fI (fur (fun c => decide (atN g S.1 c ≠ 0)) (atN g S.1) c)) (nI (if fur (fun c => decide (atN g S.1 c ≠ 0)) (atN g S.1) c = 99 then 0 else atN g S.1 (fur (fun c => decide (atN g S.1 c ≠ 0)) (atN g S.1) c))) (nI c) _ FU 0 0 ν = _ from cs_i h hc7 hc hA S.1 FU 0 (by omega) (by unfold FU; omega)]
    have l2 : atN g S.1 (fur (fun c => decide (atN g S.1 c ≠ 0)) (atN g S.1) c) ≤ 7 := Nat.le_trans (cnt_le _ _) hc7
    generalize hff : fur (fun c => decide (atN g S.1 c ≠ 0)) (atN g S.1) c = f at ih hf l2 ⊢
    rw [nI_1]
    by_cases z0 : atN g S.1 c = 0
    · rw [if_pos (nI_le (by omega) (by split <;> omega))]
      rw [if_neg (by simp [z0])] at ih
      exact ih
    · rw [if_pos (by simp [z0])] at ih
      by_cases z : f = 99
      · rw [if_pos z, if_neg (nI_ge (by omega) (by omega))]
        rw [if_pos z, if_neg (show ¬ c = 99 by omega), show fI c = nI c from if_neg (by omega)] at ih
        exact ih
      · rw [if_neg z]
        rw [if_neg z] at ih
        by_cases hl : atN g S.1 c ≤ atN g S.1 f
        · rw [if_pos (nI_le hl (by omega))]
          rw [if_pos hl, if_neg z] at ih
          exact ih
        · rw [if_neg (nI_ge (by omega) (by omega))]
          rw [if_neg hl, if_neg (show ¬ c = 99 by omega), show fI c = nI c from if_neg (by omega)] at ih
          exact ih
theorem at_eq {S : pS} {g : Nat → Nat} (hc7 : S.1 ≤ 7) (hg : ∀ i, i < S.1 → S.2.1 4 i = nI (g i) ∧ g i < 49) {c : Nat} (hc : c < 49) : msk (atS S (nI c)) S.1 = msk (fun i => decide (g i = c)) S.1 := by
  refine msk_cong _ (fun i hi => ?_)
  obtain ⟨a1, a2⟩ := hg i hi
  show decide (S.2.1 4 i = nI c) = decide (g i = c)
  rw [a1]
  exact decide_eq_decide.mpr (nI_eq (by omega) (by omega))
theorem cr_9 {S : pS} {g : Nat → Nat} {k : Int32 → gN → Option (Int32 × gN)} {ν : gN} (hc7 : S.1 ≤ 7) (hg : ∀ i, i < S.1 → S.2.1 4 i = nI (g i) ∧ g i < 49) (h : RM S ν) : ∀ j n c, c + j = 49 → j < n → f_X9_crowded_L4 k n (fI (fur (fun c => decide (atN g S.1 c ≠ 0)) (atN g S.1) c)) (nI c) ν = k (fI (fur (fun c => decide (atN g S.1 c ≠ 0)) (atN g S.1) 49)) ν := by
  intro j
  induction j with
  | zero =>
    intro n c hi hn
    obtain ⟨n, rfl⟩ : ∃ m, n = m + 1 := ⟨n - 1, by omega⟩
    have e : c = 49 := by omega
    subst e
    rw [f_X9_crowded_L4, if_pos (by decide)]
  | succ j ih =>
    intro n c hi hn
    obtain ⟨n, rfl⟩ : ∃ m, n = m + 1 := ⟨n - 1, by omega⟩
    have hc : c < 49 := by omega
    have ih := ih n (c + 1) (by omega) (by omega)
    have hf := fur_lt (P := fun c => decide (atN g S.1 c ≠ 0)) (d := atN g S.1) c
    have l1 : atN g S.1 c ≤ 7 := Nat.le_trans (cnt_le _ _) hc7
    have l2 : atN g S.1 (fur (fun c => decide (atN g S.1 c ≠ 0)) (atN g S.1) c) ≤ 7 := Nat.le_trans (cnt_le _ _) hc7
    have hm : msk (fun i => decide (g i = c)) S.1 < 128 := mlt (Nat.le_refl _) hc7
    rw [fur] at ih
    rw [f_X9_crowded_L4, if_neg (by rw [le_cn (c := 49) (k := 49) rfl (by omega) (by decide)]; omega), ta9 _ h hc7, Option.bind_some, at_eq hc7 hg hc, nI_1]
    have e0 : (nI (msk (fun i => decide (g i = c)) S.1) = 0) = (atN g S.1 c = 0) := by
      rw [atN, cnt_0]
      exact propext (eq_nc (c := 0) (k := 0) rfl (by omega) (by decide))
    generalize hff : fur (fun c => decide (atN g S.1 c ≠ 0)) (atN g S.1) c = f at ih hf l2 ⊢
    by_cases z0 : atN g S.1 c = 0
    · rw [if_pos (by rw [e0]; exact z0)]
      rw [if_neg (by simp [z0])] at ih
      exact ih
    · rw [if_neg (by rw [e0]; exact z0)]
      rw [if_pos (by simp [z0])] at ih
      by_cases z : f = 99
      · rw [if_pos (by rw [fI_m2 (by omega)]; exact z)]
        rw [if_pos z, show fI c = nI c from if_neg (by omega)] at ih
        exact ih
      · rw [if_neg (by rw [fI_m2 (by omega)]; exact z), show fI f = nI f from if_neg z, ta9 _ h hc7, Option.bind_some, at_eq hc7 hg hc, bcm hc7, Option.bind_some, ta9 _ h hc7, Option.bind_some, at_eq hc7 hg (show f < 49 by omega), bcm hc7, Option.bind_some]
        rw [if_neg z] at ih
        show (if nI (atN g S.1 c) ≤ nI (atN g S.1 f) then f_X9_crowded_L4 k n (nI f) (nI (c + 1)) ν else f_X9_crowded_L4 k n (nI c) (nI (c + 1)) ν) = _
        by_cases hl : atN g S.1 c ≤ atN g S.1 f
        · rw [if_pos (nI_le hl (by omega))]
          rw [if_pos hl, show fI f = nI f from if_neg z] at ih
          exact ih
        · rw [if_neg (nI_ge (by omega) (by omega))]
          rw [if_neg hl, show fI c = nI c from if_neg (by omega)] at ih
          exact ih
theorem lo_L {S : pS} {g : Nat → Nat} {k : Int32 → gN → Option (Int32 × gN)} (hc : S.1 ≤ 7) (h0 : S.2.2.1 24 = false) (hg : ∀ i, i < S.1 → S.2.1 4 i = nI (g i) ∧ g i < 49) : ∀ j n i ν, i + j = S.1 → j < n → FC S ν → ∃ ν', f_X9_lastOne_L4 k n (nI (msk (fun q => decide (dst S.2.2.1 24 (g q) ≠ 99)) i)) (nI i) ν = k (nI (msk (fun q => decide (dst S.2.2.1 24 (g q) ≠ 99)) S.1)) ν' ∧ FC S ν' ∧ mEq fP ν ν' := by
  intro j
  induction j with
  | zero =>
    intro n i ν hi hn h
    obtain ⟨n, rfl⟩ : ∃ m, n = m + 1 := ⟨n - 1, by omega⟩
    have e : i = S.1 := by omega
    exact ⟨ν, by rw [f_X9_lastOne_L4, h.1.1, e, if_pos (nI_le (Nat.le_refl _) (by omega))], h, mEq.rf⟩
  | succ j ih =>
    intro n i ν hi hn h
    obtain ⟨n, rfl⟩ : ∃ m, n = m + 1 := ⟨n - 1, by omega⟩
    have hi7 : i < 7 := by omega
    obtain ⟨a1, a2⟩ := hg i (by omega)
    have hm : msk (fun q => decide (dst S.2.2.1 24 (g q) ≠ 99)) i < 128 := mlt (c := S.1) (by omega) hc
    have ih := fun ν' => ih n (i + 1) ν' (by omega) (by omega)
    rw [msk] at ih
    obtain ⟨ν1, e1, e2, e3⟩ := fo9 h h0 a2
    rw [f_X9_lastOne_L4, h.1.1, if_neg (nI_ge (by omega) (by omega)), if_pos (ib_in hi7 (by decide)), nI_clamp (by omega), h.1.c4 hi7, a1, e1, Option.bind_some, or_k _ hm _ hi7, nI_1]
    obtain ⟨ν', f1, f2, f3⟩ := ih ν1 e2
    by_cases h9 : dst S.2.2.1 24 (g i) = 99
    · rw [if_pos (by rw [le99 (dst_le _ _ _)]; exact h9)]
      rw [if_neg (by simp [h9])] at f1
      exact ⟨ν', f1, f2, e3.tr f3⟩
    · rw [if_neg (by rw [le99 (dst_le _ _ _)]; exact h9)]
      rw [if_pos (by simp [h9])] at f1
      exact ⟨ν', f1, f2, e3.tr f3⟩
theorem op_crowd (x y : Int32) {Z : zS} (hZ : okZ Z) : both (f_X8_crowd x y) (f_X9_crowd x y) Z := by
  have hc := hZ.1.1
  by_cases hy : y = 0 ∨ y = 1
  · have hb01 : bt y 0 1 = true := by rcases hy with rfl | rfl <;> decide
    cases hb : bt x 0 30 with
    | false =>
      refine both_no (a := -16) 6 (by decide) hZ (fun ν h => ?_) (fun ν h => ?_)
      · rcases hy with rfl | rfl
        · simp only [f_X8_crowd, ahd8, hb, i01_f, Option.bind_some, ↓reduceIte, ra_6]
        · simp only [f_X8_crowd, ahd8, hb, i01_f, Option.bind_some, ↓reduceIte, ra_6, b1]
      · simp only [f_X9_crowd, bw9, hb01, i01_1, b1, tim9, hb, i01_f, Option.bind_some, ↓reduceIte, nt_6]
    | true =>
      obtain ⟨m, _, hm, rfl⟩ := bt_of (a := 0) (b := 30) (by decide) (by decide) hb
      have hgp : ∀ i, i < (advS Z.1 m).1 → (advS Z.1 m).2.1 4 i = nI (posN Z.1 i m) ∧ posN Z.1 i m < 49 := fun i hi => ⟨if_pos hi, (posN_ok (hZ.1.2.1 i hi) hZ.f0 m).1⟩
      rcases hy with rfl | rfl
      · refine ⟨fI (fur (fun c => decide (atN (fun i => posN Z.1 i m) Z.1.1 c ≠ 0)) (atN (fun i => posN Z.1 i m) Z.1.1) 49), Z, hZ, fun ν h => ?_, fun ν h => ?_⟩
        · obtain ⟨ν', e1, e2, e3, e4, e5⟩ := la8 (m := m) hZ.1 (by omega) h.1
          refine ⟨ν', ?_, h.sc e5 (fun a z => by unfold scC; omega), e5.c (fun a z => by omega)⟩
          have hcs := cs_c (k := fun z2_4 ν_5 => some (z2_4, ν_5)) e3 hc (AT.of hZ.1 e2 e4).1 49 FU 0 rfl (by decide)
          simp only [f_X8_crowd, ahd8, hb, i01_1, Option.bind_some, ↓reduceIte, b1, e1, f_X2_crowdedSquare]
          rw [show f_X2_crowdedSquare_L7 1 (fun z2_4 ν_5 => some (z2_4, ν_5)) FU (-1) 0 0 ν' = _ from hcs]; rfl
        · obtain ⟨ν1, ν2, e1, e2, e3, e4, e5⟩ := peek9 h hZ (show m < 50000 by omega)
          obtain ⟨ν4, f1, f2, f3⟩ := e5 ν2 e3 mEq.rf
          have hcr := cr_9 (k := fun z1_11 ν_12 => some (z1_11, ν_12)) (S := advS Z.1 m) (g := fun i => posN Z.1 i m) hc hgp e3.1 49 FU 0 rfl (by decide)
          refine ⟨ν4, ?_, f2, f3⟩
          simp only [f_X9_crowd, bw9, hb01, tim9, hb, i01_1, Option.bind_some, ↓reduceIte, b1, e1, e2, f_X9_crowded]
          rw [show f_X9_crowded_L4 (fun z1_11 ν_12 => some (z1_11, ν_12)) FU (-1) 0 ν2 = _ from hcr, Option.bind_some, f1]; rfl
      · refine ⟨fI (fur (fun q => !(0 : Nat).testBit q && decide (dst Z.1.2.2.1 24 (posN Z.1 q m) ≠ 99)) (fun q => dst Z.1.2.2.1 24 (posN Z.1 q m)) Z.1.1), Z, hZ, fun ν h => ?_, fun ν h => ?_⟩
        · obtain ⟨ν', e1, e2, e3, e4, e5⟩ := la8 (m := m) hZ.1 (by omega) h.1
          refine ⟨ν', ?_, h.sc e5 (fun a z => by unfold scC; omega), e5.c (fun a z => by omega)⟩
          have hfu := fur8 (m := 0) e3 hc (AT.of hZ.1 e2 e4) (by decide)
          simp only [f_X8_crowd, ahd8, hb, i01_1, Option.bind_some, ↓reduceIte, b1, e1]
          rw [show f_X2_furthest 1 0 ν' = _ from hfu]; rfl
        · obtain ⟨ν1, ν2, e1, e2, e3, e4, e5⟩ := peek9 h hZ (show m < 50000 by omega)
          obtain ⟨ν3, d1, d2, d3⟩ := lo_L (k := fun z1_4 ν_5 => (f_X9_furthest z1_4 ν_5).bind (fun r_6 => some (r_6.1, r_6.2))) (S := advS Z.1 m) (g := fun i => posN Z.1 i m) hc hZ.f0 hgp (advS Z.1 m).1 FU 0 ν2 (by omega) (by have : (advS Z.1 m).1 = Z.1.1 := rfl; unfold FU; omega) e3
          obtain ⟨ν3', c1, c2, c3⟩ := fur9 (S := advS Z.1 m) (g := fun i => posN Z.1 i m) hc hZ.f0 hgp (mlt (P := fun q => decide (dst (advS Z.1 m).2.2.1 24 (posN Z.1 q m) ≠ 99)) (Nat.le_refl (advS Z.1 m).1) hc) d2
          obtain ⟨ν4, f1, f2, f3⟩ := e5 ν3' c2 (d3.tr c3)
          refine ⟨ν4, ?_, f2, f3⟩
          have hlo : f_X9_lastOne ν2 = some (fI (fur (fun q => !(0 : Nat).testBit q && decide (dst Z.1.2.2.1 24 (posN Z.1 q m) ≠ 99)) (fun q => dst Z.1.2.2.1 24 (posN Z.1 q m)) Z.1.1), ν3') := by
            rw [f_X9_lastOne]
            refine Eq.trans d1 ?_
            rw [c1, Option.bind_some]
            rw [show fur (fun q => (msk (fun q => decide (dst (advS Z.1 m).2.2.1 24 (posN Z.1 q m) ≠ 99)) (advS Z.1 m).1).testBit q) (fun q => dst (advS Z.1 m).2.2.1 24 (posN Z.1 q m)) (advS Z.1 m).1 = fur (fun q => !(0 : Nat).testBit q && decide (dst Z.1.2.2.1 24 (posN Z.1 q m) ≠ 99)) (fun q => dst Z.1.2.2.1 24 (posN Z.1 q m)) Z.1.1 from fur_cong Z.1.1 (fun q hq => by
              show (msk (fun q => decide (dst Z.1.2.2.1 24 (posN Z.1 q m) ≠ 99)) Z.1.1).testBit q = _
              rw [msk_bit, decide_eq_true hq, Nat.zero_testBit]; rfl) (fun _ _ => rfl)]
          simp only [f_X9_crowd, bw9, hb01, tim9, hb, i01_1, Option.bind_some, ↓reduceIte, b1, e1, e2, hlo, f1]
  · simp only [not_or] at hy
    have hb01 : bt y 0 1 = false := by
      cases hb : bt y 0 1 with
      | false => rfl
      | true =>
        obtain ⟨k, hk, hk2, rfl⟩ := bt_of (a := 0) (b := 1) (by decide) (by decide) hb
        have : k = 0 ∨ k = 1 := by omega
        rcases this with rfl | rfl
        · exact absurd rfl hy.1
        · exact absurd rfl hy.2
    refine both_no (a := -15) 5 (by decide) hZ (fun ν h => ?_) (fun ν h => ?_)
    · simp only [f_X8_crowd, hy.1, hy.2, ↓reduceIte, ra_5, Option.bind_some]
    · simp only [f_X9_crowd, bw9, hb01, i01_f, ↓reduceIte, nt_5, Option.bind_some]
