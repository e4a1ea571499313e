/-! LOOKING AND ELECTING on a port whose mask is another's (RQ: a port but for its fences) -/
def RQ (p : Nat) (S : pS) (ν : gN) : Prop := ν.1 p 6 = nI S.1 ∧ (∀ j, j < 6 → ∀ i, i < 7 → ν.1 (p + 1 + j) i = S.2.1 j i) ∧ True ∧ (∀ k, k < 4 → ν.1 p (8 + k) = S.2.2.2.1 k) ∧ ν.1 p 12 = S.2.2.2.2
theorem RQ.eq {p : Nat} {S : pS} {ν ν' : gN} {P : Nat → Prop} (h : RQ p S ν) (he : nEq P ν ν') (hp : ∀ a, p ≤ a → a < p + 7 → ¬ P a) : RQ p S ν' := by
  obtain ⟨h1, h2, h3, h4, h5⟩ := h
  have e0 := he p (hp p (Nat.le_refl _) (by omega))
  exact ⟨(e0.1 6).trans h1, fun j hj i hi => ((he (p + 1 + j) (hp _ (by omega) (by omega))).1 i).trans (h2 j hj i hi), trivial, fun k hk => (e0.1 _).trans (h4 k hk), (e0.1 12).trans h5⟩
theorem RP.q {p : Nat} {S : pS} {ν : gN} (h : RP p S ν) (F : Nat → Bool) : RQ p (S.1, S.2.1, F, S.2.2.2) ν := ⟨h.1, h.2.1, trivial, h.2.2.2.1, h.2.2.2.2⟩
theorem RQ.c0 {p : Nat} {S : pS} {ν : gN} (h : RQ p S ν) {i : Nat} (hi : i < 7) : ν.1 (p + 1) i = S.2.1 0 i := h.2.1 0 (by decide) i hi
theorem RQ.c1 {p : Nat} {S : pS} {ν : gN} (h : RQ p S ν) {i : Nat} (hi : i < 7) : ν.1 (p + 2) i = S.2.1 1 i := h.2.1 1 (by decide) i hi
theorem RQ.c2 {p : Nat} {S : pS} {ν : gN} (h : RQ p S ν) {i : Nat} (hi : i < 7) : ν.1 (p + 3) i = S.2.1 2 i := h.2.1 2 (by decide) i hi
theorem RQ.c3 {p : Nat} {S : pS} {ν : gN} (h : RQ p S ν) {i : Nat} (hi : i < 7) : ν.1 (p + 4) i = S.2.1 3 i := h.2.1 3 (by decide) i hi
theorem RQ.c4 {p : Nat} {S : pS} {ν : gN} (h : RQ p S ν) {i : Nat} (hi : i < 7) : ν.1 (p + 5) i = S.2.1 4 i := h.2.1 4 (by decide) i hi
theorem RQ.c5 {p : Nat} {S : pS} {ν : gN} (h : RQ p S ν) {i : Nat} (hi : i < 7) : ν.1 (p + 6) i = S.2.1 5 i := h.2.1 5 (by decide) i hi
theorem q_sm8 {p i : Nat} {S : pS} {ν : gN} (h : RQ p S ν) (hi : i < 7) : f_X4_smellOf p (nI i) ν = some (smS S i, ν) := by
  simp only [f_X4_smellOf, ib_in hi (show 7 < 2 ^ 31 by decide), ↓reduceIte, nI_clamp (show i < 2 ^ 31 by omega), sm3, Option.bind_some, h.c0 hi, h.c1 hi, h.c2 hi, smS]
theorem q_fl8 {p i : Nat} {S : pS} {ν : gN} (h : RQ p S ν) (hi : i < 7) : f_X4_isFleeing p (nI i) ν = some (i01 (flS S i), ν) := by
  simp only [f_X4_isFleeing, ib_in hi (show 7 < 2 ^ 31 by decide), ↓reduceIte, nI_clamp (show i < 2 ^ 31 by omega), fl3, Option.bind_some, h.c0 hi, h.c1 hi, h.c2 hi, flS, zb_i01]
theorem q_ay8 {p i u y : Nat} {S : pS} {ν : gN} (h : RQ p S ν) (hC : CH S.2.2.1 ν) (hi : i < 7) (hv : vP S i) (hu : u < 49) (w : Int32) : f_X4_afterYard p (nI i) (nI u) w ν = some (nI (wlk (dst S.2.2.1 24) (flS S i) (pcN S i w) u), ν) := by
  have hp := pcN_e w hv
  simp only [f_X4_afterYard, ib_in hi (show 7 < 2 ^ 31 by decide), ↓reduceIte, nI_clamp (show i < 2 ^ 31 by omega), h.c0 hi, h.c1 hi, h.c3 hi, pc3 ν (a2_ne hv), Option.bind_some, q_fl8 h hi, hp.1, wk8 hC (show pcN S i w < 50000 by omega) hu]
theorem q_lk_y {p i m : Nat} {S : pS} {k : gN → Option gN} (hp : p < 20) (hi : i < 7) (hv : vP S i) (h0 : S.2.2.1 24 = false) (hm : m < 2 ^ 31) : ∀ j n y ν, y + j = m → j < n → RQ p S ν → CH S.2.2.1 ν → ν.1 31 i = nI (posN S i y) → ∃ ν', f_X2_look_L29 p (nI m) (nI i) k n (nI y) ν = k ν' ∧ ν'.1 31 i = nI (posN S i m) ∧ (∀ q, q ≠ i → ν'.1 31 q = ν.1 31 q) ∧ nEq (fun q => q = 31) ν ν' := by
  intro j
  induction j with
  | zero =>
    intro n y ν hj hn h hC hq
    obtain ⟨n, rfl⟩ : ∃ m, n = m + 1 := ⟨n - 1, by omega⟩
    have e : y = m := by omega
    subst e
    exact ⟨ν, by rw [f_X2_look_L29, if_pos (nI_le (Nat.le_refl _) hm)], hq, fun _ _ => rfl, nEq.rf⟩
  | succ j ih =>
    intro n y ν hj hn h hC hq
    obtain ⟨n, rfl⟩ : ∃ m, n = m + 1 := ⟨n - 1, by omega⟩
    have he : nEq (fun q => q = 31) ν (nWI ν 31 i (nI (posN S i (y + 1)))) := nEq.rf.wi rfl
    obtain ⟨ν', e1, e2, e3, e4⟩ := ih n (y + 1) (nWI ν 31 i (nI (posN S i (y + 1)))) (by omega) (by omega) (h.eq he (fun a h1 h2 => by omega)) ⟨hC.1.eq he (by decide), hC.2.1.eq he (by decide), hC.2.2.eq he (by decide)⟩ (wi_eq _ _ _ _)
    refine ⟨ν', ?_, e2, fun q hq => by rw [e3 q hq, wi_ne (by omega)], he.tr e4⟩
    rw [f_X2_look_L29, if_neg (nI_ge (by omega) hm), if_pos (ib_in hi (by decide)), nI_clamp (by omega), hq, show ν.1 p 10 = S.2.2.2.1 2 from h.2.2.2.1 2 (by decide), q_ay8 (y := y) h hC hi hv (posN_ok hv h0 y).1, Option.bind_some, if_pos (ib_in hi (by decide)), ql, nI_1]
    exact e1
theorem q_lk_i {p m : Nat} {S : pS} {k : gN → Option gN} (hp : p < 20) (hc : S.1 ≤ 7) (hv : ∀ i, i < S.1 → vP S i) (h0 : S.2.2.1 24 = false) (hm : m < 50000) : ∀ j n i ν, i + j = S.1 → j < n → RQ p S ν → CH S.2.2.1 ν → (∀ q, q < i → ν.1 31 q = nI (posN S q m)) → ∃ ν', f_X2_look_L3 p (nI m) k n (nI i) ν = k ν' ∧ (∀ q, q < S.1 → ν'.1 31 q = nI (posN S q m)) ∧ nEq (fun q => q = 31) ν ν' := by
  intro j
  induction j with
  | zero =>
    intro n i ν hj hn h hC hq
    obtain ⟨n, rfl⟩ : ∃ m, n = m + 1 := ⟨n - 1, by omega⟩
    have e : i = S.1 := by omega
    subst e
    exact ⟨ν, by rw [f_X2_look_L3, h.1, if_pos (nI_le (Nat.le_refl _) (by omega))], hq, nEq.rf⟩
  | succ j ih =>
    intro n i ν hj hn h hC hq
    obtain ⟨n, rfl⟩ : ∃ m, n = m + 1 := ⟨n - 1, by omega⟩
    have hi : i < S.1 := by omega
    have hi7 : i < 7 := by omega
    have he : nEq (fun q => q = 31) ν (nWI ν 31 i (S.2.1 4 i)) := nEq.rf.wi rfl
    obtain ⟨ν1, a1, a2, a3, a4⟩ := q_lk_y (k := fun ν_11 => f_X2_look_L3 p (nI m) k n (nI i + 1) ν_11) hp hi7 (hv i hi) h0 (show m < 2 ^ 31 by omega) m FU 0 (nWI ν 31 i (S.2.1 4 i)) (by omega) (by unfold FU; omega) (h.eq he (fun a h1 h2 => by omega)) ⟨hC.1.eq he (by decide), hC.2.1.eq he (by decide), hC.2.2.eq he (by decide)⟩ (by rw [wi_eq]; exact (posN_0 (hv i hi)).1)
    have he2 := he.tr a4
    obtain ⟨ν', e1, e2, e3⟩ := ih n (i + 1) ν1 (by omega) (by omega) (h.eq he2 (fun a h1 h2 => by omega)) ⟨hC.1.eq he2 (by decide), hC.2.1.eq he2 (by decide), hC.2.2.eq he2 (by decide)⟩ (fun q hq' => by
      by_cases z : q = i
      · rw [z, a2]
      · rw [a3 q z, wi_ne (by omega)]; exact hq q (by omega))
    refine ⟨ν', ?_, e2, he2.tr e3⟩
    have e5 : ν.1 (p + 5) i = S.2.1 4 i := h.c4 hi7
    rw [f_X2_look_L3, h.1, if_neg (nI_ge hi (by omega)), if_pos (ib_in hi7 (by decide)), if_pos (ib_in hi7 (by decide)), nI_clamp (by omega), ql, e5, show (0 : Int32) = nI 0 from rfl, a1, nI_1]
    exact e1
theorem q_lk8 {p m : Nat} {S : pS} {ν : gN} (hp : p < 20) (hS : okP S) (hm : m < 50000) (h : RQ p S ν) (hC : CH S.2.2.1 ν) : ∃ ν', f_X2_look p (nI m) ν = some ν' ∧ (∀ q, q < S.1 → ν'.1 31 q = nI (posN S q m)) ∧ nEq (fun q => q = 31) ν ν' := by
  rw [f_X2_look]
  have h7 := hS.1
  exact q_lk_i (k := fun ν_12 => some ν_12) hp hS.1 hS.2.1 hS.2.2.1 hm S.1 FU 0 ν (by omega) (by unfold FU; omega) h hC (fun q hq => by omega)
theorem q_fu_8 {p m : Nat} {S : pS} {g : Nat → Nat} {ν : gN} {k : Int32 → gN → Option (Int32 × gN)} (h : RQ p S ν) (hc : S.1 ≤ 7) (hA : AT S g ν) (hm : m < 128) : ∀ j n i, i + j = S.1 → j < n → f_X2_furthest_L9 p (nI m) k n (fI (fur (fun q => !m.testBit q && decide (dst S.2.2.1 24 (g q) ≠ 99)) (fun q => dst S.2.2.1 24 (g q)) i)) (if fur (fun q => !m.testBit q && decide (dst S.2.2.1 24 (g q) ≠ 99)) (fun q => dst S.2.2.1 24 (g q)) i = 99 then -1 else nI (dst S.2.2.1 24 (g (fur (fun q => !m.testBit q && decide (dst S.2.2.1 24 (g q) ≠ 99)) (fun q => dst S.2.2.1 24 (g q)) i)))) (nI i) ν = k (fI (fur (fun q => !m.testBit q && decide (dst S.2.2.1 24 (g q) ≠ 99)) (fun q => dst S.2.2.1 24 (g q)) S.1)) ν := by
  intro j
  induction j with
  | zero =>
    intro n i hi hn
    obtain ⟨n, rfl⟩ : ∃ m, n = m + 1 := ⟨n - 1, by omega⟩
    have e : i = S.1 := by omega
    rw [f_X2_furthest_L9, h.1, e, if_pos (nI_le (Nat.le_refl _) (by omega))]
  | succ j ih =>
    intro n i hi hn
    obtain ⟨n, rfl⟩ : ∃ m, n = m + 1 := ⟨n - 1, by omega⟩
    have hi' : i < S.1 := by omega
    have hi7 : i < 7 := by omega
    have ih := ih n (i + 1) (by omega) (by omega)
    obtain ⟨a1, a2⟩ := hA.1 i hi'
    have hd := dst_le S.2.2.1 24 (g i)
    rw [f_X2_furthest_L9, h.1, if_neg (nI_ge hi' (by omega)), if_pos (ib_in hi7 (by decide)), nI_clamp (by omega), a1, if_pos (ib_in a2 (by decide)), in8 ν hm hi7, Option.bind_some, nI_clamp (by omega), hA.2 _ a2, nI_1]
    have e9 : nI (dst S.2.2.1 24 (g i)) = 99 ↔ dst S.2.2.1 24 (g i) = 99 := eq_nc (c := 99) (k := 99) rfl (by omega) (by decide)
    rw [fur] at ih
    cases hb : m.testBit i with
    | true =>
      rw [if_neg (show ¬ (i01 true, ν).1 = 0 from by show ¬ i01 true = 0; decide)]
      rw [if_neg (show ¬ (!m.testBit i && decide (dst S.2.2.1 24 (g i) ≠ 99)) = true by simp [hb])] at ih
      exact ih
    | false =>
      rw [if_pos (show (i01 false, ν).1 = 0 from rfl)]
      by_cases h99 : dst S.2.2.1 24 (g i) = 99
      · rw [if_pos (e9.mpr h99)]
        rw [if_neg (show ¬ (!m.testBit i && decide (dst S.2.2.1 24 (g i) ≠ 99)) = true by simp [h99])] at ih
        exact ih
      · rw [if_neg (fun q => h99 (e9.mp q))]
        rw [if_pos (show (!m.testBit i && decide (dst S.2.2.1 24 (g i) ≠ 99)) = true by simp [hb, h99])] at ih
        generalize hf : fur (fun q => !m.testBit q && decide (dst S.2.2.1 24 (g q) ≠ 99)) (fun q => dst S.2.2.1 24 (g q)) i = f at ih ⊢
        by_cases hf9 : f = 99
        · rw [if_pos hf9]
          rw [if_pos hf9] at ih
          rw [if_neg (show ¬ nI (dst S.2.2.1 24 (g i)) ≤ -1 from by
            rw [Int32.le_iff_toInt_le, nI_toInt (by omega)]
            show ¬ (_ : Int) ≤ -1
            omega)]
          rw [if_neg (show ¬ i = 99 by omega)] at ih
          rw [show fI i = nI i from if_neg (by omega)] at ih
          exact ih
        · rw [if_neg hf9]
          rw [if_neg hf9] at ih
          have hdf := dst_le S.2.2.1 24 (g f)
          by_cases hl : dst S.2.2.1 24 (g i) ≤ dst S.2.2.1 24 (g f)
          · rw [if_pos (nI_le hl (by omega))]
            rw [if_pos hl, if_neg hf9] at ih
            exact ih
          · rw [if_neg (nI_ge (by omega) (by omega))]
            rw [if_neg hl, if_neg (show ¬ i = 99 by omega), show fI i = nI i from if_neg (by omega)] at ih
            exact ih
theorem q_fur8 {p m : Nat} {S : pS} {g : Nat → Nat} {ν : gN} (h : RQ p S ν) (hc : S.1 ≤ 7) (hA : AT S g ν) (hm : m < 128) : f_X2_furthest p (nI m) ν = some (fI (fur (fun q => !m.testBit q && decide (dst S.2.2.1 24 (g q) ≠ 99)) (fun q => dst S.2.2.1 24 (g q)) S.1), ν) := by
  rw [f_X2_furthest]
  exact q_fu_8 (k := fun z4_5 ν_6 => some (z4_5, ν_6)) h hc hA hm S.1 FU 0 (by omega) (by unfold FU; omega)
theorem q_sa_L {p : Nat} {S : pS} {ν : gN} {k : Int32 → gN → Option (Int32 × gN)} (h : RQ p S ν) (hc : S.1 ≤ 7) : ∀ j n i, i + j = S.1 → j < n → f_X4_smellingAbove_L4 p (S.2.2.2.1 1) k n (nI (msk (ouS S) i)) (nI i) ν = k (nI (msk (ouS S) S.1)) ν := by
  intro j
  induction j with
  | zero =>
    intro n i hi hn
    obtain ⟨n, rfl⟩ : ∃ m, n = m + 1 := ⟨n - 1, by omega⟩
    have e : i = S.1 := by omega
    rw [f_X4_smellingAbove_L4, h.1, e, if_pos (nI_le (Nat.le_refl _) (by omega))]
  | succ j ih =>
    intro n i hi hn
    obtain ⟨n, rfl⟩ : ∃ m, n = m + 1 := ⟨n - 1, by omega⟩
    have hi7 : i < 7 := by omega
    have hm : msk (ouS S) i < 128 := mlt (c := S.1) (by omega) hc
    rw [f_X4_smellingAbove_L4, h.1, if_neg (nI_ge (by omega) (by omega)), q_sm8 h hi7, Option.bind_some, nI_1, or_0, or_k _ hm _ hi7]
    have hs := ih n (i + 1) (by omega) (by omega)
    rw [msk] at hs
    by_cases hq : smS S i ≤ S.2.2.2.1 1
    · rw [if_pos hq]
      rw [if_neg (show ¬ ouS S i = true by simp [ouS, hq])] at hs
      exact hs
    · rw [if_neg hq]
      rw [if_pos (show ouS S i = true by simp [ouS, hq])] at hs
      exact hs
theorem q_sa8 {p : Nat} {S : pS} {ν : gN} (h : RQ p S ν) (hc : S.1 ≤ 7) : f_X4_smellingAbove p (ν.1 p 9) ν = some (nI (msk (ouS S) S.1), ν) := by
  rw [f_X4_smellingAbove, show ν.1 p 9 = S.2.2.2.1 1 from h.2.2.2.1 1 (by decide)]
  exact q_sa_L (k := fun z2_3 ν_4 => some (z2_3, ν_4)) h hc S.1 FU 0 (by omega) (by unfold FU; omega)
theorem q_el_8 {p xm s : Nat} {S : pS} {g : Nat → Nat} {ν : gN} {k : Int32 → gN → Option (Int32 × gN)} (h : RQ p S ν) (hc : S.1 ≤ 7) (hA : AT S g ν) (hx : xm < 128) (hs : S.2.2.2.1 0 = nI s) (hs4 : s ≤ 4) : ∀ j n i, i + j = s → j < n → f_X2_elect_L18 p (nI (xm ||| msk (ouS S) S.1)) k n (nI (pck S g (fun q => xm.testBit q) i)) (nI i) ν = k (nI (pck S g (fun q => xm.testBit q) s)) ν := by
  intro j
  induction j with
  | zero =>
    intro n i hi hn
    obtain ⟨n, rfl⟩ : ∃ m, n = m + 1 := ⟨n - 1, by omega⟩
    have e : i = s := by omega
    rw [f_X2_elect_L18, show ν.1 p 8 = nI s from (h.2.2.2.1 0 (by decide)).trans hs, e, if_pos (nI_le (Nat.le_refl _) (by omega))]
  | succ j ih =>
    intro n i hi hn
    obtain ⟨n, rfl⟩ : ∃ m, n = m + 1 := ⟨n - 1, by omega⟩
    have ih := ih n (i + 1) (by omega) (by omega)
    have hm : msk (ouS S) S.1 < 128 := mlt (Nat.le_refl _) hc
    have hp := pck_lt (g := g) (ex := fun q => xm.testBit q) hc i
    have hf := fur_lt (P := fun q => elg S g (fun q => xm.testBit q) q && !(pck S g (fun q => xm.testBit q) i).testBit q) (d := fun q => dst S.2.2.1 24 (g q)) S.1
    have e : fur (fun q => !(xm ||| msk (ouS S) S.1 ||| pck S g (fun q => xm.testBit q) i).testBit q && decide (dst S.2.2.1 24 (g q) ≠ 99)) (fun q => dst S.2.2.1 24 (g q)) S.1 = fur (fun q => elg S g (fun q => xm.testBit q) q && !(pck S g (fun q => xm.testBit q) i).testBit q) (fun q => dst S.2.2.1 24 (g q)) S.1 := by
      refine fur_cong S.1 (fun q hq => ?_) (fun _ _ => rfl)
      show (!(xm ||| msk (ouS S) S.1 ||| pck S g (fun q => xm.testBit q) i).testBit q && _) = (elg S g (fun q => xm.testBit q) q && !(pck S g (fun q => xm.testBit q) i).testBit q)
      rw [Nat.testBit_or, Nat.testBit_or, msk_bit, decide_eq_true hq, Bool.true_and, elg]
      cases xm.testBit q <;> cases ouS S q <;> cases (pck S g (fun q => xm.testBit q) i).testBit q <;> simp
    rw [f_X2_elect_L18, show ν.1 p 8 = nI s from (h.2.2.2.1 0 (by decide)).trans hs, if_neg (nI_ge (by omega) (by omega)), or_2 _ (or_lt hx hm) _ hp, q_fur8 h hc hA (or_lt (or_lt hx hm) hp), Option.bind_some, e, nI_1]
    rw [pck] at ih
    generalize hff : fur (fun q => elg S g (fun q => xm.testBit q) q && !(pck S g (fun q => xm.testBit q) i).testBit q) (fun q => dst S.2.2.1 24 (g q)) S.1 = f at ih hf ⊢
    by_cases z : f = 99
    · rw [if_pos (by rw [fI_m1 (by omega)]; exact z)]
      rw [if_pos z] at ih
      exact ih
    · rw [if_neg (by rw [fI_m1 (by omega)]; exact z), show fI f = nI f from if_neg z, or_k _ hp _ (by omega)]
      rw [if_neg z] at ih
      exact ih
theorem q_elect8 {p xm s : Nat} {S : pS} {g : Nat → Nat} {ν : gN} (h : RQ p S ν) (hc : S.1 ≤ 7) (hA : AT S g ν) (hx : xm < 128) (hs : S.2.2.2.1 0 = nI s) (hs4 : s ≤ 4) : f_X2_elect p (nI xm) ν = some (nI (pck S g (fun q => xm.testBit q) s), ν) := by
  rw [f_X2_elect, q_sa8 h hc, Option.bind_some, or_2 _ hx _ (mlt (Nat.le_refl _) hc)]
  exact q_el_8 (k := fun z ν => some (z, ν)) h hc hA hx hs hs4 s FU 0 (by omega) (by unfold FU; omega)
