/-! KEEPING a port aside and bringing it back (the reference) -/
theorem rd_b {ν : gN} {b a c q : Nat} {x : Int32} (hb : 62 ≤ b) (ha : a < 62) : (nWI ν b c x).1 a q = ν.1 a q := wi_ne (by omega)
theorem kp_L2 {S : pS} {b : Nat} {k : gN → Option gN} (hb : 62 ≤ b) : ∀ j n i ν, i + j = 7 → j < n → RM S ν → ∃ ν', f_X9_keep_L2 b k n (nI i) ν = k ν' ∧ (∀ t, t < 6 → ∀ q, i ≤ q → q < 7 → ν'.1 b (7 * t + q) = S.2.1 t q) ∧ (∀ c, (∀ t, t < 6 → ∀ q, i ≤ q → q < 7 → c ≠ 7 * t + q) → ν'.1 b c = ν.1 b c) ∧ nEq (fun q => q = b) ν ν' := by
  intro j
  induction j with
  | zero =>
    intro n i ν hi hn h
    obtain ⟨n, rfl⟩ : ∃ m, n = m + 1 := ⟨n - 1, by omega⟩
    have e : i = 7 := by omega
    subst e
    exact ⟨ν, by rw [f_X9_keep_L2, if_pos (by decide)], fun t _ q _ _ => by omega, fun _ _ => rfl, nEq.rf⟩
  | succ j ih =>
    intro n i ν hi hn h
    obtain ⟨n, rfl⟩ : ∃ m, n = m + 1 := ⟨n - 1, by omega⟩
    have hi7 : i < 7 := by omega
    have he : nEq (fun q => q = b) ν (nWI (nWI (nWI (nWI (nWI (nWI ν b i (S.2.1 0 i)) b (7 + i) (S.2.1 1 i)) b (14 + i) (S.2.1 2 i)) b (21 + i) (S.2.1 3 i)) b (28 + i) (S.2.1 4 i)) b (35 + i) (S.2.1 5 i)) := (((((nEq.rf.wi (P := fun q => q = b) rfl).wi rfl).wi rfl).wi rfl).wi rfl).wi rfl
    obtain ⟨ν', e1, e2, e3, e4⟩ := ih n (i + 1) _ (by omega) (by omega) (h.eq he (fun q _ _ => by omega))
    refine ⟨ν', ?_, fun t ht q h1 h2 => ?_, fun c hc => ?_, he.tr e4⟩
    · rw [← e1]
      have a7 : (7 : Int32) + nI i = nI (7 + i) := nI_add 7 i
      have a14 : (14 : Int32) + nI i = nI (14 + i) := nI_add 14 i
      have a21 : (21 : Int32) + nI i = nI (21 + i) := nI_add 21 i
      have a28 : (28 : Int32) + nI i = nI (28 + i) := nI_add 28 i
      have a35 : (35 : Int32) + nI i = nI (35 + i) := nI_add 35 i
      rw [f_X9_keep_L2, if_neg (by rw [le_cn (c := 7) (k := 7) rfl (by omega) (by decide)]; omega)]
      simp only [a7, a14, a21, a28, a35, ib_in hi7 (show 7 < 2 ^ 31 by decide), ib_in (show i < 96 by omega) (show 96 < 2 ^ 31 by decide), ib_in (show 7 + i < 96 by omega) (show 96 < 2 ^ 31 by decide), ib_in (show 14 + i < 96 by omega) (show 96 < 2 ^ 31 by decide), ib_in (show 21 + i < 96 by omega) (show 96 < 2 ^ 31 by decide), ib_in (show 28 + i < 96 by omega) (show 96 < 2 ^ 31 by decide), ib_in (show 35 + i < 96 by omega) (show 96 < 2 ^ 31 by decide), nI_clamp (show i < 2 ^ 31 by omega), nI_clamp (show 7 + i < 2 ^ 31 by omega), nI_clamp (show 14 + i < 2 ^ 31 by omega), nI_clamp (show 21 + i < 2 ^ 31 by omega), nI_clamp (show 28 + i < 2 ^ 31 by omega), nI_clamp (show 35 + i < 2 ^ 31 by omega), ↓reduceIte, ql, rd_b hb (show 54 < 62 by decide), rd_b hb (show 55 < 62 by decide), rd_b hb (show 56 < 62 by decide), rd_b hb (show 57 < 62 by decide), rd_b hb (show 58 < 62 by decide), rd_b hb (show 59 < 62 by decide), h.c0 hi7, h.c1 hi7, h.c2 hi7, h.c3 hi7, h.c4 hi7, h.c5 hi7, nI_1]
    · by_cases z : q = i
      · subst z
        rw [e3 _ (fun t' ht' q' h1' h2' => by omega)]
        have ht' : t = 0 ∨ t = 1 ∨ t = 2 ∨ t = 3 ∨ t = 4 ∨ t = 5 := by omega
        rcases ht' with rfl | rfl | rfl | rfl | rfl | rfl
        · rw [wi_ne (by omega), wi_ne (by omega), wi_ne (by omega), wi_ne (by omega), wi_ne (by omega), show 7 * 0 + q = q by omega, wi_eq]
        · rw [wi_ne (by omega), wi_ne (by omega), wi_ne (by omega), wi_ne (by omega), show 7 * 1 + q = 7 + q by omega, wi_eq]
        · rw [wi_ne (by omega), wi_ne (by omega), wi_ne (by omega), show 7 * 2 + q = 14 + q by omega, wi_eq]
        · rw [wi_ne (by omega), wi_ne (by omega), show 7 * 3 + q = 21 + q by omega, wi_eq]
        · rw [wi_ne (by omega), show 7 * 4 + q = 28 + q by omega, wi_eq]
        · rw [show 7 * 5 + q = 35 + q by omega, wi_eq]
      · exact e2 t ht q (by omega) h2
    · have c0 := hc 0 (by omega) i (by omega) hi7
      have c1 := hc 1 (by omega) i (by omega) hi7
      have c2 := hc 2 (by omega) i (by omega) hi7
      have c3 := hc 3 (by omega) i (by omega) hi7
      have c4 := hc 4 (by omega) i (by omega) hi7
      have c5 := hc 5 (by omega) i (by omega) hi7
      rw [e3 c (fun t ht q h1 h2 => hc t ht q (by omega) h2), wi_ne (by omega), wi_ne (by omega), wi_ne (by omega), wi_ne (by omega), wi_ne (by omega), wi_ne (by omega)]
theorem kp_L85 {S : pS} {b : Nat} {k : gN → Option gN} (hb : 62 ≤ b) : ∀ j n i ν, i + j = 49 → j < n → RM S ν → ∃ ν', f_X9_keep_L85 b k n (nI i) ν = k ν' ∧ (∀ q, i ≤ q → q < 49 → ν'.1 b (42 + q) = if S.2.2.1 q then 1 else 0) ∧ (∀ c, ¬ (42 + i ≤ c ∧ c < 91) → ν'.1 b c = ν.1 b c) ∧ nEq (fun q => q = b) ν ν' := by
  intro j
  induction j with
  | zero =>
    intro n i ν hi hn h
    obtain ⟨n, rfl⟩ : ∃ m, n = m + 1 := ⟨n - 1, by omega⟩
    have e : i = 49 := by omega
    subst e
    exact ⟨ν, by rw [f_X9_keep_L85, if_pos (by decide)], fun q _ _ => by omega, fun _ _ => rfl, nEq.rf⟩
  | succ j ih =>
    intro n i ν hi hn h
    obtain ⟨n, rfl⟩ : ∃ m, n = m + 1 := ⟨n - 1, by omega⟩
    have hi49 : i < 49 := by omega
    have he : nEq (fun q => q = b) ν (nWI ν b (42 + i) (if S.2.2.1 i then 1 else 0)) := nEq.rf.wi (P := fun q => q = b) rfl
    obtain ⟨ν', e1, e2, e3, e4⟩ := ih n (i + 1) _ (by omega) (by omega) (h.eq he (fun q _ _ => by omega))
    refine ⟨ν', ?_, fun q h1 h2 => ?_, fun c hc => ?_, he.tr e4⟩
    · rw [← e1, f_X9_keep_L85, if_neg (by rw [le_cn (c := 49) (k := 49) rfl (by omega) (by decide)]; omega), if_pos (ib_in hi49 (by decide)), nI_clamp (by omega), h.2.2.1 i hi49, show (42 : Int32) + nI i = nI (42 + i) from nI_add 42 i, if_pos (ib_in (by omega) (by decide)), nI_clamp (by omega), ql, ql, nI_1]
      cases S.2.2.1 i with
      | false => rfl
      | true => rw [if_neg (by decide), if_pos (ib_in (by omega) (by decide))]; rfl
    · by_cases z : q = i
      · subst z; rw [e3 _ (by omega), wi_eq]
      · exact e2 q (by omega) h2
    · rw [e3 c (by omega), wi_ne (by omega)]
theorem kp_L119 {S : pS} {b : Nat} {k : gN → Option gN} (hb : 62 ≤ b) : ∀ j n i ν, i + j = 4 → j < n → RM S ν → ∃ ν', f_X9_keep_L119 b k n (nI i) ν = k ν' ∧ (∀ q, i ≤ q → q < 4 → ν'.1 b (91 + q) = S.2.2.2.1 q) ∧ (∀ c, ¬ (91 + i ≤ c ∧ c < 95) → ν'.1 b c = ν.1 b c) ∧ nEq (fun q => q = b) ν ν' := by
  intro j
  induction j with
  | zero =>
    intro n i ν hi hn h
    obtain ⟨n, rfl⟩ : ∃ m, n = m + 1 := ⟨n - 1, by omega⟩
    have e : i = 4 := by omega
    subst e
    exact ⟨ν, by rw [f_X9_keep_L119, if_pos (by decide)], fun q _ _ => by omega, fun _ _ => rfl, nEq.rf⟩
  | succ j ih =>
    intro n i ν hi hn h
    obtain ⟨n, rfl⟩ : ∃ m, n = m + 1 := ⟨n - 1, by omega⟩
    have hi4 : i < 4 := by omega
    have he : nEq (fun q => q = b) ν (nWI ν b (91 + i) (S.2.2.2.1 i)) := nEq.rf.wi (P := fun q => q = b) rfl
    obtain ⟨ν', e1, e2, e3, e4⟩ := ih n (i + 1) _ (by omega) (by omega) (h.eq he (fun q _ _ => by omega))
    refine ⟨ν', ?_, fun q h1 h2 => ?_, fun c hc => ?_, he.tr e4⟩
    · rw [← e1, f_X9_keep_L119, if_neg (by rw [le_cn (c := 4) (k := 4) rfl (by omega) (by decide)]; omega), if_pos (ib_in hi4 (by decide)), nI_clamp (by omega), h.2.2.2.1 i hi4, show (91 : Int32) + nI i = nI (91 + i) from nI_add 91 i, if_pos (ib_in (by omega) (by decide)), nI_clamp (by omega), ql, nI_1]
    · by_cases z : q = i
      · subst z; rw [e3 _ (by omega), wi_eq]
      · exact e2 q (by omega) h2
    · rw [e3 c (by omega), wi_ne (by omega)]
theorem kp9 {S : pS} {b : Nat} {ν : gN} (hb : 62 ≤ b) (h : RM S ν) : ∃ ν', f_X9_keep b ν = some ν' ∧ RK b S ν' ∧ nEq (fun q => q = b) ν ν' := by
  obtain ⟨ν1, a1, a2, a3, a4⟩ := kp_L2 (k := fun ν_25 => f_X9_keep_L85 b (fun ν_33 => f_X9_keep_L119 b (fun ν_38 => if inb 95 96 = true then qL (nWI ν_38 b (95 : Int32).toNatClampNeg (ν_38.1 53 0)) (fun ν_40 => some ν_40) else none) FU 0 ν_33) FU 0 ν_25) hb 7 FU 0 ν rfl (by decide) h
  have h1 : RM S ν1 := h.eq a4 (fun q _ _ => by omega)
  obtain ⟨ν2, b1', b2, b3, b4⟩ := kp_L85 (k := fun ν_33 => f_X9_keep_L119 b (fun ν_38 => if inb 95 96 = true then qL (nWI ν_38 b (95 : Int32).toNatClampNeg (ν_38.1 53 0)) (fun ν_40 => some ν_40) else none) FU 0 ν_33) hb 49 FU 0 ν1 rfl (by decide) h1
  have h2 : RM S ν2 := h1.eq b4 (fun q _ _ => by omega)
  obtain ⟨ν3, c1, c2, c3, c4⟩ := kp_L119 (k := fun ν_38 => if inb 95 96 = true then qL (nWI ν_38 b (95 : Int32).toNatClampNeg (ν_38.1 53 0)) (fun ν_40 => some ν_40) else none) hb 4 FU 0 ν2 rfl (by decide) h2
  have h3 : RM S ν3 := h2.eq c4 (fun q _ _ => by omega)
  refine ⟨nWI ν3 b 95 (nI S.1), ?_, ⟨fun j hj i hi => ?_, fun i hi => ?_, fun k hk => ?_, wi_eq _ _ _ _⟩, ((a4.tr b4).tr c4).wi rfl⟩
  · rw [f_X9_keep]
    refine Eq.trans a1 (Eq.trans b1' (Eq.trans c1 ?_))
    have i96 : inb 95 96 = true := rfl
    rw [if_pos i96, ql, h3.1]; rfl
  · rw [wi_ne (by omega), c3 _ (by omega), b3 _ (by omega)]; exact a2 j hj i (Nat.zero_le _) hi
  · rw [wi_ne (by omega), c3 _ (by omega)]; exact b2 i (Nat.zero_le _) hi
  · rw [wi_ne (by omega)]; exact c2 k (Nat.zero_le _) hk
/-! bringing back -/
def gP (a b : Nat) : Prop := (54 ≤ a ∧ a < 62) ∨ (a = 53 ∧ (b = 0 ∨ b = 24))
theorem ag_L2 {S : pS} {b : Nat} {k : gN → Option gN} (hb : 62 ≤ b) : ∀ j n i ν, i + j = 7 → j < n → RK b S ν → ∃ ν', f_X9_again_L2 b k n (nI i) ν = k ν' ∧ (∀ t, t < 6 → ∀ q, i ≤ q → q < 7 → ν'.1 (54 + t) q = S.2.1 t q) ∧ (∀ t, t < 6 → ∀ q, q < i → ν'.1 (54 + t) q = ν.1 (54 + t) q) ∧ nEq (fun q => 54 ≤ q ∧ q < 60) ν ν' := by
  intro j
  induction j with
  | zero =>
    intro n i ν hi hn h
    obtain ⟨n, rfl⟩ : ∃ m, n = m + 1 := ⟨n - 1, by omega⟩
    have e : i = 7 := by omega
    subst e
    exact ⟨ν, by rw [f_X9_again_L2, if_pos (by decide)], fun t _ q _ _ => by omega, fun _ _ _ _ => rfl, nEq.rf⟩
  | succ j ih =>
    intro n i ν hi hn h
    obtain ⟨n, rfl⟩ : ∃ m, n = m + 1 := ⟨n - 1, by omega⟩
    have hi7 : i < 7 := by omega
    have he : nEq (fun q => 54 ≤ q ∧ q < 60) ν (nWI (nWI (nWI (nWI (nWI (nWI ν 54 i (S.2.1 0 i)) 55 i (S.2.1 1 i)) 56 i (S.2.1 2 i)) 57 i (S.2.1 3 i)) 58 i (S.2.1 4 i)) 59 i (S.2.1 5 i)) := (((((nEq.rf.wi (P := fun q => 54 ≤ q ∧ q < 60) (by decide)).wi (by decide)).wi (by decide)).wi (by decide)).wi (by decide)).wi (by decide)
    obtain ⟨ν', e1, e2, e3, e4⟩ := ih n (i + 1) _ (by omega) (by omega) (h.eq he (by omega))
    refine ⟨ν', ?_, fun t ht q h1 h2 => ?_, fun t ht q h1 => ?_, he.tr e4⟩
    · rw [← e1]
      have r : ∀ (μ : gN) a x c, a < 62 → (nWI μ a i x).1 b c = μ.1 b c := fun μ a x c ha => wi_ne (by omega)
      have a7 : (7 : Int32) + nI i = nI (7 + i) := nI_add 7 i
      have a14 : (14 : Int32) + nI i = nI (14 + i) := nI_add 14 i
      have a21 : (21 : Int32) + nI i = nI (21 + i) := nI_add 21 i
      have a28 : (28 : Int32) + nI i = nI (28 + i) := nI_add 28 i
      have a35 : (35 : Int32) + nI i = nI (35 + i) := nI_add 35 i
      have k0 : ν.1 b i = S.2.1 0 i := by
        have z := h.1 0 (by decide) i hi7
        rw [show 7 * 0 + i = i by omega] at z
        exact z
      have k1 : ν.1 b (7 + i) = S.2.1 1 i := h.1 1 (by decide) i hi7
      have k2 : ν.1 b (14 + i) = S.2.1 2 i := h.1 2 (by decide) i hi7
      have k3 : ν.1 b (21 + i) = S.2.1 3 i := h.1 3 (by decide) i hi7
      have k4 : ν.1 b (28 + i) = S.2.1 4 i := h.1 4 (by decide) i hi7
      have k5 : ν.1 b (35 + i) = S.2.1 5 i := h.1 5 (by decide) i hi7
      rw [f_X9_again_L2, if_neg (by rw [le_cn (c := 7) (k := 7) rfl (by omega) (by decide)]; omega)]
      simp only [a7, a14, a21, a28, a35, ib_in hi7 (show 7 < 2 ^ 31 by decide), ib_in (show i < 96 by omega) (show 96 < 2 ^ 31 by decide), ib_in (show 7 + i < 96 by omega) (show 96 < 2 ^ 31 by decide), ib_in (show 14 + i < 96 by omega) (show 96 < 2 ^ 31 by decide), ib_in (show 21 + i < 96 by omega) (show 96 < 2 ^ 31 by decide), ib_in (show 28 + i < 96 by omega) (show 96 < 2 ^ 31 by decide), ib_in (show 35 + i < 96 by omega) (show 96 < 2 ^ 31 by decide), nI_clamp (show i < 2 ^ 31 by omega), nI_clamp (show 7 + i < 2 ^ 31 by omega), nI_clamp (show 14 + i < 2 ^ 31 by omega), nI_clamp (show 21 + i < 2 ^ 31 by omega), nI_clamp (show 28 + i < 2 ^ 31 by omega), nI_clamp (show 35 + i < 2 ^ 31 by omega), ↓reduceIte, ql, r _ 54 _ _ (by decide), r _ 55 _ _ (by decide), r _ 56 _ _ (by decide), r _ 57 _ _ (by decide), r _ 58 _ _ (by decide), k0, k1, k2, k3, k4, k5, nI_1]
    · by_cases z : q = i
      · subst z
        rw [e3 t ht q (by omega)]
        have ht' : t = 0 ∨ t = 1 ∨ t = 2 ∨ t = 3 ∨ t = 4 ∨ t = 5 := by omega
        rcases ht' with rfl | rfl | rfl | rfl | rfl | rfl
        · rw [wi_ne (by omega), wi_ne (by omega), wi_ne (by omega), wi_ne (by omega), wi_ne (by omega), wi_eq]
        · rw [wi_ne (by omega), wi_ne (by omega), wi_ne (by omega), wi_ne (by omega), wi_eq]
        · rw [wi_ne (by omega), wi_ne (by omega), wi_ne (by omega), wi_eq]
        · rw [wi_ne (by omega), wi_ne (by omega), wi_eq]
        · rw [wi_ne (by omega), wi_eq]
        · rw [wi_eq]
      · exact e2 t ht q (by omega) h2
    · rw [e3 t ht q (by omega), wi_ne (by omega), wi_ne (by omega), wi_ne (by omega), wi_ne (by omega), wi_ne (by omega), wi_ne (by omega)]
theorem fd9 {i : Nat} {x : Int32} (ν : gN) (hi : i < 49) (hx : zb x = true) : f_X9_fenced (nI i) x ν = some (nWI (nWI ν 60 i x) 53 24 0) := by
  rw [f_X9_fenced, if_pos (ib_in hi (by decide)), if_pos hx, ql, ql, nI_clamp (by omega)]
theorem ag_L85 {S S1 : pS} {b : Nat} {k : gN → Option gN} (hb : 62 ≤ b) : ∀ j n i ν, i + j = 49 → j < n → RK b S ν → (∀ q, i ≤ q → q < 49 → ν.1 60 q = if S1.2.2.1 q then 1 else 0) → ∃ ν', f_X9_again_L85 b k n (nI i) ν = k ν' ∧ (∀ q, i ≤ q → q < 49 → ν'.1 60 q = if S.2.2.1 q then 1 else 0) ∧ (∀ q, q < i → ν'.1 60 q = ν.1 60 q) ∧ (ν'.1 53 24 = 0 ∨ (ν'.1 53 24 = ν.1 53 24 ∧ ∀ q, i ≤ q → q < 49 → S.2.2.1 q = S1.2.2.1 q)) ∧ mEq (fun a c => a = 60 ∨ (a = 53 ∧ c = 24)) ν ν' := by
  intro j
  induction j with
  | zero =>
    intro n i ν hi hn h h1
    obtain ⟨n, rfl⟩ : ∃ m, n = m + 1 := ⟨n - 1, by omega⟩
    have e : i = 49 := by omega
    subst e
    exact ⟨ν, by rw [f_X9_again_L85, if_pos (by decide)], fun q _ _ => by omega, fun _ _ => rfl, Or.inr ⟨rfl, fun q _ _ => by omega⟩, mEq.rf⟩
  | succ j ih =>
    intro n i ν hi hn h h1
    obtain ⟨n, rfl⟩ : ∃ m, n = m + 1 := ⟨n - 1, by omega⟩
    have hi49 : i < 49 := by omega
    have k1 : ν.1 b (42 + i) = if S.2.2.1 i then 1 else 0 := h.2.1 i hi49
    have k2 : ν.1 60 i = if S1.2.2.1 i then 1 else 0 := h1 i (Nat.le_refl _) hi49
    by_cases hs : S.2.2.1 i = S1.2.2.1 i
    · obtain ⟨ν', e1, e2, e3, e4, e5⟩ := ih n (i + 1) ν (by omega) (by omega) h (fun q h2 h3 => h1 q (by omega) h3)
      refine ⟨ν', ?_, fun q h2 h3 => ?_, fun q h2 => e3 q (by omega), e4.imp id (fun z => ⟨z.1, fun q h2 h3 => ?_⟩), e5⟩
      · rw [← e1, f_X9_again_L85, if_neg (by rw [le_cn (c := 49) (k := 49) rfl (by omega) (by decide)]; omega), if_pos (ib_in hi49 (by decide)), show (42 : Int32) + nI i = nI (42 + i) from nI_add 42 i, if_pos (ib_in (by omega) (by decide)), nI_clamp (by omega), nI_clamp (by omega), k1, k2, nI_1, ← hs]
        cases S.2.2.1 i <;> rfl
      · by_cases z : q = i
        · subst z; rw [e3 q (by omega), k2, hs]
        · exact e2 q (by omega) h3
      · by_cases y : q = i
        · rw [y]; exact hs
        · exact z.2 q (by omega) h3
    · have hx : zb (i01 (S.2.2.1 i)) = true := zb_i01 _
      obtain ⟨ν', e1, e2, e3, e4, e5⟩ := ih n (i + 1) (nWI (nWI ν 60 i (i01 (S.2.2.1 i))) 53 24 0) (by omega) (by omega) (h.eq (P := fun q => q = 60 ∨ q = 53) ((nEq.rf.wi (Or.inl rfl)).wi (Or.inr rfl)) (by omega)) (fun q h2 h3 => by rw [wi_ne (by omega), wi_ne (by omega)]; exact h1 q (by omega) h3)
      refine ⟨ν', ?_, fun q h2 h3 => ?_, fun q h2 => ?_, Or.inl ?_, ((mEq.rf.wi (P := fun a c => a = 60 ∨ (a = 53 ∧ c = 24)) (Or.inl rfl)).wi (Or.inr ⟨rfl, rfl⟩)).tr e5⟩
      · rw [← e1, f_X9_again_L85, if_neg (by rw [le_cn (c := 49) (k := 49) rfl (by omega) (by decide)]; omega), if_pos (ib_in hi49 (by decide)), show (42 : Int32) + nI i = nI (42 + i) from nI_add 42 i, if_pos (ib_in (by omega) (by decide)), if_pos (ib_in (by omega) (by decide)), nI_clamp (by omega), nI_clamp (by omega), k1, k2, fd9 ν hi49 (by decide), fd9 ν hi49 (by decide), nI_1]
        cases h2 : S.2.2.1 i <;> cases h3 : S1.2.2.1 i
        · rw [h2, h3] at hs; exact absurd rfl hs
        · rfl
        · rfl
        · rw [h2, h3] at hs; exact absurd rfl hs
      · by_cases z : q = i
        · subst z; rw [e3 q (by omega), wi_ne (by omega), wi_eq]; rfl
        · exact e2 q (by omega) h3
      · rw [e3 q (by omega), wi_ne (by omega), wi_ne (by omega)]
      · rcases e4 with e4 | e4
        · exact e4
        · rw [e4.1, wi_eq]
theorem ag_L143 {S : pS} {b : Nat} {k : gN → Option gN} (hb : 62 ≤ b) : ∀ j n i ν, i + j = 4 → j < n → RK b S ν → ∃ ν', f_X9_again_L143 b k n (nI i) ν = k ν' ∧ (∀ q, i ≤ q → q < 4 → ν'.1 61 q = S.2.2.2.1 q) ∧ (∀ q, q < i → ν'.1 61 q = ν.1 61 q) ∧ nEq (fun q => q = 61) ν ν' := by
  intro j
  induction j with
  | zero =>
    intro n i ν hi hn h
    obtain ⟨n, rfl⟩ : ∃ m, n = m + 1 := ⟨n - 1, by omega⟩
    have e : i = 4 := by omega
    subst e
    exact ⟨ν, by rw [f_X9_again_L143, if_pos (by decide)], fun q _ _ => by omega, fun _ _ => rfl, nEq.rf⟩
  | succ j ih =>
    intro n i ν hi hn h
    obtain ⟨n, rfl⟩ : ∃ m, n = m + 1 := ⟨n - 1, by omega⟩
    have hi4 : i < 4 := by omega
    have he : nEq (fun q => q = 61) ν (nWI ν 61 i (S.2.2.2.1 i)) := nEq.rf.wi (P := fun q => q = 61) rfl
    obtain ⟨ν', e1, e2, e3, e4⟩ := ih n (i + 1) _ (by omega) (by omega) (h.eq he (by omega))
    refine ⟨ν', ?_, fun q h1 h2 => ?_, fun q h1 => ?_, he.tr e4⟩
    · rw [← e1, f_X9_again_L143, if_neg (by rw [le_cn (c := 4) (k := 4) rfl (by omega) (by decide)]; omega), show (91 : Int32) + nI i = nI (91 + i) from nI_add 91 i, if_pos (ib_in (by omega) (by decide)), if_pos (ib_in hi4 (by decide)), nI_clamp (by omega), nI_clamp (by omega), h.2.2.1 i hi4, ql, nI_1]
    · by_cases z : q = i
      · subst z; rw [e3 _ (by omega), wi_eq]
      · exact e2 q (by omega) h2
    · rw [e3 q (by omega), wi_ne (by omega)]
/-- S with the seed of S1 -/
def reS (S : pS) (x : Int32) : pS := (S.1, S.2.1, S.2.2.1, S.2.2.2.1, x)
theorem ag9 {S S1 : pS} {b : Nat} {ν : gN} (hb : 62 ≤ b) (h : RK b S ν) (h1 : RM S1 ν) : ∃ ν', f_X9_again b ν = some ν' ∧ RM (reS S S1.2.2.2.2) ν' ∧ (ν'.1 53 24 = 0 ∨ (ν'.1 53 24 = ν.1 53 24 ∧ ∀ q, q < 49 → S.2.2.1 q = S1.2.2.1 q)) ∧ mEq gP ν ν' := by
  obtain ⟨ν1, a1, a2, a3, a4⟩ := ag_L2 (k := fun ν_25 => f_X9_again_L85 b (fun ν_38 => f_X9_again_L143 b (fun ν_43 => if inb 95 96 = true then qL (nWI ν_43 53 0 (ν_43.1 b (95 : Int32).toNatClampNeg)) (fun ν_45 => some ν_45) else none) FU 0 ν_38) FU 0 ν_25) hb 7 FU 0 ν rfl (by decide) h
  have k1 : RK b S ν1 := h.eq a4 (by omega)
  obtain ⟨ν2, b1', b2, b3, b4, b5⟩ := ag_L85 (S1 := S1) (k := fun ν_38 => f_X9_again_L143 b (fun ν_43 => if inb 95 96 = true then qL (nWI ν_43 53 0 (ν_43.1 b (95 : Int32).toNatClampNeg)) (fun ν_45 => some ν_45) else none) FU 0 ν_38) hb 49 FU 0 ν1 rfl (by decide) k1 (fun q _ hq => by rw [(a4 60 (by omega)).1 q]; exact h1.2.2.1 q hq)
  have n5 : nEq (fun q => q = 60 ∨ q = 53) ν1 ν2 := b5.n (fun a c z => by omega)
  have k2 : RK b S ν2 := k1.eq n5 (by omega)
  obtain ⟨ν3, c1, c2, c3, c4⟩ := ag_L143 (k := fun ν_43 => if inb 95 96 = true then qL (nWI ν_43 53 0 (ν_43.1 b (95 : Int32).toNatClampNeg)) (fun ν_45 => some ν_45) else none) hb 4 FU 0 ν2 rfl (by decide) k2
  have k3 : RK b S ν3 := k2.eq c4 (by omega)
  refine ⟨nWI ν3 53 0 (nI S.1), ?_, ⟨wi_eq _ _ _ _, fun j hj i hi => ?_, fun i hi => ?_, fun k hk => ?_, ?_⟩, ?_, (((a4.m (Q := gP) (fun a c z => Or.inl ⟨z.1, by omega⟩)).tr (b5.mono (fun a c z => by unfold gP; omega))).tr (c4.m (fun a c z => Or.inl (by omega)))).wi (Or.inr ⟨rfl, Or.inl rfl⟩)⟩
  · rw [f_X9_again]
    refine Eq.trans a1 (Eq.trans b1' (Eq.trans c1 ?_))
    have i96 : inb 95 96 = true := rfl
    rw [if_pos i96, ql, show (95 : Int32).toNatClampNeg = 95 from rfl, k3.2.2.2]
  · rw [wi_ne (by omega), (c4 (54 + j) (by omega)).1, (n5 (54 + j) (by omega)).1]; exact a2 j hj i (Nat.zero_le _) hi
  · rw [wi_ne (by omega), (c4 60 (by omega)).1]; exact b2 i (Nat.zero_le _) hi
  · rw [wi_ne (by omega)]; exact c2 k (Nat.zero_le _) hk
  · rw [wi_ne (by omega), (c4 53 (by omega)).1, (b5 53 9 (by omega)).1, (a4 53 (by omega)).1]; exact h1.2.2.2.2
  · rw [wi_ne (by omega), (c4 53 (by omega)).1]
    rcases b4 with b4 | b4
    · exact Or.inl b4
    · exact Or.inr ⟨by rw [b4.1, (a4 53 (by omega)).1], fun q hq => b4.2 q (Nat.zero_le _) hq⟩
