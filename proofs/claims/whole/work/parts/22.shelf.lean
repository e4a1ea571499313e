/-! calls of the shelves: show row set element -/
theorem nI_mul (a b : Nat) : nI a * nI b = nI (a * b) := (Int32.ofNat_mul a b).symm
theorem ix_s (s i : Nat) : (160 : Int32) * nI s + nI i = nI (160 * s + i) := by
  rw [show (160 : Int32) = nI 160 from rfl, nI_mul, nI_add]
theorem m1_lt100 : ((-1 : Int32) < 100) = True := by decide
theorem m1_lt0 : ((-1 : Int32) < 0) = True := by decide
theorem m1_0le : ((0 : Int32) ≤ -1) = False := by decide
theorem m1_100le : ((100 : Int32) ≤ -1) = False := by decide
theorem q_lt100 {q : Nat} (h : q < 7) : (nI q < 100) = True := eq_true (by rw [lt_nc (c := 100) (k := 100) rfl (by omega) (by decide)]; omega)
theorem q_lt0 {q : Nat} (h : q < 2 ^ 31) : (nI q < 0) = False := eq_false (nI_pos h)
theorem q_0le {q : Nat} (h : q < 2 ^ 31) : ((0 : Int32) ≤ nI q) = True := eq_true (nI_pos' h)
theorem q_100le {q : Nat} (h : q < 7) : ((100 : Int32) ≤ nI q) = False := eq_false (by rw [le_cn (c := 100) (k := 100) rfl (by omega) (by decide)]; omega)
theorem t_lt100 {t : Nat} (h : t < 4) : (nI (100 + t) < 100) = False := eq_false (by rw [lt_nc (c := 100) (k := 100) rfl (by omega) (by decide)]; omega)
theorem t_100le {t : Nat} (h : t < 4) : ((100 : Int32) ≤ nI (100 + t)) = True := eq_true (by rw [le_cn (c := 100) (k := 100) rfl (by omega) (by decide)]; omega)
theorem t_lt0 {t : Nat} (h : t < 4) : (nI (100 + t) < 0) = False := q_lt0 (by omega)
theorem t_0le {t : Nat} (h : t < 4) : ((0 : Int32) ≤ nI (100 + t)) = True := q_0le (by omega)
theorem t_sub : ∀ t, t < 4 → nI (100 + t) - 100 = nI t := by decide +kernel
/-- the shelf x holds v from now on -/
def shv (s : Nat) (v : Int32) (n : Nat) (f : Nat → Int64) (V : (Nat → Int32) × (Nat → Nat) × (Nat → Nat → Int64)) : (Nat → Int32) × (Nat → Nat) × (Nat → Nat → Int64) := (fun q => if q = s then v else V.1 q, fun q => if q = s then n else V.2.1 q, fun q i => if q = s then f i else V.2.2 q i)
theorem IC.sH {Z : zS} {ν ν' : gN} (h : IC Z ν) {s : Nat} (hs : s < 8) {v : Int32} {n : Nat} {f : Nat → Int64} (he : nEq (fun q => q = 37 + 2 * s ∨ q = 37 + 2 * s + 1) ν ν') (h1 : ν'.1 (37 + 2 * s) 1 = v) (h2 : nI 100 ≤ v → ν'.1 (37 + 2 * s) 2 = nI n ∧ ∀ i, i < 160 → ν'.2 (37 + 2 * s + 1) i = f i) : IC (Z.1, shv s v n f Z.2.1, Z.2.2) ν' := by
  refine h.shelf s hs he (fun q hq => ?_) ?_
  · simp [shv, hq]
  · simp only [shv, ↓reduceIte]
    exact ⟨h1, h2⟩
theorem IM.sH {Z : zS} {ν ν' : gN} (h : IM Z ν) {s : Nat} (hs : s < 8) {v : Int32} {n : Nat} {f : Nat → Int64} (he : nEq (fun q => 62 ≤ q ∧ q ≤ 64) ν ν') (ho : ∀ q, q < 8 → q ≠ s → ν'.1 62 q = ν.1 62 q ∧ ν'.1 63 q = ν.1 63 q ∧ ∀ i, i < 160 → ν'.2 64 (160 * q + i) = ν.2 64 (160 * q + i)) (h1 : ν'.1 62 s = v) (h2 : nI 100 ≤ v → ν'.1 63 s = nI n ∧ ∀ i, i < 160 → ν'.2 64 (160 * s + i) = f i) : IM (Z.1, shv s v n f Z.2.1, Z.2.2) ν' := by
  refine h.shelf he (fun q hq => ?_)
  by_cases e : q = s
  · subst e
    simp only [shv, ↓reduceIte]
    exact ⟨h1, h2⟩
  · simp only [shv, if_neg e]
    obtain ⟨o1, o2, o3⟩ := ho q hq e
    obtain ⟨b1, b2⟩ := h.2.1 q hq
    exact ⟨o1.trans b1, fun z => ⟨o2.trans (b2 z).1, fun i hi => (o3 i hi).trans ((b2 z).2 i hi)⟩⟩
theorem okZ.sH {Z : zS} (hZ : okZ Z) {s : Nat} {v : Int32} {n : Nat} {f : Nat → Int64} (hv : v = -1 ∨ (∃ q, q < Z.1.1 ∧ v = nI q) ∨ (∃ t, t < 4 ∧ v = nI (100 + t) ∧ n ≤ 160)) : okZ (Z.1, shv s v n f Z.2.1, Z.2.2) := by
  refine ⟨hZ.1, fun q hq => ?_, hZ.2.2⟩
  show (if q = s then v else _) = _ ∨ (∃ q', _ ∧ (if q = s then v else _) = _) ∨ (∃ t, t < 4 ∧ (if q = s then v else _) = _ ∧ (if q = s then n else _) ≤ 160)
  by_cases e : q = s
  · simp only [if_pos e]; exact hv
  · simp only [if_neg e]; exact hZ.2.1 q hq
theorem pp_8 (s : Nat) (v : Int32) (ν : gN) : f_X6_putPerson s v ν = some (nWI (nWI ν s 1 v) s 2 0) := rfl
theorem op_show (x v : Int32) {Z : zS} (hZ : okZ Z) : both (f_X8_show x v) (f_X9_show x v) Z := by
  have hc := hZ.1.1
  rcases (rng x 8 (by decide)).symm with hx | ⟨s, hs, rfl⟩
  · refine both_no (a := -1) 1 (by decide) hZ (fun ν h => ?_) (fun ν h => ?_)
    · simp only [f_X8_show, shelf_out ν hx, Option.bind_some, ↓reduceIte, rf_1]
    · simp only [f_X9_show, wsh_out ν hx, Option.bind_some, ↓reduceIte, no_1]
  have wr : ∀ a, (v = -1 ∨ ∃ q, q < Z.1.1 ∧ v = nI q) → (∀ ν, IC Z ν → f_X8_show (nI s) v ν = some (a, nWI (nWI ν (37 + 2 * s) 1 v) (37 + 2 * s) 2 0)) → (∀ ν, IM Z ν → f_X9_show (nI s) v ν = some (a, nWI ν 62 s v)) → both (f_X8_show (nI s) v) (f_X9_show (nI s) v) Z := fun a hv e8 e9 => by
    have hl : ¬ nI 100 ≤ v := by
      rcases hv with rfl | ⟨q, hq, rfl⟩
      · decide
      · exact nI_ge (by omega) (by decide)
    refine ⟨a, _, hZ.sH (s := s) (v := v) (n := 0) (f := fun _ => 0) ?_, fun ν h => ⟨_, e8 ν h, h.sH hs ((nEq.rf.wi (Or.inl rfl)).wi (Or.inl rfl)) (by rw [wi_ne (by omega), wi_eq]) (fun z => absurd z hl), (nEq.rf.wi (by show _ < 53; omega)).wi (by show _ < 53; omega)⟩, fun ν h => ⟨_, e9 ν h, h.sH hs (nEq.rf.wi (by decide)) (fun q hq hn => ⟨wi_ne (by omega), wi_ne (by omega), fun _ _ => rfl⟩) (wi_eq _ _ _ _) (fun z => absurd z hl), nEq.rf.wi (by decide)⟩⟩
    rcases hv with rfl | hv
    · exact Or.inl rfl
    · exact Or.inr (Or.inl hv)
  by_cases hv : v = -1
  · subst hv
    refine wr 0 (Or.inl rfl) (fun ν h => ?_) (fun ν h => ?_)
    · simp only [f_X8_show, shelf_in ν hs, Option.bind_some, b1, ↓reduceIte, ib_in hs (show 8 < 2 ^ 31 by decide), nI_clamp (show s < 2 ^ 31 by omega), pp_8]
    · simp only [f_X9_show, wsh_in ν hs, Option.bind_some, b1, ↓reduceIte, ib_in hs (show 8 < 2 ^ 31 by decide), nI_clamp (show s < 2 ^ 31 by omega), ql]
  rcases (rng v Z.1.1 (by omega)).symm with hx | ⟨q, hq, rfl⟩
  · refine both_no (a := -1) 1 (by decide) hZ (fun ν h => ?_) (fun ν h => ?_)
    · simp only [f_X8_show, shelf_in ν hs, Option.bind_some, b1, ↓reduceIte, hv, per_out h.1 hx, rf_1]
    · simp only [f_X9_show, wsh_in ν hs, Option.bind_some, b1, ↓reduceIte, hv, one_out h.1 hc hx, no_1]
  · refine wr 1 (Or.inr ⟨q, hq, rfl⟩) (fun ν h => ?_) (fun ν h => ?_)
    · simp only [f_X8_show, shelf_in ν hs, Option.bind_some, b1, ↓reduceIte, hv, per_in h.1 hc hq, ib_in hs (show 8 < 2 ^ 31 by decide), nI_clamp (show s < 2 ^ 31 by omega), pp_8]
    · simp only [f_X9_show, wsh_in ν hs, Option.bind_some, b1, ↓reduceIte, hv, one_in h.1 hc hq, ib_in hs (show 8 < 2 ^ 31 by decide), nI_clamp (show s < 2 ^ 31 by omega), ql]
theorem fill_L {b N : Nat} {x : Int64} {k : gN → Option gN} (hN : N < 2 ^ 31) : ∀ j n i ν, i + j = N → j < n → ∃ ν', f_J7_fill_d0a16_L6 b N x (nI N) k n (nI i) ν = k ν' ∧ ν'.1 = ν.1 ∧ (∀ a q, ν'.2 a q = if a = b ∧ i ≤ q ∧ q < N then x else ν.2 a q) := by
  intro j
  induction j with
  | zero =>
    intro n i ν hi hn
    obtain ⟨n, rfl⟩ : ∃ m, n = m + 1 := ⟨n - 1, by omega⟩
    refine ⟨ν, ?_, rfl, fun a q => ?_⟩
    · rw [f_J7_fill_d0a16_L6, if_pos (nI_le (by omega) (by omega))]
    · rw [if_neg (by omega)]
  | succ j ih =>
    intro n i ν hi hn
    obtain ⟨n, rfl⟩ : ∃ m, n = m + 1 := ⟨n - 1, by omega⟩
    obtain ⟨ν', e1, e2, e3⟩ := ih n (i + 1) (nWL ν b i x) (by omega) (by omega)
    refine ⟨ν', ?_, e2, fun a q => ?_⟩
    · rw [f_J7_fill_d0a16_L6, if_neg (nI_ge (by omega) (by omega)), if_pos (ib_in (by omega) hN), nI_clamp (by omega), ql, nI_1, e1]
    · rw [e3]
      by_cases g : a = b ∧ i + 1 ≤ q ∧ q < N
      · rw [if_pos g, if_pos (by omega)]
      · rw [if_neg g]
        by_cases g2 : a = b ∧ q = i
        · rw [g2.1, g2.2, wl_eq, if_pos (by omega)]
        · rw [wl_ne (by omega), if_neg (by omega)]
theorem rowf_L {s : Nat} (hs : s < 8) {k : gN → Option (Int32 × gN)} : ∀ j n i ν, i + j = 160 → j < n → ∃ ν', f_X9_row_L77 (nI s) k n (nI i) ν = k ν' ∧ ν'.1 = ν.1 ∧ (∀ a q, ν'.2 a q = if a = 64 ∧ 160 * s + i ≤ q ∧ q < 160 * s + 160 then 0 else ν.2 a q) := by
  intro j
  induction j with
  | zero =>
    intro n i ν hi hn
    obtain ⟨n, rfl⟩ : ∃ m, n = m + 1 := ⟨n - 1, by omega⟩
    refine ⟨ν, ?_, rfl, fun a q => ?_⟩
    · have e : i = 160 := by omega
      subst e
      rw [f_X9_row_L77, if_pos (show (160 : Int32) ≤ nI 160 from by decide)]
    · rw [if_neg (by omega)]
  | succ j ih =>
    intro n i ν hi hn
    obtain ⟨n, rfl⟩ : ∃ m, n = m + 1 := ⟨n - 1, by omega⟩
    obtain ⟨ν', e1, e2, e3⟩ := ih n (i + 1) (nWL ν 64 (160 * s + i) 0) (by omega) (by omega)
    refine ⟨ν', ?_, e2, fun a q => ?_⟩
    · rw [f_X9_row_L77, if_neg (by rw [le_cn (c := 160) (k := 160) rfl (by omega) (by decide)]; omega), ix_s, if_pos (ib_in (by omega) (by decide)), nI_clamp (by omega), ql, nI_1, e1]
    · rw [e3]
      by_cases g : a = 64 ∧ 160 * s + (i + 1) ≤ q ∧ q < 160 * s + 160
      · rw [if_pos g, if_pos (by omega)]
      · rw [if_neg g]
        by_cases g2 : a = 64 ∧ q = 160 * s + i
        · rw [g2.1, g2.2, wl_eq, if_pos (by omega)]
        · rw [wl_ne (by omega), if_neg (by omega)]
theorem op_row (x t n : Int32) {Z : zS} (hZ : okZ Z) : both (f_X8_row x t n) (f_X9_row x t n) Z := by
  rcases (rng x 8 (by decide)).symm with hx | ⟨s, hs, rfl⟩
  · refine both_no (a := -1) 1 (by decide) hZ (fun ν h => ?_) (fun ν h => ?_)
    · simp only [f_X8_row, shelf_out ν hx, Option.bind_some, ↓reduceIte, rf_1]
    · simp only [f_X9_row, wsh_out ν hx, Option.bind_some, ↓reduceIte, no_1]
  by_cases h0 : (0 : Int32) ≤ n
  · rcases (rng t 4 (by decide)).symm with hx | ⟨k, hk, rfl⟩
    · have hb : bt t 0 3 = false := by
        rcases out_of (n := 3) (by decide) hx with z | z
        · simp [bt, z]
        · have z' : (3 : Int32) < t := z
          simp [bt, z']
      refine both_no (a := -6) 6 (by decide) hZ (fun ν h => ?_) (fun ν h => ?_)
      · simp only [f_X8_row, shelf_in ν hs, Option.bind_some, b1, ↓reduceIte, h0, rf_6]
        by_cases g : t < 0
        · rw [if_pos g]
        · have g4 : ¬ t < 4 := by
            have z' : (4 : Int32) ≤ t := hx.resolve_left g
            rw [Int32.le_iff_toInt_le] at z'
            rw [Int32.lt_iff_toInt_lt]; omega
          rw [if_neg g, if_neg g4]
      · simp only [f_X9_row, wsh_in ν hs, Option.bind_some, b1, ↓reduceIte, h0, bw9, hb, i01_f, no_6]
    · have hb : bt (nI k) 0 3 = true := by
        refine decide_eq_true ⟨nI_pos (by omega), ?_⟩
        rw [lt_cn (c := 3) (k := 3) rfl (by omega) (by decide)]; omega
      have g4 : nI k < 4 := by rw [lt_nc (c := 4) (k := 4) rfl (by omega) (by decide)]; omega
      by_cases h1 : n ≤ 160
      · obtain ⟨l, hl, rfl⟩ := nI_of2 (M := 160) (n := 160) rfl (fun z => by rw [Int32.lt_iff_toInt_lt] at z; rw [Int32.le_iff_toInt_le] at h0; omega) h1
        have e100 : (100 : Int32) + nI k = nI (100 + k) := nI_add 100 k
        refine ⟨1, _, hZ.sH (s := s) (v := nI (100 + k)) (n := l) (f := fun _ => 0) (Or.inr (Or.inr ⟨k, hk, rfl, hl⟩)), fun ν h => ?_, fun ν h => ?_⟩
        · obtain ⟨ν', e1, e2, e3⟩ := fill_L (b := 37 + 2 * s + 1) (N := 160) (x := 0) (k := fun ν => some ν) (by decide) 160 FU 0 (nWI (nWI ν (37 + 2 * s) 1 (nI (100 + k))) (37 + 2 * s) 2 (nI l)) rfl (by decide)
          refine ⟨ν', ?_, h.sH hs (fun a ha => ⟨fun b => ?_, fun b => ?_⟩) ?_ (fun _ => ⟨?_, fun i hi => ?_⟩), fun a ha => ⟨fun b => ?_, fun b => ?_⟩⟩
          · simp only [f_X8_row, shelf_in ν hs, Option.bind_some, b1, ↓reduceIte, h0, q_lt0 (show k < 2 ^ 31 by omega), g4, h1, ib_in hs (show 8 < 2 ^ 31 by decide), nI_clamp (show s < 2 ^ 31 by omega), f_X6_putRow, f_J7_fill_d0a16, ql, e100]
            rw [show (0 : Int32) = nI 0 from rfl, e1]
            rfl
          · rw [e2, wi_ne (by omega), wi_ne (by omega)]
          · rw [e3, if_neg (by omega)]; rfl
          · rw [e2, wi_ne (by omega), wi_eq]
          · rw [e2, wi_eq]
          · rw [e3, if_pos (by omega)]
          · have ha' : ¬ a < 53 := ha
            rw [e2, wi_ne (by omega), wi_ne (by omega)]
          · have ha' : ¬ a < 53 := ha
            rw [e3, if_neg (by omega)]; rfl
        · obtain ⟨ν', e1, e2, e3⟩ := rowf_L hs (k := fun ν_14 => some (1, ν_14)) 160 FU 0 (nWI (nWI ν 62 s (nI (100 + k))) 63 s (nI l)) rfl (by decide)
          refine ⟨ν', ?_, h.sH hs (fun a ha => ⟨fun b => ?_, fun b => ?_⟩) (fun q hq hn => ⟨?_, ?_, fun i hi => ?_⟩) ?_ (fun _ => ⟨?_, fun i hi => ?_⟩), fun a ha => ⟨fun b => ?_, fun b => ?_⟩⟩
          · simp only [f_X9_row, wsh_in ν hs, Option.bind_some, b1, ↓reduceIte, h0, bw9, hb, i01_1, h1, ib_in hs (show 8 < 2 ^ 31 by decide), nI_clamp (show s < 2 ^ 31 by omega), ql, e100]
            rw [show (0 : Int32) = nI 0 from rfl, e1]
          · rw [e2, wi_ne (by omega), wi_ne (by omega)]
          · rw [e3, if_neg (by omega)]; rfl
          · rw [e2, wi_ne (by omega), wi_ne (by omega)]
          · rw [e2, wi_ne (by omega), wi_ne (by omega)]
          · rw [e3, if_neg (by omega)]; rfl
          · rw [e2, wi_ne (by omega), wi_eq]
          · rw [e2, wi_eq]
          · rw [e3, if_pos (by omega)]
          · have ha' : ¬ 53 ≤ a := ha
            rw [e2, wi_ne (by omega), wi_ne (by omega)]
          · have ha' : ¬ 53 ≤ a := ha
            rw [e3, if_neg (by omega)]; rfl
      · refine both_no (a := -7) 7 (by decide) hZ (fun ν h => ?_) (fun ν h => ?_)
        · simp only [f_X8_row, shelf_in ν hs, Option.bind_some, b1, ↓reduceIte, h0, q_lt0 (show k < 2 ^ 31 by omega), g4, h1, rf_7]
        · simp only [f_X9_row, wsh_in ν hs, Option.bind_some, b1, ↓reduceIte, h0, bw9, hb, i01_1, h1, no_7]
  · refine both_no (a := -4) 4 (by decide) hZ (fun ν h => ?_) (fun ν h => ?_)
    · simp only [f_X8_row, shelf_in ν hs, Option.bind_some, b1, ↓reduceIte, h0, rf_4]
    · simp only [f_X9_row, wsh_in ν hs, Option.bind_some, b1, ↓reduceIte, h0, no_4]
