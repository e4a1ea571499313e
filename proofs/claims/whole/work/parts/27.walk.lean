/-! STEPS AND WALKS: what both sides go by; the class's chart -/
theorem lev_open {F : Nat → Bool} {s : Nat} : ∀ n t, lev F s n t ≠ 99 → t = s ∨ F t = false := by
  intro n
  induction n with
  | zero =>
    intro t h
    rw [lev] at h
    by_cases e : t = s
    · exact Or.inl e
    · rw [if_neg e] at h; exact absurd rfl h
  | succ n ih =>
    intro t h
    rw [lev] at h
    by_cases e : lev F s n t ≠ 99
    · exact ih t e
    · rw [if_neg e] at h
      by_cases g : F t = false ∧ ∃ u, u < 49 ∧ nbr u t ∧ lev F s n u = n
      · exact Or.inr g.1
      · rw [if_neg g] at h; exact absurd rfl h
theorem dst_le (F : Nat → Bool) (s t : Nat) : dst F s t ≤ 99 := by
  rcases lev_le F s 49 t with q | q
  · rw [dst]; omega
  · rw [dst]; omega
theorem dst_fen {F : Nat → Bool} {t : Nat} (h0 : F 24 = false) (h : F t = true) : dst F 24 t = 99 := by
  refine Classical.byContradiction (fun q => ?_)
  rcases lev_open 49 t q with e | e
  · rw [e, h0] at h; exact absurd h (by decide)
  · rw [e] at h; exact absurd h (by decide)
def stq (D : Nat → Nat) (b : Bool) (u best d : Nat) : Nat := if bsd u d = 99 ∨ D (bsd u d) = 99 then best else if b = true then (if D (bsd u d) ≤ D best then best else bsd u d) else (if D best ≤ D (bsd u d) then best else bsd u d)
def stN (D : Nat → Nat) (b : Bool) (u : Nat) : Nat → Nat
  | 0 => u
  | n + 1 => stq D b u (stN D b u n) n
def stp (D : Nat → Nat) (b : Bool) (u : Nat) : Nat := stN D b u 4
theorem stN_lt {D : Nat → Nat} {b : Bool} {u : Nat} (hu : u < 49) : ∀ n, n ≤ 4 → stN D b u n < 49
  | 0, _ => hu
  | n + 1, h => by
    have ih := stN_lt (D := D) (b := b) hu n (by omega)
    have hb := (bs_t u hu n (by omega)).2
    rw [stN, stq]
    split
    · exact ih
    · next g =>
      have : bsd u n < 49 := by omega
      split <;> split <;> assumption
theorem stp_lt {D : Nat → Nat} {b : Bool} {u : Nat} (hu : u < 49) : stp D b u < 49 := stN_lt hu 4 (Nat.le_refl _)
theorem stN_open {F : Nat → Bool} {b : Bool} {u : Nat} (h0 : F 24 = false) (hu : F u = false) : ∀ n, F (stN (dst F 24) b u n) = false
  | 0 => hu
  | n + 1 => by
    have ih := stN_open (b := b) h0 hu n
    rw [stN, stq]
    split
    · exact ih
    · next g =>
      have : F (bsd u n) = false := by
        cases hf : F (bsd u n) with
        | false => rfl
        | true => exact absurd (Or.inr (dst_fen h0 hf)) g
      split <;> split <;> assumption
/-- n steps -/
def wlk (D : Nat → Nat) (b : Bool) : Nat → Nat → Nat
  | 0, u => u
  | n + 1, u => wlk D b n (stp D b u)
theorem wlk_lt {D : Nat → Nat} {b : Bool} : ∀ n u, u < 49 → wlk D b n u < 49
  | 0, _, h => h
  | n + 1, _, h => wlk_lt n _ (stp_lt h)
theorem wlk_open {F : Nat → Bool} {b : Bool} (h0 : F 24 = false) : ∀ n u, F u = false → F (wlk (dst F 24) b n u) = false
  | 0, _, h => h
  | n + 1, _, h => wlk_open h0 n _ (stN_open h0 h 4)
/-! the class's tables away and toward -/
theorem aw_L {u : Nat} {F : Nat → Bool} {ν : gN} {k : Int32 → gN → Option (Int32 × gN)} (hu : u < 49) (hT : TT 25 (dst F 24) ν) : ∀ j n d, d + j = 4 → j < n → f_X7_stepAway_L4 (nI u) k n (nI (stN (dst F 24) true u d)) (nI d) ν = k (nI (stp (dst F 24) true u)) ν := by
  intro j
  induction j with
  | zero =>
    intro n d hd hn
    obtain ⟨n, rfl⟩ : ∃ m, n = m + 1 := ⟨n - 1, by omega⟩
    have e : d = 4 := by omega
    subst e
    rw [f_X7_stepAway_L4, if_pos (by decide)]; rfl
  | succ j ih =>
    intro n d hd hn
    obtain ⟨n, rfl⟩ : ∃ m, n = m + 1 := ⟨n - 1, by omega⟩
    have hd4 : d < 4 := by omega
    have g0 : ¬ (4 : Int32) ≤ nI d := by rw [le_cn (c := 4) (k := 4) rfl (by omega) (by decide)]; omega
    have hb0 := stN_lt (D := dst F 24) (b := true) hu d (by omega)
    have ih := ih n (d + 1) (by omega) (by omega)
    rw [stN, stq] at ih
    rw [f_X7_stepAway_L4, if_neg g0]
    rcases (bs_t u hu d hd4).2 with hb | hb
    · rw [be8_no ν hu hd4 hb, Option.bind_some, if_pos rfl, nI_1]
      rw [if_pos (Or.inl hb)] at ih
      exact ih
    · have l1 := dst_le F 24 (bsd u d)
      have l2 := dst_le F 24 (stN (dst F 24) true u d)
      rw [be8_at ν hu hd4 hb, Option.bind_some, if_neg (show ¬ nI (bsd u d) = -1 from fun q => nI_pos (show bsd u d < 2 ^ 31 by omega) (by rw [q]; decide)), if_pos (ib_in hb (by decide)), nI_clamp (by omega), hT _ hb, nI_1]
      have e9 : nI (dst F 24 (bsd u d)) = 99 ↔ dst F 24 (bsd u d) = 99 := eq_nc (c := 99) (k := 99) rfl (by omega) (by decide)
      by_cases g : dst F 24 (bsd u d) = 99
      · rw [if_pos (e9.mpr g)]
        rw [if_pos (Or.inr g)] at ih
        exact ih
      · rw [if_neg (fun q => g (e9.mp q)), if_pos (ib_in hb (by decide)), if_pos (ib_in hb0 (by decide)), nI_clamp (by omega), hT _ hb0]
        rw [if_neg (by omega), if_pos rfl] at ih
        by_cases g2 : dst F 24 (bsd u d) ≤ dst F 24 (stN (dst F 24) true u d)
        · rw [if_pos (nI_le g2 (by omega))]
          rw [if_pos g2] at ih
          exact ih
        · rw [if_neg (nI_ge (by omega) (by omega))]
          rw [if_neg g2] at ih
          exact ih
theorem to_L {u : Nat} {F : Nat → Bool} {ν : gN} {k : Int32 → gN → Option (Int32 × gN)} (hu : u < 49) (hT : TT 25 (dst F 24) ν) : ∀ j n d, d + j = 4 → j < n → f_X7_stepToward_L4 (nI u) k n (nI (stN (dst F 24) false u d)) (nI d) ν = k (nI (stp (dst F 24) false u)) ν := by
  intro j
  induction j with
  | zero =>
    intro n d hd hn
    obtain ⟨n, rfl⟩ : ∃ m, n = m + 1 := ⟨n - 1, by omega⟩
    have e : d = 4 := by omega
    subst e
    rw [f_X7_stepToward_L4, if_pos (by decide)]; rfl
  | succ j ih =>
    intro n d hd hn
    obtain ⟨n, rfl⟩ : ∃ m, n = m + 1 := ⟨n - 1, by omega⟩
    have hd4 : d < 4 := by omega
    have g0 : ¬ (4 : Int32) ≤ nI d := by rw [le_cn (c := 4) (k := 4) rfl (by omega) (by decide)]; omega
    have hb0 := stN_lt (D := dst F 24) (b := false) hu d (by omega)
    have ih := ih n (d + 1) (by omega) (by omega)
    rw [stN, stq] at ih
    rw [f_X7_stepToward_L4, if_neg g0]
    rcases (bs_t u hu d hd4).2 with hb | hb
    · rw [be8_no ν hu hd4 hb, Option.bind_some, if_pos rfl, nI_1]
      rw [if_pos (Or.inl hb)] at ih
      exact ih
    · have l1 := dst_le F 24 (bsd u d)
      have l2 := dst_le F 24 (stN (dst F 24) false u d)
      rw [be8_at ν hu hd4 hb, Option.bind_some, if_neg (show ¬ nI (bsd u d) = -1 from fun q => nI_pos (show bsd u d < 2 ^ 31 by omega) (by rw [q]; decide)), if_pos (ib_in hb (by decide)), if_pos (ib_in hb0 (by decide)), nI_clamp (by omega), nI_clamp (by omega), hT _ hb, hT _ hb0, nI_1]
      by_cases g2 : dst F 24 (stN (dst F 24) false u d) ≤ dst F 24 (bsd u d)
      · rw [if_pos (nI_le g2 (by omega))]
        have e : (if bsd u d = 99 ∨ dst F 24 (bsd u d) = 99 then stN (dst F 24) false u d else if false = true then (if dst F 24 (bsd u d) ≤ dst F 24 (stN (dst F 24) false u d) then stN (dst F 24) false u d else bsd u d) else (if dst F 24 (stN (dst F 24) false u d) ≤ dst F 24 (bsd u d) then stN (dst F 24) false u d else bsd u d)) = stN (dst F 24) false u d := by
          split
          · rfl
          · simp [g2]
        rw [e] at ih
        exact ih
      · rw [if_neg (nI_ge (by omega) (by omega))]
        rw [if_neg (by omega), if_neg (by decide), if_neg g2] at ih
        exact ih
theorem aw8 {u : Nat} {F : Nat → Bool} {ν : gN} (hu : u < 49) (hT : TT 25 (dst F 24) ν) : f_X7_stepAway (nI u) ν = some (nI (stp (dst F 24) true u), ν) := by
  rw [f_X7_stepAway]
  exact aw_L hu hT 4 FU 0 rfl (by decide)
theorem to8 {u : Nat} {F : Nat → Bool} {ν : gN} (hu : u < 49) (hT : TT 25 (dst F 24) ν) : f_X7_stepToward (nI u) ν = some (nI (stp (dst F 24) false u), ν) := by
  rw [f_X7_stepToward]
  exact to_L hu hT 4 FU 0 rfl (by decide)
/-- the chart is drawn -/
def CH (F : Nat → Bool) (ν : gN) : Prop := TT 25 (dst F 24) ν ∧ TT 26 (stp (dst F 24) true) ν ∧ TT 27 (stp (dst F 24) false) ν
theorem ch_L {F : Nat → Bool} {k : gN → Option gN} : ∀ j n i ν, i + j = 49 → j < n → TT 25 (dst F 24) ν → (∀ t, t < i → ν.1 26 t = nI (stp (dst F 24) true t)) → (∀ t, t < i → ν.1 27 t = nI (stp (dst F 24) false t)) → ∃ ν', f_X7_chart_L13 k n (nI i) ν = k ν' ∧ CH F ν' ∧ nEq (fun q => 25 ≤ q ∧ q ≤ 27) ν ν' := by
  intro j
  induction j with
  | zero =>
    intro n i ν hi hn h5 h6 h7
    obtain ⟨n, rfl⟩ : ∃ m, n = m + 1 := ⟨n - 1, by omega⟩
    have e : i = 49 := by omega
    subst e
    exact ⟨ν, by rw [f_X7_chart_L13, if_pos (by decide)], ⟨h5, h6, h7⟩, nEq.rf⟩
  | succ j ih =>
    intro n i ν hi hn h5 h6 h7
    obtain ⟨n, rfl⟩ : ∃ m, n = m + 1 := ⟨n - 1, by omega⟩
    have hi49 : i < 49 := by omega
    have h5' : TT 25 (dst F 24) (nWI ν 26 i (nI (stp (dst F 24) true i))) := h5.eq (P := fun q => q = 26) (nEq.rf.wi rfl) (by decide)
    obtain ⟨ν', e1, e2, e3⟩ := ih n (i + 1) (nWI (nWI ν 26 i (nI (stp (dst F 24) true i))) 27 i (nI (stp (dst F 24) false i))) (by omega) (by omega) (h5'.eq (P := fun q => q = 27) (nEq.rf.wi rfl) (by decide)) (fun t ht => by
      rw [wi_ne (by omega)]
      by_cases z : t = i
      · rw [z, wi_eq]
      · rw [wi_ne (by omega)]; exact h6 t (by omega)) (fun t ht => by
      by_cases z : t = i
      · rw [z, wi_eq]
      · rw [wi_ne (by omega), wi_ne (by omega)]; exact h7 t (by omega))
    refine ⟨ν', ?_, e2, ((nEq.rf.wi (P := fun q => 25 ≤ q ∧ q ≤ 27) (by decide)).wi (by decide)).tr e3⟩
    rw [f_X7_chart_L13, if_neg (by rw [le_cn (c := 49) (k := 49) rfl (by omega) (by decide)]; omega), aw8 hi49 h5, Option.bind_some, if_pos (ib_in hi49 (by decide)), ql, nI_clamp (by omega), to8 hi49 h5', Option.bind_some, if_pos (ib_in hi49 (by decide)), ql, nI_1]
    exact e1
theorem ch8 {F : Nat → Bool} {m : Int64} (ν : gN) (hm : MK F m) : ∃ ν', f_X7_chart m ν = some ν' ∧ CH F ν' ∧ nEq (fun q => 25 ≤ q ∧ q ≤ 29) ν ν' := by
  obtain ⟨ν1, e1, e2, e3⟩ := sp8 (s := 24) ν (Or.inl rfl) hm (by decide)
  obtain ⟨ν', f1, f2, f3⟩ := ch_L (F := F) (k := fun ν_13 => some ν_13) 49 FU 0 ν1 rfl (by decide) e2 (fun t h => by omega) (fun t h => by omega)
  refine ⟨ν', ?_, f2, (e3.mono (Q := fun q => 25 ≤ q ∧ q ≤ 29) (fun a h => by omega)).tr (f3.mono (fun a h => by omega))⟩
  rw [f_X7_chart, show (24 : Int32) = nI 24 from rfl, e1, Option.bind_some]
  exact f1
theorem wk_L {F : Nat → Bool} {ν : gN} {b : Bool} {m : Nat} {k : Int32 → gN → Option (Int32 × gN)} (hC : CH F ν) (hm : m < 2 ^ 31) : ∀ j n i u, i + j = m → j < n → u < 49 → f_X7_walk_L6 (i01 b) (nI m) k n (nI u) (nI i) ν = k (nI (wlk (dst F 24) b j u)) ν := by
  intro j
  induction j with
  | zero =>
    intro n i u hi hn hu
    obtain ⟨n, rfl⟩ : ∃ m, n = m + 1 := ⟨n - 1, by omega⟩
    rw [f_X7_walk_L6, if_pos (nI_le (by omega) (by omega))]; rfl
  | succ j ih =>
    intro n i u hi hn hu
    obtain ⟨n, rfl⟩ : ∃ m, n = m + 1 := ⟨n - 1, by omega⟩
    have ih := ih n (i + 1) (stp (dst F 24) b u) (by omega) (by omega) (stp_lt hu)
    rw [f_X7_walk_L6, if_neg (nI_ge (by omega) (by omega)), if_pos (ib_in hu (by decide)), nI_clamp (by omega), hC.2.2 u hu, hC.2.1 u hu, nI_1]
    cases b with
    | false => rw [if_pos (by decide)]; exact ih
    | true => rw [if_neg (by decide), if_pos (ib_in hu (by decide))]; exact ih
theorem wk8 {F : Nat → Bool} {ν : gN} {b : Bool} {m u : Nat} (hC : CH F ν) (hm : m < 50000) (hu : u < 49) : f_X7_walk (nI u) (i01 b) (nI m) ν = some (nI (wlk (dst F 24) b m u), ν) := by
  rw [f_X7_walk]
  exact wk_L hC (by omega) m FU 0 u (by omega) (by unfold FU; omega) hu
/-! pace -/
def pcI (k a p w : Int32) : Int32 := if k = 2 then (p + 1) / 2 else if k = 3 then p else if k = 4 then p else if k = 5 then (if j_rem w (a + 2) = 0 then 0 else (p + 1) / 2) else if k = 6 then p + 1 else p
theorem pc3 {k a p w : Int32} (ν : gN) (ha : ¬ a + 2 = 0) : f_X3_pace k a p w ν = some (pcI k a p w, ν) := by
  simp only [f_X3_pace, pcI, ha, not_false_eq_true, ↓reduceIte]
  repeat (split <;> try rfl)
theorem p12 : ∀ p, p ≤ 4 → (nI p + 1) / 2 = nI ((p + 1) / 2) := by decide +kernel
theorem pc_n {k a p w : Int32} (hp : ∃ q, 1 ≤ q ∧ q ≤ 4 ∧ p = nI q) : ∃ n, n ≤ 5 ∧ pcI k a p w = nI n := by
  obtain ⟨q, _, hq, rfl⟩ := hp
  unfold pcI
  rw [p12 q hq, nI_1]
  by_cases h2 : k = 2
  · exact ⟨(q + 1) / 2, by omega, by rw [if_pos h2]⟩
  rw [if_neg h2]
  by_cases h3 : k = 3
  · exact ⟨q, by omega, by rw [if_pos h3]⟩
  rw [if_neg h3]
  by_cases h4 : k = 4
  · exact ⟨q, by omega, by rw [if_pos h4]⟩
  rw [if_neg h4]
  by_cases h5 : k = 5
  · rw [if_pos h5]
    by_cases h : j_rem w (a + 2) = 0
    · exact ⟨0, by omega, by rw [if_pos h]; rfl⟩
    · exact ⟨(q + 1) / 2, by omega, by rw [if_neg h]⟩
  rw [if_neg h5]
  by_cases h6 : k = 6
  · exact ⟨q + 1, by omega, by rw [if_pos h6]⟩
  · exact ⟨q, by omega, by rw [if_neg h6]⟩
def pcN (S : pS) (i : Nat) (w : Int32) : Nat := (pcI (S.2.1 0 i) (S.2.1 1 i) (S.2.1 3 i) w).toNatClampNeg
theorem pcN_e {S : pS} {i : Nat} (w : Int32) (hv : vP S i) : pcI (S.2.1 0 i) (S.2.1 1 i) (S.2.1 3 i) w = nI (pcN S i w) ∧ pcN S i w ≤ 5 := by
  obtain ⟨n, h1, h2⟩ := pc_n (k := S.2.1 0 i) (a := S.2.1 1 i) (w := w) hv.2.2.2.1
  rw [pcN, h2, nI_clamp (by omega)]
  exact ⟨rfl, h1⟩
theorem a2_ne {S : pS} {i : Nat} (hv : vP S i) : ¬ S.2.1 1 i + 2 = 0 := by
  obtain ⟨k, hk, e⟩ := hv.2.1
  rw [e, show (2 : Int32) = nI 2 from rfl, nI_add]
  exact nI_ne0 (by omega) (by omega)
/-- the place of i after y yards -/
noncomputable def posN (S : pS) (i : Nat) : Nat → Nat
  | 0 => (S.2.1 4 i).toNatClampNeg
  | y + 1 => wlk (dst S.2.2.1 24) (flS S i) (pcN S i (S.2.2.2.1 2 + nI y)) (posN S i y)
theorem posN_0 {S : pS} {i : Nat} (hv : vP S i) : S.2.1 4 i = nI (posN S i 0) ∧ posN S i 0 < 49 ∧ S.2.2.1 (posN S i 0) = false := by
  obtain ⟨k, hk, e, hf⟩ := hv.2.2.2.2
  rw [posN, e, nI_clamp (by omega)]
  exact ⟨rfl, hk, hf⟩
theorem posN_ok {S : pS} {i : Nat} (hv : vP S i) (h0 : S.2.2.1 24 = false) : ∀ y, posN S i y < 49 ∧ S.2.2.1 (posN S i y) = false
  | 0 => (posN_0 hv).2
  | y + 1 => ⟨wlk_lt _ _ (posN_ok hv h0 y).1, wlk_open h0 _ _ (posN_ok hv h0 y).2⟩
theorem ay8 {p i u y : Nat} {S : pS} {ν : gN} (h : RP p S ν) (hC : CH S.2.2.1 ν) (hi : i < 7) (hv : vP S i) (hu : u < 49) (w : Int32) : f_X4_afterYard p (nI i) (nI u) w ν = some (nI (wlk (dst S.2.2.1 24) (flS S i) (pcN S i w) u), ν) := by
  have hp := pcN_e w hv
  simp only [f_X4_afterYard, ib_in hi (show 7 < 2 ^ 31 by decide), ↓reduceIte, nI_clamp (show i < 2 ^ 31 by omega), h.c0 hi, h.c1 hi, h.c3 hi, pc3 ν (a2_ne hv), Option.bind_some, fl8 h hi, hp.1, wk8 hC (show pcN S i w < 50000 by omega) hu]
theorem lk_y {p i m : Nat} {S : pS} {k : gN → Option gN} (hp : p < 20) (hi : i < 7) (hv : vP S i) (h0 : S.2.2.1 24 = false) (hm : m < 2 ^ 31) : ∀ j n y ν, y + j = m → j < n → RP p S ν → CH S.2.2.1 ν → ν.1 31 i = nI (posN S i y) → ∃ ν', f_X2_look_L29 p (nI m) (nI i) k n (nI y) ν = k ν' ∧ ν'.1 31 i = nI (posN S i m) ∧ (∀ q, q ≠ i → ν'.1 31 q = ν.1 31 q) ∧ nEq (fun q => q = 31) ν ν' := by
  intro j
  induction j with
  | zero =>
    intro n y ν hj hn h hC hq
    obtain ⟨n, rfl⟩ : ∃ m, n = m + 1 := ⟨n - 1, by omega⟩
    have e : y = m := by omega
    subst e
    exact ⟨ν, by rw [f_X2_look_L29, if_pos (nI_le (Nat.le_refl _) hm)], hq, fun _ _ => rfl, nEq.rf⟩
  | succ j ih =>
    intro n y ν hj hn h hC hq
    obtain ⟨n, rfl⟩ : ∃ m, n = m + 1 := ⟨n - 1, by omega⟩
    have he : nEq (fun q => q = 31) ν (nWI ν 31 i (nI (posN S i (y + 1)))) := nEq.rf.wi rfl
    obtain ⟨ν', e1, e2, e3, e4⟩ := ih n (y + 1) (nWI ν 31 i (nI (posN S i (y + 1)))) (by omega) (by omega) (h.eq he (fun a h1 h2 => by omega)) ⟨hC.1.eq he (by decide), hC.2.1.eq he (by decide), hC.2.2.eq he (by decide)⟩ (wi_eq _ _ _ _)
    refine ⟨ν', ?_, e2, fun q hq => by rw [e3 q hq, wi_ne (by omega)], he.tr e4⟩
    rw [f_X2_look_L29, if_neg (nI_ge (by omega) hm), if_pos (ib_in hi (by decide)), nI_clamp (by omega), hq, show ν.1 p 10 = S.2.2.2.1 2 from h.2.2.2.1 2 (by decide), ay8 (y := y) h hC hi hv (posN_ok hv h0 y).1, Option.bind_some, if_pos (ib_in hi (by decide)), ql, nI_1]
    exact e1
theorem lk_i {p m : Nat} {S : pS} {k : gN → Option gN} (hp : p < 20) (hc : S.1 ≤ 7) (hv : ∀ i, i < S.1 → vP S i) (h0 : S.2.2.1 24 = false) (hm : m < 50000) : ∀ j n i ν, i + j = S.1 → j < n → RP p S ν → CH S.2.2.1 ν → (∀ q, q < i → ν.1 31 q = nI (posN S q m)) → ∃ ν', f_X2_look_L3 p (nI m) k n (nI i) ν = k ν' ∧ (∀ q, q < S.1 → ν'.1 31 q = nI (posN S q m)) ∧ nEq (fun q => q = 31) ν ν' := by
  intro j
  induction j with
  | zero =>
    intro n i ν hj hn h hC hq
    obtain ⟨n, rfl⟩ : ∃ m, n = m + 1 := ⟨n - 1, by omega⟩
    have e : i = S.1 := by omega
    subst e
    exact ⟨ν, by rw [f_X2_look_L3, h.1, if_pos (nI_le (Nat.le_refl _) (by omega))], hq, nEq.rf⟩
  | succ j ih =>
    intro n i ν hj hn h hC hq
    obtain ⟨n, rfl⟩ : ∃ m, n = m + 1 := ⟨n - 1, by omega⟩
    have hi : i < S.1 := by omega
    have hi7 : i < 7 := by omega
    have he : nEq (fun q => q = 31) ν (nWI ν 31 i (S.2.1 4 i)) := nEq.rf.wi rfl
    obtain ⟨ν1, a1, a2, a3, a4⟩ := lk_y (k := fun ν_11 => f_X2_look_L3 p (nI m) k n (nI i + 1) ν_11) hp hi7 (hv i hi) h0 (show m < 2 ^ 31 by omega) m FU 0 (nWI ν 31 i (S.2.1 4 i)) (by omega) (by unfold FU; omega) (h.eq he (fun a h1 h2 => by omega)) ⟨hC.1.eq he (by decide), hC.2.1.eq he (by decide), hC.2.2.eq he (by decide)⟩ (by rw [wi_eq]; exact (posN_0 (hv i hi)).1)
    have he2 := he.tr a4
    obtain ⟨ν', e1, e2, e3⟩ := ih n (i + 1) ν1 (by omega) (by omega) (h.eq he2 (fun a h1 h2 => by omega)) ⟨hC.1.eq he2 (by decide), hC.2.1.eq he2 (by decide), hC.2.2.eq he2 (by decide)⟩ (fun q hq' => by
      by_cases z : q = i
      · rw [z, a2]
      · rw [a3 q z, wi_ne (by omega)]; exact hq q (by omega))
    refine ⟨ν', ?_, e2, he2.tr e3⟩
    have e5 : ν.1 (p + 5) i = S.2.1 4 i := h.c4 hi7
    rw [f_X2_look_L3, h.1, if_neg (nI_ge hi (by omega)), if_pos (ib_in hi7 (by decide)), if_pos (ib_in hi7 (by decide)), nI_clamp (by omega), ql, e5, show (0 : Int32) = nI 0 from rfl, a1, nI_1]
    exact e1
theorem lk8 {p m : Nat} {S : pS} {ν : gN} (hp : p < 20) (hS : okP S) (hm : m < 50000) (h : RP p S ν) (hC : CH S.2.2.1 ν) : ∃ ν', f_X2_look p (nI m) ν = some ν' ∧ (∀ q, q < S.1 → ν'.1 31 q = nI (posN S q m)) ∧ nEq (fun q => q = 31) ν ν' := by
  rw [f_X2_look]
  have h7 := hS.1
  exact lk_i (k := fun ν_12 => some ν_12) hp hS.1 hS.2.1 hS.2.2.1 hm S.1 FU 0 ν (by omega) (by unfold FU; omega) h hC (fun q hq => by omega)
/-- looking m yards ahead -/
theorem la8 {m : Nat} {S : pS} {ν : gN} (hS : okP S) (hm : m < 50000) (h : RP 1 S ν) : ∃ ν', f_X8_lookAhead (nI m) ν = some ν' ∧ (∀ q, q < S.1 → ν'.1 31 q = nI (posN S q m)) ∧ RP 1 S ν' ∧ CH S.2.2.1 ν' ∧ nEq (fun q => 25 ≤ q ∧ q ≤ 31) ν ν' := by
  obtain ⟨ν1, e1, e2, e3⟩ := ch8 (F := S.2.2.1) ν h.2.2.1
  have h1 : RP 1 S ν1 := h.eq e3 (fun a _ _ => by omega)
  obtain ⟨ν', f1, f2, f3⟩ := lk8 (p := 1) (by decide) hS hm h1 e2
  refine ⟨ν', by rw [f_X8_lookAhead, e1, Option.bind_some, f1]; rfl, f2, h1.eq f3 (fun a _ _ => by omega), ⟨e2.1.eq f3 (by decide), e2.2.1.eq f3 (by decide), e2.2.2.eq f3 (by decide)⟩, (e3.mono (Q := fun q => 25 ≤ q ∧ q ≤ 31) (fun a _ => by omega)).tr (f3.mono (fun a _ => by omega))⟩
