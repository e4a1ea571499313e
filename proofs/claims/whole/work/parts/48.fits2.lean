/-! the call fits: the reference's track, both loops, the call -/
noncomputable def fit (v : Nat → Int64) (S : pS) (x m : Nat) : Bool := decide (fmi (fun q => decide ((v q).toInt32 ≠ nI (posN S x (q + 1)))) 0 m = 99)
def fsm (P : Nat → Bool) : Nat → Int32
  | 0 => 0
  | t + 1 => if P t = true then fsm P t ||| j_shl 1 (nI t) else fsm P t
def bP (a b : Nat) : Prop := a = 70 ∨ (a = 53 ∧ b = 24) ∨ (54 ≤ a ∧ a < 62)
theorem bP.w {a b : Nat} (h : wP a b) : bP a b := by unfold wP at h; unfold bP; omega
theorem back9 {Z : zS} {S1 : pS} {ν ν1 ν3 : gN} (h : IM Z ν) (a2 : RK 72 Z.1 ν1) (a3 : nEq (fun q => q = 72) ν ν1) (c3 : mEq bP ν1 ν3) (d1 : FC S1 ν3) (hs : S1.2.2.2.2 = Z.1.2.2.2.2) (hF : S1.2.2.1 = Z.1.2.2.1) : ∃ ν4, f_X9_again 72 ν3 = some ν4 ∧ IM Z ν4 ∧ nEq (fun q => 53 ≤ q) ν ν4 := by
  have he : mEq (fun a b => a = 72 ∨ bP a b) ν ν3 := (a3.m (fun a b z => Or.inl z)).tr (c3.mono (fun a b z => Or.inr z))
  have hn72 : nEq (fun q => q < 72) ν1 ν3 := c3.n (fun a b z => by unfold bP at z; omega)
  have hK : RK 72 Z.1 ν3 := a2.eq hn72 (by omega)
  obtain ⟨ν4, f1, f2, f3, f4⟩ := ag9 (by decide) hK d1.1
  rw [hs] at f2
  have hF4 : FC Z.1 ν4 := by
    refine ⟨f2, ?_⟩
    rcases f3 with f3 | f3
    · exact Or.inl f3
    · rw [f3.1]
      have d2 := d1.2
      rw [hF] at d2
      exact d2.imp id (fun z => ⟨z.1, fun t ht => ((f4 70 t (by unfold gP; omega)).1).trans (z.2 t ht)⟩)
  have he4 : mEq (fun a b => a = 72 ∨ bP a b ∨ gP a b) ν ν4 := (he.mono (fun a b z => z.imp id Or.inl)).tr (f4.mono (fun a b z => Or.inr (Or.inr z)))
  exact ⟨ν4, f1, h.fc hF4 he4 (fun a b z => by unfold bP gP at z; omega) (fun b z => by unfold bP gP at z; omega), he4.n (fun a b z => by unfold bP gP at z; omega)⟩
theorem gs_L {x s m : Nat} {S : pS} {v : Nat → Int64} {k : Int32 → gN → Option (Int32 × gN)} (hS : okP S) (hx : x < S.1) (hs : s < 8) (hm : m < 99) : ∀ j n y ν, y + j = m → j < n → FC (advS S y) ν → (∀ q, q < m → ν.2 64 (160 * s + q) = v q) → ∃ ν' y', f_X9_goesSo_L14 (nI s) (nI x) (nI m) k (n + 1) 1 (nI y) ν = k (i01 (decide (fmi (fun q => decide ((v q).toInt32 ≠ nI (posN S x (q + 1)))) y j = 99))) ν' ∧ FC (advS S y') ν' ∧ mEq wP ν ν' := by
  have hc := hS.1
  have hx7 : x < 7 := by omega
  intro j
  induction j with
  | zero =>
    intro n y ν hy hn h hv
    refine ⟨ν, y, ?_, h, mEq.rf⟩
    rw [f_X9_goesSo_L14, if_pos (nI_le (by omega) (by omega)), fmi]; rfl
  | succ j ih =>
    intro n y ν hy hn h hv
    obtain ⟨n, rfl⟩ : ∃ m, n = m + 1 := ⟨n - 1, by omega⟩
    obtain ⟨ν1, e1, e2, e3⟩ := yard9 hS.1 hS.2.2.1 hS.2.1 h (fun b hb => ⟨posN S b y, (posN_ok (hS.2.1 b hb) hS.2.2.1 y).1, if_pos hb⟩)
    rw [adv_st hS, Int32.add_assoc, nI_1] at e2
    have hv1 : ∀ q, q < m → ν1.2 64 (160 * s + q) = v q := fun q hq => by rw [(e3 64 _ (by unfold wP; omega)).2]; exact hv q hq
    have ha : ν1.1 58 x = nI (posN S x (y + 1)) := (e2.1.c4 hx7).trans (if_pos hx)
    have he : f_X9_toldAt (nI s) (nI y) ν1 = some ((v y).toInt32, ν1) := by
      rw [f_X9_toldAt, ix_s, if_pos (ib_in (by omega) (by decide)), nI_clamp (by omega), hv1 y (by omega)]
    rw [fmi]
    by_cases e : (v y).toInt32 = nI (posN S x (y + 1))
    · obtain ⟨ν', y', f1, f2, f3⟩ := ih n (y + 1) ν1 (by omega) (by omega) e2 hv1
      refine ⟨ν', y', ?_, f2, e3.tr f3⟩
      rw [if_neg (show ¬ decide ((v y).toInt32 ≠ nI (posN S x (y + 1))) = true by simp [e])]
      rw [f_X9_goesSo_L14, if_neg (nI_ge (by omega) (by omega)), if_neg (show ¬ (1 : Int32) = 0 by decide), e1, Option.bind_some, if_pos (ib_in hx7 (by decide)), he, Option.bind_some, nI_clamp (by omega), ha, if_pos e.symm, nI_1]
      exact f1
    · refine ⟨ν1, y + 1, ?_, e2, e3⟩
      rw [if_pos (show decide ((v y).toInt32 ≠ nI (posN S x (y + 1))) = true by simp [e]), decide_eq_false (show ¬ y = 99 by omega)]
      rw [f_X9_goesSo_L14, if_neg (nI_ge (by omega) (by omega)), if_neg (show ¬ (1 : Int32) = 0 by decide), e1, Option.bind_some, if_pos (ib_in hx7 (by decide)), he, Option.bind_some, nI_clamp (by omega), ha, if_neg (fun q => e q.symm), nI_1, f_X9_goesSo_L14]
      by_cases g : nI m ≤ nI (y + 1)
      · rw [if_pos g]; rfl
      · rw [if_neg g, if_pos rfl]; rfl
theorem gs9 {x s m : Nat} {Z : zS} {ν : gN} (hZ : okZ Z) (h : IM Z ν) (hx : x < Z.1.1) (hs : s < 8) (hm : m < 99) (h100 : nI 100 ≤ Z.2.1.1 s) : ∃ ν', f_X9_goesSo (nI s) (nI x) (nI m) ν = some (i01 (fit (Z.2.1.2.2 s) Z.1 x m), ν') ∧ IM Z ν' ∧ nEq (fun q => 53 ≤ q) ν ν' := by
  obtain ⟨ν1, a1, a2, a3⟩ := kp9 (b := 72) (by decide) h.1
  have hF1 : FC Z.1 ν1 := ⟨h.1.eq a3 (fun q _ _ => by omega), by rw [(a3 53 (by decide)).1]; exact h.f.2.imp id (fun z => ⟨z.1, z.2.eq a3 (by decide)⟩)⟩
  have hv : ∀ q, q < m → ν1.2 64 (160 * s + q) = Z.2.1.2.2 s q := fun q hq => by
    rw [(a3 64 (by decide)).2]
    exact ((h.2.1 s hs).2 h100).2 q (by omega)
  obtain ⟨ν2, y', c1, c2, c3⟩ := gs_L (v := Z.2.1.2.2 s) (k := fun z4_8 ν_9 => (f_X9_again 72 ν_9).bind (fun r_10 => if zb z4_8 = true then some (z4_8, r_10) else none)) hZ.1 hx hs hm m 99999 0 ν1 (by omega) (by omega) (adv_0 hZ.1 hF1) hv
  obtain ⟨ν4, d1, d2, d3⟩ := back9 h a2 a3 (c3.mono (fun a b z => bP.w z)) c2 rfl rfl
  refine ⟨ν4, ?_, d2, d3⟩
  rw [f_X9_goesSo, a1, Option.bind_some]
  refine Eq.trans c1 ?_
  rw [d1, Option.bind_some, if_pos (zb_i01 _)]; rfl
theorem okZ.a0 {Z : zS} (h : okZ Z) (i a : Nat) (ha : a ≤ 6) : okZ (zP (pA 0 i (nI a)) Z) := by
  refine ⟨⟨h.1.1, fun q hq => ?_, h.1.2.2⟩, h.2⟩
  obtain ⟨v0, v1, v2, v3, v4⟩ := h.1.2.1 q hq
  refine ⟨?_, v1, v2, v3, v4⟩
  show ∃ k', k' ≤ 6 ∧ (if 0 = 0 ∧ q = i then nI a else Z.1.2.1 0 q) = nI k'
  by_cases e : q = i
  · rw [if_pos ⟨rfl, e⟩]; exact ⟨a, ha, rfl⟩
  · rw [if_neg (fun z => e z.2)]; exact v0
/-- a row in the class's shelf -/
def SHF (s t l : Nat) (v : Nat → Int64) (ν : gN) : Prop := ν.1 (37 + 2 * s) 1 = nI (100 + t) ∧ ν.1 (37 + 2 * s) 2 = nI l ∧ ∀ q, q < 160 → ν.2 (37 + 2 * s + 1) q = v q
theorem SHF.eq {s t l : Nat} {v : Nat → Int64} {ν ν' : gN} {P : Nat → Prop} (h : SHF s t l v ν) (he : nEq P ν ν') (hp : ¬ P (37 + 2 * s)) (hp1 : ¬ P (37 + 2 * s + 1)) : SHF s t l v ν' := ⟨((he _ hp).1 _).trans h.1, ((he _ hp).1 _).trans h.2.1, fun q hq => ((he _ hp1).2 _).trans (h.2.2 q hq)⟩
theorem wf8_L {Z : zS} {x s m tt l : Nat} {v : Nat → Int64} {k : Int32 → gN → Option (Int32 × gN)} (hZ : okZ Z) (hx : x < Z.1.1) (hs : s < 8) (ht : tt < 4) (hl : l ≤ 160) (hml : m ≤ l) (hm : m < 99) : ∀ j n t ν u, t + j = 21 → j < n → RP 8 (pA 2 x u Z.1) ν → CH Z.1.2.2.1 ν → SHF s tt l v ν → ∃ ν', f_X8_wantsThatFit_L17 (37 + 2 * s) (nI x) (nI m) k n (fsm (fun w => fit v (pA 2 x (nI w) Z.1) x m) t) (nI t) ν = k (fsm (fun w => fit v (pA 2 x (nI w) Z.1) x m) 21) ν' ∧ nEq (fun q => 8 ≤ q ∧ q < 15) ν ν' := by
  have hc7 := hZ.1.1
  intro j
  induction j with
  | zero =>
    intro n t ν u hj hn h hC hV
    obtain ⟨n, rfl⟩ : ∃ m, n = m + 1 := ⟨n - 1, by omega⟩
    have e : t = 21 := by omega
    subst e
    exact ⟨ν, by rw [f_X8_wantsThatFit_L17, if_pos (by decide)], nEq.rf⟩
  | succ j ih =>
    intro n t ν u hj hn h hC hV
    obtain ⟨n, rfl⟩ : ∃ m, n = m + 1 := ⟨n - 1, by omega⟩
    have hx7 : x < 7 := by omega
    have h1 := h.a (j := 2) (i := x) (x := nI t) (by decide) hx7
    rw [pA_pA] at h1
    have e1 : nEq (fun q => 8 ≤ q ∧ q < 15) ν (nWI ν 11 x (nI t)) := nEq.rf.wi (by omega)
    have hC1 : CH (pA 2 x (nI t) Z.1).2.2.1 (nWI ν 11 x (nI t)) := hC.eq e1 (by omega)
    have hV1 := hV.eq e1 (by omega) (by omega)
    have hZ' := hZ.a2 x t (by omega)
    have tr : f_X8_isTrack (37 + 2 * s) (nI x) (nI m) (nWI ν 11 x (nI t)) = some (i01 (fit v (pA 2 x (nI t) Z.1) x m), nWI ν 11 x (nI t)) := trk8 (v := v) (S := pA 2 x (nI t) Z.1) h1 hC1 hZ'.1 hx hs ht hV1.1 hV1.2.1 hl hml hm hV1.2.2
    obtain ⟨ν', w1, w2⟩ := ih n (t + 1) _ (nI t) (by omega) (by omega) h1 hC1 hV1
    refine ⟨ν', ?_, e1.tr w2⟩
    rw [fsm] at w1
    rw [f_X8_wantsThatFit_L17, if_neg (by rw [lt_cn (c := 20) (k := 20) rfl (by omega) (by decide)]; omega), if_pos (ib_in hx7 (by decide)), nI_clamp (by omega), ql, tr, Option.bind_some, nI_1, or_0]
    cases hb : fit v (pA 2 x (nI t) Z.1) x m with
    | false =>
      rw [if_pos (show (i01 false, nWI ν 11 x (nI t)).1 = 0 from rfl)]
      rw [if_neg (by rw [hb]; decide)] at w1
      exact w1
    | true =>
      rw [if_neg (show ¬ (i01 true, nWI ν 11 x (nI t)).1 = 0 from by show ¬ i01 true = 0; decide)]
      rw [if_pos hb] at w1
      exact w1
theorem wf9_L {Z : zS} {x s m : Nat} {y6 : Int32} (hZ : okZ Z) (hx : x < Z.1.1) (hs : s < 8) (hm : m < 99) (h100 : nI 100 ≤ Z.2.1.1 s) : ∀ j n t ν u, t + j = 21 → j < n → IM (zP (pA 2 x u) Z) ν → ∃ ν', f_X9_fits_L122 (nI s) (nI x) (nI m) 0 y6 n (fsm (fun w => fit (Z.2.1.2.2 s) (pA 2 x (nI w) Z.1) x m) t) (nI t) ν = some (fsm (fun w => fit (Z.2.1.2.2 s) (pA 2 x (nI w) Z.1) x m) 21, ν') ∧ IM (zP (pA 2 x y6) Z) ν' ∧ nEq (fun q => 53 ≤ q) ν ν' := by
  have hc7 := hZ.1.1
  have hx7 : x < 7 := by omega
  intro j
  induction j with
  | zero =>
    intro n t ν u hj hn h
    obtain ⟨n, rfl⟩ : ∃ m, n = m + 1 := ⟨n - 1, by omega⟩
    have e : t = 21 := by omega
    subst e
    have h2 := h.a (j := 2) (i := x) (x := y6) (by decide) hx7
    rw [zA_zA] at h2
    refine ⟨nWI ν 56 x y6, ?_, h2, nEq.rf.wi (by decide)⟩
    rw [f_X9_fits_L122, if_pos (by decide), if_pos (by decide), if_pos (by decide), if_pos (ib_in hx7 (by decide)), ql, nI_clamp (by omega)]
  | succ j ih =>
    intro n t ν u hj hn h
    obtain ⟨n, rfl⟩ : ∃ m, n = m + 1 := ⟨n - 1, by omega⟩
    have h1 : IM (zP (pA 2 x (nI t)) Z) (nWI ν 56 x (nI t)) := by
      have z := h.a (j := 2) (i := x) (x := nI t) (by decide) hx7
      rw [zA_zA] at z
      exact z
    obtain ⟨ν1, a1, a2, a3⟩ := gs9 (s := s) (m := m) (hZ.a2 x t (by omega)) h1 (show x < (zP (pA 2 x (nI t)) Z).1.1 from hx) hs hm h100
    have a1' : f_X9_goesSo (nI s) (nI x) (nI m) (nWI ν 56 x (nI t)) = some (i01 (fit (Z.2.1.2.2 s) (pA 2 x (nI t) Z.1) x m), ν1) := a1
    obtain ⟨ν', w1, w2, w3⟩ := ih n (t + 1) ν1 (nI t) (by omega) (by omega) a2
    refine ⟨ν', ?_, w2, ((nEq.rf.wi (P := fun q => 53 ≤ q) (by decide)).tr a3).tr w3⟩
    rw [fsm] at w1
    rw [f_X9_fits_L122, if_pos (by decide), if_neg (by rw [lt_cn (c := 20) (k := 20) rfl (by omega) (by decide)]; omega), if_pos (by decide), if_pos (ib_in hx7 (by decide)), nI_clamp (by omega), ql, a1', Option.bind_some, nI_1]
    cases hb : fit (Z.2.1.2.2 s) (pA 2 x (nI t) Z.1) x m with
    | false =>
      rw [if_pos (show (i01 false, ν1).1 = 0 from rfl)]
      rw [if_neg (by rw [hb]; decide)] at w1
      exact w1
    | true =>
      rw [if_neg (show ¬ (i01 true, ν1).1 = 0 from by show ¬ i01 true = 0; decide)]
      rw [if_pos hb] at w1
      exact w1
theorem wfE {Z : zS} {x s t m : Nat} (hZ : okZ Z) (hx : x < Z.1.1) (hs : s < 8) (ht : t < 4) (hv : Z.2.1.1 s = nI (100 + t)) (hl : Z.2.1.2.1 s ≤ 160) (hml : m ≤ Z.2.1.2.1 s) (hm : m ≤ 30) : ∃ A, (∀ ν, IC Z ν → ∃ ν1 ν', f_X7_chart (ν.2 1 7) ν = some ν1 ∧ f_X8_wantsThatFit (37 + 2 * s) (nI x) (nI m) ν1 = some (A, ν') ∧ IC Z ν' ∧ nEq (fun q => q < 53) ν ν') ∧ (∀ ν, IM Z ν → ∃ ν', f_X9_fits_L122 (nI s) (nI x) (nI m) 0 (ν.1 56 x) FU 0 0 ν = some (A, ν') ∧ IM Z ν' ∧ nEq (fun q => 53 ≤ q) ν ν') := by
  have h100 : nI 100 ≤ Z.2.1.1 s := by rw [hv]; exact i_100.2 (of_eq_true (t_100le ht))
  have hc7 := hZ.1.1
  have hx7 : x < 7 := by omega
  refine ⟨fsm (fun w => fit (Z.2.1.2.2 s) (pA 2 x (nI w) Z.1) x m) 21, fun ν h => ?_, fun ν h => ?_⟩
  · obtain ⟨ν1, a1, a2, a3⟩ := ch8 (F := Z.1.2.2.1) ν h.1.2.2.1
    have h1 : IC Z ν1 := h.sc a3 (fun a z => by unfold scC; omega)
    obtain ⟨ν2, c1, c2, c3⟩ := tf8 (p0 := 8) (p1 := 1) h1.1 (by omega)
    have h2 : IC Z ν2 := h1.sc c3 (fun a z => by unfold scC; omega)
    obtain ⟨ν', e1, e2⟩ := wf8_L (Z := Z) (x := x) (s := s) (m := m) (tt := t) (l := Z.2.1.2.1 s) (v := Z.2.1.2.2 s) (k := fun z4_8 ν_9 => some (z4_8, ν_9)) hZ hx hs ht hl hml (by omega) 21 FU 0 ν2 (Z.1.2.1 2 x) rfl (by decide) (by rw [pA_self]; exact c2) (a2.eq c3 (by omega)) ⟨(h2.2.1 s hs).1.trans hv, ((h2.2.1 s hs).2 h100).1, ((h2.2.1 s hs).2 h100).2⟩
    refine ⟨ν1, ν', a1, ?_, h2.sc e2 (fun a z => by unfold scC; omega), ((a3.c (fun a z => by omega)).tr (c3.c (fun a z => by omega))).tr (e2.c (fun a z => by omega))⟩
    rw [f_X8_wantsThatFit, c1, Option.bind_some]
    exact e1
  · obtain ⟨ν', e1, e2, e3⟩ := wf9_L (y6 := Z.1.2.1 2 x) hZ hx hs (show m < 99 by omega) h100 21 FU 0 ν (Z.1.2.1 2 x) rfl (by decide) (by rw [zA_self]; exact h)
    rw [zA_self] at e2
    refine ⟨ν', ?_, e2, e3⟩
    rw [show ν.1 56 x = Z.1.2.1 2 x from h.1.c2 hx7]
    exact e1
theorem kf8_L {Z : zS} {x s m tt l : Nat} {v : Nat → Int64} {k : Int32 → gN → Option (Int32 × gN)} (hZ : okZ Z) (hx : x < Z.1.1) (hs : s < 8) (ht : tt < 4) (hl : l ≤ 160) (hml : m ≤ l) (hm : m < 99) : ∀ j n t ν u, t + j = 7 → j < n → RP 8 (pA 0 x u Z.1) ν → CH Z.1.2.2.1 ν → SHF s tt l v ν → ∃ ν', f_X8_kindsThatFit_L17 (37 + 2 * s) (nI x) (nI m) k n (fsm (fun w => fit v (pA 0 x (nI w) Z.1) x m) t) (nI t) ν = k (fsm (fun w => fit v (pA 0 x (nI w) Z.1) x m) 7) ν' ∧ nEq (fun q => 8 ≤ q ∧ q < 15) ν ν' := by
  have hc7 := hZ.1.1
  intro j
  induction j with
  | zero =>
    intro n t ν u hj hn h hC hV
    obtain ⟨n, rfl⟩ : ∃ m, n = m + 1 := ⟨n - 1, by omega⟩
    have e : t = 7 := by omega
    subst e
    exact ⟨ν, by rw [f_X8_kindsThatFit_L17, if_pos (by decide)], nEq.rf⟩
  | succ j ih =>
    intro n t ν u hj hn h hC hV
    obtain ⟨n, rfl⟩ : ∃ m, n = m + 1 := ⟨n - 1, by omega⟩
    have hx7 : x < 7 := by omega
    have h1 := h.a (j := 0) (i := x) (x := nI t) (by decide) hx7
    rw [pA_pA] at h1
    have e1 : nEq (fun q => 8 ≤ q ∧ q < 15) ν (nWI ν 9 x (nI t)) := nEq.rf.wi (by omega)
    have hC1 : CH (pA 0 x (nI t) Z.1).2.2.1 (nWI ν 9 x (nI t)) := hC.eq e1 (by omega)
    have hV1 := hV.eq e1 (by omega) (by omega)
    have hZ' := hZ.a0 x t (by omega)
    have tr : f_X8_isTrack (37 + 2 * s) (nI x) (nI m) (nWI ν 9 x (nI t)) = some (i01 (fit v (pA 0 x (nI t) Z.1) x m), nWI ν 9 x (nI t)) := trk8 (v := v) (S := pA 0 x (nI t) Z.1) h1 hC1 hZ'.1 hx hs ht hV1.1 hV1.2.1 hl hml hm hV1.2.2
    obtain ⟨ν', w1, w2⟩ := ih n (t + 1) _ (nI t) (by omega) (by omega) h1 hC1 hV1
    refine ⟨ν', ?_, e1.tr w2⟩
    rw [fsm] at w1
    rw [f_X8_kindsThatFit_L17, if_neg (by rw [le_cn (c := 7) (k := 7) rfl (by omega) (by decide)]; omega), if_pos (ib_in hx7 (by decide)), nI_clamp (by omega), ql, tr, Option.bind_some, nI_1, or_0]
    cases hb : fit v (pA 0 x (nI t) Z.1) x m with
    | false =>
      rw [if_pos (show (i01 false, nWI ν 9 x (nI t)).1 = 0 from rfl)]
      rw [if_neg (by rw [hb]; decide)] at w1
      exact w1
    | true =>
      rw [if_neg (show ¬ (i01 true, nWI ν 9 x (nI t)).1 = 0 from by show ¬ i01 true = 0; decide)]
      rw [if_pos hb] at w1
      exact w1
theorem kf9_L {Z : zS} {x s m : Nat} {y6 : Int32} (hZ : okZ Z) (hx : x < Z.1.1) (hs : s < 8) (hm : m < 99) (h100 : nI 100 ≤ Z.2.1.1 s) : ∀ j n t ν u, t + j = 7 → j < n → IM (zP (pA 0 x u) Z) ν → ∃ ν', f_X9_fits_L122 (nI s) (nI x) (nI m) 1 y6 n (fsm (fun w => fit (Z.2.1.2.2 s) (pA 0 x (nI w) Z.1) x m) t) (nI t) ν = some (fsm (fun w => fit (Z.2.1.2.2 s) (pA 0 x (nI w) Z.1) x m) 7, ν') ∧ IM (zP (pA 0 x y6) Z) ν' ∧ nEq (fun q => 53 ≤ q) ν ν' := by
  have hc7 := hZ.1.1
  have hx7 : x < 7 := by omega
  intro j
  induction j with
  | zero =>
    intro n t ν u hj hn h
    obtain ⟨n, rfl⟩ : ∃ m, n = m + 1 := ⟨n - 1, by omega⟩
    have e : t = 7 := by omega
    subst e
    have h2 := h.a (j := 0) (i := x) (x := y6) (by decide) hx7
    rw [zA_zA] at h2
    refine ⟨nWI ν 54 x y6, ?_, h2, nEq.rf.wi (by decide)⟩
    rw [f_X9_fits_L122, if_neg (by decide), if_pos (by decide), if_neg (by decide), if_pos (ib_in hx7 (by decide)), ql, nI_clamp (by omega)]
  | succ j ih =>
    intro n t ν u hj hn h
    obtain ⟨n, rfl⟩ : ∃ m, n = m + 1 := ⟨n - 1, by omega⟩
    have h1 : IM (zP (pA 0 x (nI t)) Z) (nWI ν 54 x (nI t)) := by
      have z := h.a (j := 0) (i := x) (x := nI t) (by decide) hx7
      rw [zA_zA] at z
      exact z
    obtain ⟨ν1, a1, a2, a3⟩ := gs9 (s := s) (m := m) (hZ.a0 x t (by omega)) h1 (show x < (zP (pA 0 x (nI t)) Z).1.1 from hx) hs hm h100
    have a1' : f_X9_goesSo (nI s) (nI x) (nI m) (nWI ν 54 x (nI t)) = some (i01 (fit (Z.2.1.2.2 s) (pA 0 x (nI t) Z.1) x m), ν1) := a1
    obtain ⟨ν', w1, w2, w3⟩ := ih n (t + 1) ν1 (nI t) (by omega) (by omega) a2
    refine ⟨ν', ?_, w2, ((nEq.rf.wi (P := fun q => 53 ≤ q) (by decide)).tr a3).tr w3⟩
    rw [fsm] at w1
    rw [f_X9_fits_L122, if_neg (by decide), if_neg (by rw [lt_cn (c := 6) (k := 6) rfl (by omega) (by decide)]; omega), if_neg (by decide), if_pos (ib_in hx7 (by decide)), nI_clamp (by omega), ql, a1', Option.bind_some, nI_1]
    cases hb : fit (Z.2.1.2.2 s) (pA 0 x (nI t) Z.1) x m with
    | false =>
      rw [if_pos (show (i01 false, ν1).1 = 0 from rfl)]
      rw [if_neg (by rw [hb]; decide)] at w1
      exact w1
    | true =>
      rw [if_neg (show ¬ (i01 true, ν1).1 = 0 from by show ¬ i01 true = 0; decide)]
      rw [if_pos hb] at w1
      exact w1
theorem kfE {Z : zS} {x s t m : Nat} (hZ : okZ Z) (hx : x < Z.1.1) (hs : s < 8) (ht : t < 4) (hv : Z.2.1.1 s = nI (100 + t)) (hl : Z.2.1.2.1 s ≤ 160) (hml : m ≤ Z.2.1.2.1 s) (hm : m ≤ 30) : ∃ A, (∀ ν, IC Z ν → ∃ ν1 ν', f_X7_chart (ν.2 1 7) ν = some ν1 ∧ f_X8_kindsThatFit (37 + 2 * s) (nI x) (nI m) ν1 = some (A, ν') ∧ IC Z ν' ∧ nEq (fun q => q < 53) ν ν') ∧ (∀ ν, IM Z ν → ∃ ν', f_X9_fits_L122 (nI s) (nI x) (nI m) 1 (ν.1 54 x) FU 0 0 ν = some (A, ν') ∧ IM Z ν' ∧ nEq (fun q => 53 ≤ q) ν ν') := by
  have h100 : nI 100 ≤ Z.2.1.1 s := by rw [hv]; exact i_100.2 (of_eq_true (t_100le ht))
  have hc7 := hZ.1.1
  have hx7 : x < 7 := by omega
  refine ⟨fsm (fun w => fit (Z.2.1.2.2 s) (pA 0 x (nI w) Z.1) x m) 7, fun ν h => ?_, fun ν h => ?_⟩
  · obtain ⟨ν1, a1, a2, a3⟩ := ch8 (F := Z.1.2.2.1) ν h.1.2.2.1
    have h1 : IC Z ν1 := h.sc a3 (fun a z => by unfold scC; omega)
    obtain ⟨ν2, c1, c2, c3⟩ := tf8 (p0 := 8) (p1 := 1) h1.1 (by omega)
    have h2 : IC Z ν2 := h1.sc c3 (fun a z => by unfold scC; omega)
    obtain ⟨ν', e1, e2⟩ := kf8_L (Z := Z) (x := x) (s := s) (m := m) (tt := t) (l := Z.2.1.2.1 s) (v := Z.2.1.2.2 s) (k := fun z4_8 ν_9 => some (z4_8, ν_9)) hZ hx hs ht hl hml (by omega) 7 FU 0 ν2 (Z.1.2.1 0 x) rfl (by decide) (by rw [pA_self]; exact c2) (a2.eq c3 (by omega)) ⟨(h2.2.1 s hs).1.trans hv, ((h2.2.1 s hs).2 h100).1, ((h2.2.1 s hs).2 h100).2⟩
    refine ⟨ν1, ν', a1, ?_, h2.sc e2 (fun a z => by unfold scC; omega), ((a3.c (fun a z => by omega)).tr (c3.c (fun a z => by omega))).tr (e2.c (fun a z => by omega))⟩
    rw [f_X8_kindsThatFit, c1, Option.bind_some]
    exact e1
  · obtain ⟨ν', e1, e2, e3⟩ := kf9_L (y6 := Z.1.2.1 0 x) hZ hx hs (show m < 99 by omega) h100 7 FU 0 ν (Z.1.2.1 0 x) rfl (by decide) (by rw [zA_self]; exact h)
    rw [zA_self] at e2
    refine ⟨ν', ?_, e2, e3⟩
    rw [show ν.1 54 x = Z.1.2.1 0 x from h.1.c0 hx7]
    exact e1
theorem op_fits (x y w z : Int32) {Z : zS} (hZ : okZ Z) : both (f_X8_fits x y w z) (f_X9_fits x y w z) Z := by
  have hc := hZ.1.1
  rcases (rng x 8 (by decide)).symm with hx | ⟨s, hs, rfl⟩
  · refine both_no (a := -1) 1 (by decide) hZ (fun ν h => ?_) (fun ν h => ?_)
    · simp only [f_X8_fits, shelf_out ν hx, Option.bind_some, ↓reduceIte, rf_1]
    · simp only [f_X9_fits, wsh_out ν hx, Option.bind_some, ↓reduceIte, no_1]
  have i8 := ib_in hs (show 8 < 2 ^ 31 by decide)
  have c8 := nI_clamp (show s < 2 ^ 31 by omega)
  rcases (rng y Z.1.1 (by omega)).symm with hy | ⟨i, hi, rfl⟩
  · refine both_no (a := -1) 1 (by decide) hZ (fun ν h => ?_) (fun ν h => ?_)
    · simp only [f_X8_fits, shelf_in ν hs, per_out h.1 hy, Option.bind_some, ↓reduceIte, b1, rf_1]
    · simp only [f_X9_fits, wsh_in ν hs, one_out h.1 hc hy, Option.bind_some, ↓reduceIte, b1, no_1]
  have hi7 : i < 7 := by omega
  rcases shc hZ hs with hv | ⟨q, hq, hq2, hv⟩ | ⟨t, ht, hv, hl⟩
  · refine both_no (a := -3) 3 (by decide) hZ (fun ν h => ?_) (fun ν h => ?_)
    · simp only [f_X8_fits, f_X8_whyNoRow, f_X6_hasPerson, f_X6_hasRow, shelf_in ν hs, per_in h.1 hc hi, i8, c8, (h.2.1 s hs).1, hv, m1_lt0, m1_lt100, Option.bind_some, ↓reduceIte, b1, show ((3 : Int32) = 0) = False from by decide, rf_3]
    · simp only [f_X9_fits, f_X9_noRow, wsh_in ν hs, one_in h.1 hc hi, i8, c8, (h.2.1 s hs).1, hv, m1_lt0, m1_0le, Option.bind_some, ↓reduceIte, b1, show ((0 : Int32) ≤ -3) = False from by decide, no_3]
  · refine both_no (a := -2) 2 (by decide) hZ (fun ν h => ?_) (fun ν h => ?_)
    · simp only [f_X8_fits, f_X8_whyNoRow, f_X6_hasPerson, f_X6_hasRow, shelf_in ν hs, per_in h.1 hc hi, i8, c8, (h.2.1 s hs).1, hv, q_lt0 (show q < 2 ^ 31 by omega), q_100le hq, Option.bind_some, ↓reduceIte, b1, show ((2 : Int32) = 0) = False from by decide, rf_2]
    · simp only [f_X9_fits, f_X9_noRow, f_X9_isRow, wsh_in ν hs, one_in h.1 hc hi, i8, c8, (h.2.1 s hs).1, hv, q_lt0 (show q < 2 ^ 31 by omega), q_lt100 hq, Option.bind_some, ↓reduceIte, b1, show ((0 : Int32) ≤ -2) = False from by decide, no_2]
  · have h100 : nI 100 ≤ Z.2.1.1 s := by rw [hv]; exact i_100.2 (of_eq_true (t_100le ht))
    have z0 : ((0 : Int32) ≤ 0) = True := by decide
    by_cases h0' : ¬ (0 : Int32) ≤ w
    · refine both_no (a := -4) 4 (by decide) hZ (fun ν h => ?_) (fun ν h => ?_)
      · simp only [f_X8_fits, f_X8_whyNoRow, f_X6_hasPerson, f_X6_hasRow, shelf_in ν hs, per_in h.1 hc hi, i8, c8, (h.2.1 s hs).1, hv, t_lt0 ht, t_100le ht, t_lt100 ht, Option.bind_some, ↓reduceIte, b1, h0', rf_4]
      · simp only [f_X9_fits, f_X9_noRow, f_X9_isRow, wsh_in ν hs, one_in h.1 hc hi, i8, c8, (h.2.1 s hs).1, hv, t_lt0 ht, t_lt100 ht, t_0le ht, z0, Option.bind_some, ↓reduceIte, b1, h0', no_4]
    have h0 : (0 : Int32) ≤ w := Classical.not_not.mp h0'
    by_cases h1 : nI (Z.2.1.2.1 s) < w
    · refine both_no (a := -5) 5 (by decide) hZ (fun ν h => ?_) (fun ν h => ?_)
      · simp only [f_X8_fits, f_X8_whyNoRow, f_X6_hasPerson, f_X6_hasRow, shelf_in ν hs, per_in h.1 hc hi, i8, c8, (h.2.1 s hs).1, ((h.2.1 s hs).2 h100).1, hv, t_lt0 ht, t_100le ht, t_lt100 ht, Option.bind_some, ↓reduceIte, b1, h0, h1, rf_5]
      · simp only [f_X9_fits, f_X9_noRow, f_X9_isRow, wsh_in ν hs, one_in h.1 hc hi, i8, c8, (h.2.1 s hs).1, ((h.2.1 s hs).2 h100).1, hv, t_lt0 ht, t_lt100 ht, t_0le ht, z0, Option.bind_some, ↓reduceIte, b1, h0, h1, no_5]
    by_cases hz : z = 0 ∨ z = 1
    · have hb01 : bt z 0 1 = true := by rcases hz with rfl | rfl <;> decide
      by_cases h30 : ¬ w ≤ 30
      · refine both_no (a := -6) 6 (by decide) hZ (fun ν h => ?_) (fun ν h => ?_)
        · rcases hz with rfl | rfl
          · simp only [f_X8_fits, f_X8_whyNoRow, f_X6_hasPerson, f_X6_hasRow, shelf_in ν hs, per_in h.1 hc hi, i8, c8, (h.2.1 s hs).1, ((h.2.1 s hs).2 h100).1, hv, t_lt0 ht, t_100le ht, t_lt100 ht, Option.bind_some, ↓reduceIte, b1, h0, h1, h30, rf_6]
          · simp only [f_X8_fits, f_X8_whyNoRow, f_X6_hasPerson, f_X6_hasRow, shelf_in ν hs, per_in h.1 hc hi, i8, c8, (h.2.1 s hs).1, ((h.2.1 s hs).2 h100).1, hv, t_lt0 ht, t_100le ht, t_lt100 ht, Option.bind_some, ↓reduceIte, b1, h0, h1, h30, rf_6]
        · simp only [f_X9_fits, f_X9_noRow, f_X9_isRow, wsh_in ν hs, one_in h.1 hc hi, i8, c8, (h.2.1 s hs).1, ((h.2.1 s hs).2 h100).1, hv, t_lt0 ht, t_lt100 ht, t_0le ht, z0, Option.bind_some, ↓reduceIte, b1, h0, h1, h30, bw9 z 0 1 ν, hb01, i01_1, no_6]
      have h30' : w ≤ 30 := Classical.not_not.mp h30
      obtain ⟨m, hm, rfl⟩ := nI_of2 (M := 30) (n := 30) (by decide) (fun g => by rw [Int32.lt_iff_toInt_lt] at g; rw [Int32.le_iff_toInt_le] at h0; omega) h30'
      have hml : m ≤ Z.2.1.2.1 s := by
        rw [nI_ltI (by omega) (by omega)] at h1
        omega
      rcases hz with rfl | rfl
      · obtain ⟨A, h8, h9⟩ := wfE hZ hi hs ht hv hl hml hm
        refine ⟨A, Z, hZ, fun ν h => ?_, fun ν h => ?_⟩
        · obtain ⟨ν1, ν', e1, e2, e3, e4⟩ := h8 ν h
          refine ⟨ν', ?_, e3, e4⟩
          simp only [f_X8_fits, f_X8_whyNoRow, f_X6_hasPerson, f_X6_hasRow, shelf_in ν hs, per_in h.1 hc hi, i8, c8, (h.2.1 s hs).1, ((h.2.1 s hs).2 h100).1, hv, t_lt0 ht, t_100le ht, t_lt100 ht, Option.bind_some, ↓reduceIte, b1, h0, h1, h30', e1, e2]
        · obtain ⟨ν', e1, e2, e3⟩ := h9 ν h
          refine ⟨ν', ?_, e2, e3⟩
          simp only [f_X9_fits, f_X9_noRow, f_X9_isRow, wsh_in ν hs, one_in h.1 hc hi, i8, c8, (h.2.1 s hs).1, ((h.2.1 s hs).2 h100).1, hv, t_lt0 ht, t_lt100 ht, t_0le ht, z0, Option.bind_some, ↓reduceIte, b1, h0, h1, h30', bw9 0 0 1 ν, hb01, i01_1, ib_in hi7 (show 7 < 2 ^ 31 by decide), nI_clamp (show i < 2 ^ 31 by omega), e1]
      · obtain ⟨A, h8, h9⟩ := kfE hZ hi hs ht hv hl hml hm
        refine ⟨A, Z, hZ, fun ν h => ?_, fun ν h => ?_⟩
        · obtain ⟨ν1, ν', e1, e2, e3, e4⟩ := h8 ν h
          refine ⟨ν', ?_, e3, e4⟩
          simp only [f_X8_fits, f_X8_whyNoRow, f_X6_hasPerson, f_X6_hasRow, shelf_in ν hs, per_in h.1 hc hi, i8, c8, (h.2.1 s hs).1, ((h.2.1 s hs).2 h100).1, hv, t_lt0 ht, t_100le ht, t_lt100 ht, Option.bind_some, ↓reduceIte, b1, h0, h1, h30', e1, e2]
        · obtain ⟨ν', e1, e2, e3⟩ := h9 ν h
          refine ⟨ν', ?_, e2, e3⟩
          simp only [f_X9_fits, f_X9_noRow, f_X9_isRow, wsh_in ν hs, one_in h.1 hc hi, i8, c8, (h.2.1 s hs).1, ((h.2.1 s hs).2 h100).1, hv, t_lt0 ht, t_lt100 ht, t_0le ht, z0, Option.bind_some, ↓reduceIte, b1, h0, h1, h30', bw9 1 0 1 ν, hb01, i01_1, ib_in hi7 (show 7 < 2 ^ 31 by decide), nI_clamp (show i < 2 ^ 31 by omega), e1]
    · simp only [not_or] at hz
      have hb01 : bt z 0 1 = false := by
        cases hb : bt z 0 1 with
        | false => rfl
        | true =>
          obtain ⟨k, hk, hk2, rfl⟩ := bt_of (a := 0) (b := 1) (by decide) (by decide) hb
          have : k = 0 ∨ k = 1 := by omega
          rcases this with rfl | rfl
          · exact absurd rfl hz.1
          · exact absurd rfl hz.2
      refine both_no (a := -5) 5 (by decide) hZ (fun ν h => ?_) (fun ν h => ?_)
      · simp only [f_X8_fits, f_X8_whyNoRow, f_X6_hasPerson, f_X6_hasRow, shelf_in ν hs, per_in h.1 hc hi, i8, c8, (h.2.1 s hs).1, ((h.2.1 s hs).2 h100).1, hv, t_lt0 ht, t_100le ht, t_lt100 ht, Option.bind_some, ↓reduceIte, b1, h0, h1, hz.1, hz.2, rf_5]
      · simp only [f_X9_fits, f_X9_noRow, f_X9_isRow, wsh_in ν hs, one_in h.1 hc hi, i8, c8, (h.2.1 s hs).1, ((h.2.1 s hs).2 h100).1, hv, t_lt0 ht, t_lt100 ht, t_0le ht, z0, Option.bind_some, ↓reduceIte, b1, h0, h1, bw9 z 0 1 ν, hb01, i01_f, no_5]
