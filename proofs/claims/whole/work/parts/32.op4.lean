/-! calls that look: far to where who chosen run -/
theorem IM.fc {Z : zS} {S' : pS} {ν ν' : gN} {Q : Nat → Nat → Prop} (h : IM Z ν) (hF : FC S' ν') (he : mEq Q ν ν') (hQ : ∀ a b, Q a b → a < 62 ∨ a = 65 ∨ a = 66 ∨ 70 ≤ a) (h53 : ∀ b, Q 53 b → b = 0 ∨ b = 9 ∨ b = 13 ∨ b = 14 ∨ b = 24) : IM (S', Z.2) ν' :=
  h.port hF.1 (he.n hQ) (fun b b0 b9 b13 b14 b24 => (he 53 b (fun q => by have := h53 b q; omega)).1) hF.2
theorem IM.f {Z : zS} {ν : gN} (h : IM Z ν) : FC Z.1 ν := ⟨h.1, h.2.2.2.2.2.2.1⟩
theorem fP.q {a b : Nat} (h : fP a b) : a < 62 ∨ a = 65 ∨ a = 66 ∨ 70 ≤ a := by unfold fP at h; omega
theorem fP.b {b : Nat} (h : fP 53 b) : b = 0 ∨ b = 9 ∨ b = 13 ∨ b = 14 ∨ b = 24 := by unfold fP at h; omega
theorem fP.n {ν ν' : gN} (h : mEq fP ν ν') : nEq (fun q => 53 ≤ q) ν ν' := h.n (fun a b z => by unfold fP at z; omega)
theorem IM.fp {Z : zS} {ν ν' : gN} (h : IM Z ν) (hF : FC Z.1 ν') (he : mEq fP ν ν') : IM Z ν' := h.fc (S' := Z.1) hF he (fun _ _ z => fP.q z) (fun _ z => fP.b z)
theorem okZ.f0 {Z : zS} (h : okZ Z) : Z.1.2.2.1 24 = false := h.1.2.2.1
theorem nEq.c {P : Nat → Prop} {ν ν' : gN} (h : nEq P ν ν') (hp : ∀ a, P a → a < 53) : nEq (fun q => q < 53) ν ν' := h.mono hp
theorem IC.sc {Z : zS} {ν ν' : gN} {P : Nat → Prop} (h : IC Z ν) (he : nEq P ν ν') (hp : ∀ a, P a → scC a) : IC Z ν' := h.eq (he.mono hp)
theorem op_far (x : Int32) {Z : zS} (hZ : okZ Z) : both (f_X8_far x) (f_X9_far x) Z := by
  rcases (rng x 49 (by decide)).symm with hx | ⟨c, hc, rfl⟩
  · refine both_no (a := -6) 6 (by decide) hZ (fun ν h => ?_) (fun ν h => ?_)
    · simp only [f_X8_far, sq8_out ν hx, Option.bind_some, ↓reduceIte, rf_6]
    · simp only [f_X9_far, sq9_out ν hx, Option.bind_some, ↓reduceIte, no_6]
  · refine ⟨nI (dst Z.1.2.2.1 24 c), Z, hZ, fun ν h => ?_, fun ν h => ?_⟩
    · obtain ⟨ν', e1, e2, e3⟩ := ch8 (F := Z.1.2.2.1) ν h.1.2.2.1
      refine ⟨ν', ?_, h.sc e3 (fun a z => by unfold scC; omega), e3.c (fun a z => by omega)⟩
      simp only [f_X8_far, sq8_in ν hc, Option.bind_some, b1, ↓reduceIte, e1, ib_in hc (show 49 < 2 ^ 31 by decide), nI_clamp (show c < 2 ^ 31 by omega), e2.1 c hc]
    · obtain ⟨ν', e1, e2, e3⟩ := fo9 h.f hZ.f0 hc
      refine ⟨ν', ?_, h.fp e2 e3, fP.n e3⟩
      simp only [f_X9_far, sq9_in ν hc, Option.bind_some, b1, ↓reduceIte, e1]
theorem op_to (x y : Int32) {Z : zS} (hZ : okZ Z) : both (f_X8_to x y) (f_X9_to x y) Z := by
  have hc := hZ.1.1
  rcases (rng x Z.1.1 (by omega)).symm with hx | ⟨i, hi, rfl⟩
  · refine both_no (a := -11) 1 (by decide) hZ (fun ν h => ?_) (fun ν h => ?_)
    · simp only [f_X8_to, per_out h.1 hx, Option.bind_some, ↓reduceIte, ra_1]
    · simp only [f_X9_to, one_out h.1 hc hx, Option.bind_some, ↓reduceIte, nt_1]
  have hi7 : i < 7 := by omega
  have no : (∀ ν, RP 1 Z.1 ν → f_X4_isOpen 1 y ν = some (0, ν)) → (∀ ν, RM Z.1 ν → f_X9_isOpen y ν = some (0, ν)) → both (f_X8_to (nI i) y) (f_X9_to (nI i) y) Z := fun o8 o9 => by
    refine both_no (a := -16) 6 (by decide) hZ (fun ν h => ?_) (fun ν h => ?_)
    · simp only [f_X8_to, per_in h.1 hc hi, o8 ν h.1, Option.bind_some, ↓reduceIte, b1, ra_6]
    · simp only [f_X9_to, one_in h.1 hc hi, o9 ν h.1, Option.bind_some, ↓reduceIte, b1, nt_6]
  rcases (rng y 49 (by decide)).symm with hx | ⟨c, hc49, rfl⟩
  · exact no (fun ν _ => op8_out ν hx) (fun ν _ => op9_out ν hx)
  cases hf : Z.1.2.2.1 c with
  | true => exact no (fun ν h => by rw [op8_in h hc49, hf]; rfl) (fun ν h => by rw [op9_in h hc49, hf]; rfl)
  | false =>
    obtain ⟨p1, p2, p3⟩ := posN_0 (hZ.1.2.1 i hi)
    have e9 : (nI (dst Z.1.2.2.1 (posN Z.1 i 0) c) = 99) = (dst Z.1.2.2.1 (posN Z.1 i 0) c = 99) := propext (eq_nc (c := 99) (k := 99) rfl (by have := dst_le Z.1.2.2.1 (posN Z.1 i 0) c; omega) (by decide))
    refine ⟨if dst Z.1.2.2.1 (posN Z.1 i 0) c = 99 then -1 else nI (dst Z.1.2.2.1 (posN Z.1 i 0) c), Z, hZ, fun ν h => ?_, fun ν h => ?_⟩
    · obtain ⟨ν', e1, e2, e3⟩ := sp8 (F := Z.1.2.2.1) ν (Or.inr rfl) h.1.2.2.1 p2
      refine ⟨ν', ?_, h.sc e3 (fun a z => by unfold scC; omega), e3.c (fun a z => by omega)⟩
      have e5 : ν.1 6 i = nI (posN Z.1 i 0) := (h.1.c4 hi7).trans p1
      simp only [f_X8_to, per_in h.1 hc hi, op8_in h.1 hc49, hf, Bool.false_eq_true, Option.bind_some, b1, ↓reduceIte, ib_in hi7 (show 7 < 2 ^ 31 by decide), nI_clamp (show i < 2 ^ 31 by omega), e5, e1, ib_in hc49 (show 49 < 2 ^ 31 by decide), nI_clamp (show c < 2 ^ 31 by omega), e2 c hc49, e9]
      split <;> rfl
    · obtain ⟨ν', e1, e2, e3⟩ := sp9 (Or.inr rfl) h.1 p2 p3
      refine ⟨ν', ?_, h.eq (e3.mono (fun a z => by unfold scM; omega)), e3.mono (fun a z => by show 53 ≤ a; omega)⟩
      have e5 : ν.1 58 i = nI (posN Z.1 i 0) := (h.1.c4 hi7).trans p1
      simp only [f_X9_to, one_in h.1 hc hi, op9_in h.1 hc49, hf, Bool.false_eq_true, Option.bind_some, b1, ↓reduceIte, ib_in hi7 (show 7 < 2 ^ 31 by decide), nI_clamp (show i < 2 ^ 31 by omega), e5, e1, ib_in hc49 (show 49 < 2 ^ 31 by decide), nI_clamp (show c < 2 ^ 31 by omega), e2 c hc49, e9]
      split <;> rfl
/-- the reference goes on, looks, and comes back -/
theorem peek9 {Z : zS} {ν : gN} {m : Nat} (h : IM Z ν) (hZ : okZ Z) (hm : m < 50000) : ∃ ν1 ν2, f_X9_keep 72 ν = some ν1 ∧ f_X9_goesOn (nI m) ν1 = some ν2 ∧ FC (advS Z.1 m) ν2 ∧ ν2.1 53 28 = -1 ∧ ∀ ν3, FC (advS Z.1 m) ν3 → mEq fP ν2 ν3 → ∃ ν4, f_X9_again 72 ν3 = some ν4 ∧ IM Z ν4 ∧ nEq (fun q => 53 ≤ q) ν ν4 := by
  obtain ⟨ν1, a1, a2, a3⟩ := kp9 (b := 72) (by decide) h.1
  have hF1 : FC Z.1 ν1 := ⟨h.1.eq a3 (fun q _ _ => by omega), by rw [(a3 53 (by decide)).1]; exact h.f.2.imp id (fun z => ⟨z.1, z.2.eq a3 (by decide)⟩)⟩
  obtain ⟨ν2, c1, c2, c3⟩ := on9 (m := m) hZ.1 hm hF1
  refine ⟨ν1, ν2, a1, c1, c2, ?_, fun ν3 d1 d2 => ?_⟩
  · rw [(c3 53 28 (by unfold wP; omega)).1, (a3 53 (by decide)).1]; exact h.2.2.2.2.2.2.2
  · have he : mEq (fun a b => a = 72 ∨ wP a b) ν ν3 := ((a3.m (fun a b z => Or.inl z)).tr (c3.mono (fun a b z => Or.inr z))).tr (d2.mono (fun a b z => Or.inr z.w))
    have hn72 : nEq (fun q => q < 72) ν1 ν3 := (c3.tr (d2.mono (fun a b z => z.w))).n (fun a b z => by unfold wP at z; omega)
    have hK : RK 72 Z.1 ν3 := a2.eq hn72 (by omega)
    obtain ⟨ν4, f1, f2, f3, f4⟩ := ag9 (by decide) hK d1.1
    have hF4 : FC Z.1 ν4 := by
      refine ⟨f2, ?_⟩
      rcases f3 with f3 | f3
      · exact Or.inl f3
      · rw [f3.1]
        exact d1.2.imp id (fun z => ⟨z.1, fun t ht => ((f4 70 t (by unfold gP; omega)).1).trans (z.2 t ht)⟩)
    have he4 : mEq (fun a b => a = 72 ∨ wP a b ∨ gP a b) ν ν4 := (he.mono (fun a b z => z.imp id Or.inl)).tr (f4.mono (fun a b z => Or.inr (Or.inr z)))
    exact ⟨ν4, f1, h.fc hF4 he4 (fun a b z => by unfold wP gP at z; omega) (fun b z => by unfold wP gP at z; omega), he4.n (fun a b z => by unfold wP gP at z; omega)⟩
theorem bt_t {k : Nat} (h : k ≤ 30) : bt (nI k) 0 30 = true := decide_eq_true ⟨nI_pos (by omega), by rw [lt_cn (c := 30) (k := 30) rfl (by omega) (by decide)]; omega⟩
theorem ahd8 (x : Int32) (ν : gN) : f_X8_isAhead x ν = some (i01 (bt x 0 30), ν) := by
  simp only [f_X8_isAhead, bw8, Option.bind_some, zb_i01, ↓reduceIte]
theorem tim9 (x : Int32) (ν : gN) : f_X9_isTime x ν = some (i01 (bt x 0 30), ν) := by
  simp only [f_X9_isTime, bw9, Option.bind_some, zb_i01, ↓reduceIte]
theorem op_where (x y : Int32) {Z : zS} (hZ : okZ Z) : both (f_X8_where x y) (f_X9_where x y) Z := by
  have hc := hZ.1.1
  rcases (rng x Z.1.1 (by omega)).symm with hx | ⟨i, hi, rfl⟩
  · refine both_no (a := -1) 1 (by decide) hZ (fun ν h => ?_) (fun ν h => ?_)
    · simp only [f_X8_where, per_out h.1 hx, Option.bind_some, ↓reduceIte, rf_1]
    · simp only [f_X9_where, one_out h.1 hc hx, Option.bind_some, ↓reduceIte, no_1]
  have hi7 : i < 7 := by omega
  cases hb : bt y 0 30 with
  | false =>
    refine both_no (a := -6) 6 (by decide) hZ (fun ν h => ?_) (fun ν h => ?_)
    · simp only [f_X8_where, per_in h.1 hc hi, ahd8, hb, i01_f, Option.bind_some, ↓reduceIte, b1, rf_6]
    · simp only [f_X9_where, one_in h.1 hc hi, tim9, hb, i01_f, Option.bind_some, ↓reduceIte, b1, no_6]
  | true =>
    obtain ⟨m, _, hm, rfl⟩ := bt_of (a := 0) (b := 30) (by decide) (by decide) hb
    refine ⟨nI (posN Z.1 i m), Z, hZ, fun ν h => ?_, fun ν h => ?_⟩
    · obtain ⟨ν', e1, e2, e3, e4, e5⟩ := la8 (m := m) hZ.1 (by omega) h.1
      refine ⟨ν', ?_, h.sc e5 (fun a z => by unfold scC; omega), e5.c (fun a z => by omega)⟩
      simp only [f_X8_where, per_in h.1 hc hi, ahd8, hb, i01_1, Option.bind_some, ↓reduceIte, b1, e1, ib_in hi7 (show 7 < 2 ^ 31 by decide), nI_clamp (show i < 2 ^ 31 by omega), e2 i hi]
    · obtain ⟨ν1, ν2, e1, e2, e3, _, e5⟩ := peek9 h hZ (show m < 50000 by omega)
      obtain ⟨ν4, f1, f2, f3⟩ := e5 ν2 e3 mEq.rf
      refine ⟨ν4, ?_, f2, f3⟩
      have e58 : ν2.1 58 i = nI (posN Z.1 i m) := (e3.1.c4 hi7).trans (if_pos hi)
      simp only [f_X9_where, one_in h.1 hc hi, tim9, hb, i01_1, Option.bind_some, ↓reduceIte, b1, e1, e2, ib_in hi7 (show 7 < 2 ^ 31 by decide), nI_clamp (show i < 2 ^ 31 by omega), f1, e58]
theorem pck_adv {S : pS} {g : Nat → Nat} {ex : Nat → Bool} {h : Nat → Int32} {w : Int32} : ∀ n, pck (PS S h w) g ex n = pck S g ex n
  | 0 => rfl
  | n + 1 => by
    have ih := pck_adv (S := S) (g := g) (ex := ex) (h := h) (w := w) n
    rw [pck, pck, ih]
    rfl
theorem okZ.w0 {Z : zS} (h : okZ Z) : ∃ s, s ≤ 4 ∧ Z.1.2.2.2.1 0 = nI s := by
  obtain ⟨k, _, k2, k3⟩ := h.1.2.2.2.2.1
  exact ⟨k, k2, k3⟩
theorem AT.of {S : pS} {ν : gN} {m : Nat} (hS : okP S) (h2 : ∀ q, q < S.1 → ν.1 31 q = nI (posN S q m)) (hC : CH S.2.2.1 ν) : AT S (fun i => posN S i m) ν := ⟨fun i hi => ⟨h2 i hi, (posN_ok (hS.2.1 i hi) hS.2.2.1 m).1⟩, hC.1⟩
theorem ex_0 {S : pS} {ν : gN} (hc : S.1 ≤ 7) (h : ν.1 53 28 = -1) : ∀ q, q < S.1 → (nI q = ν.1 53 28) = ((0 : Nat).testBit q = true) := fun q hq => by
  rw [h, Nat.zero_testBit]
  exact propext ⟨fun e => absurd (show nI q < 0 by rw [e]; decide) (nI_pos (by omega)), fun e => absurd e (by decide)⟩
theorem chn9 {S : pS} {ν : gN} {m s : Nat} (hS : okP S) (h : FC (advS S m) ν) (hg : ν.1 53 28 = -1) (hs : S.2.2.2.1 0 = nI s) (hs4 : s ≤ 4) : ∃ ν', f_X9_chosenNow ν = some (nI (pck S (fun i => posN S i m) (fun q => (0 : Nat).testBit q) s), ν') ∧ FC (advS S m) ν' ∧ mEq fP ν ν' := by
  obtain ⟨ν', e1, e2, e3⟩ := elect9 (S := advS S m) (g := fun i => posN S i m) (ex := fun q => (0 : Nat).testBit q) (s := s) hS.1 hS.2.2.1 (fun i hi => ⟨if_pos hi, (posN_ok (hS.2.1 i hi) hS.2.2.1 m).1⟩) hs hs4 h (ex_0 (S := S) hS.1 hg)
  refine ⟨ν', ?_, e2, e3⟩
  rw [e1, advS, pck_adv]
theorem op_chosen (y : Int32) {Z : zS} (hZ : okZ Z) : both (f_X8_chosen y) (f_X9_chosen y) Z := by
  have hc := hZ.1.1
  cases hb : bt y 0 30 with
  | false =>
    refine both_no (a := -6) 6 (by decide) hZ (fun ν h => ?_) (fun ν h => ?_)
    · simp only [f_X8_chosen, ahd8, hb, i01_f, Option.bind_some, ↓reduceIte, rf_6]
    · simp only [f_X9_chosen, tim9, hb, i01_f, Option.bind_some, ↓reduceIte, no_6]
  | true =>
    obtain ⟨m, _, hm, rfl⟩ := bt_of (a := 0) (b := 30) (by decide) (by decide) hb
    obtain ⟨s, hs4, hs⟩ := hZ.w0
    refine ⟨nI (pck Z.1 (fun i => posN Z.1 i m) (fun q => (0 : Nat).testBit q) s), Z, hZ, fun ν h => ?_, fun ν h => ?_⟩
    · obtain ⟨ν', e1, e2, e3, e4, e5⟩ := la8 (m := m) hZ.1 (by omega) h.1
      refine ⟨ν', ?_, h.sc e5 (fun a z => by unfold scC; omega), e5.c (fun a z => by omega)⟩
      have el := elect8 (xm := 0) e3 hc (AT.of hZ.1 e2 e4) (by decide) hs hs4
      simp only [f_X8_chosen, ahd8, hb, i01_1, Option.bind_some, ↓reduceIte, b1, e1]
      rw [show (0 : Int32) = nI 0 from rfl, el]; rfl
    · obtain ⟨ν1, ν2, e1, e2, e3, e4, e5⟩ := peek9 h hZ (show m < 50000 by omega)
      obtain ⟨ν3, d1, d2, d3⟩ := chn9 hZ.1 e3 e4 hs hs4
      obtain ⟨ν4, f1, f2, f3⟩ := e5 ν3 d2 d3
      refine ⟨ν4, ?_, f2, f3⟩
      simp only [f_X9_chosen, f_X9_chosenBehind, tim9, hb, i01_1, Option.bind_some, ↓reduceIte, b1, e1, e2, d1, f1]
theorem op_who (x : Int32) {Z : zS} (hZ : okZ Z) : both (f_X8_who x) (f_X9_who x) Z := by
  have hc := hZ.1.1
  by_cases h0 : x = 0
  · subst h0
    obtain ⟨s, hs4, hs⟩ := hZ.w0
    refine ⟨nI (pck Z.1 (fun i => posN Z.1 i 0) (fun q => (0 : Nat).testBit q) s), Z, hZ, fun ν h => ?_, fun ν h => ?_⟩
    · obtain ⟨ν', e1, e2, e3, e4, e5⟩ := la8 (m := 0) hZ.1 (by omega) h.1
      refine ⟨ν', ?_, h.sc e5 (fun a z => by unfold scC; omega), e5.c (fun a z => by omega)⟩
      have el := elect8 (xm := 0) e3 hc (AT.of hZ.1 e2 e4) (by decide) hs hs4
      rw [f_X8_who, if_pos rfl, show (0 : Int32) = nI 0 from rfl, e1, Option.bind_some, el]; rfl
    · obtain ⟨ν', d1, d2, d3⟩ := elect9 (S := Z.1) (g := fun i => posN Z.1 i 0) (ex := fun q => (0 : Nat).testBit q) (s := s) hc hZ.f0 (fun i hi => ⟨(posN_0 (hZ.1.2.1 i hi)).1, (posN_0 (hZ.1.2.1 i hi)).2.1⟩) hs hs4 h.f (ex_0 (S := Z.1) hc h.2.2.2.2.2.2.2)
      refine ⟨ν', ?_, h.fp d2 d3, fP.n d3⟩
      rw [f_X9_who, if_pos rfl, d1]; rfl
  by_cases h1 : x = 1
  · subst h1
    refine both_rd (a := nI (msk (ouS Z.1) Z.1.1)) hZ (fun ν h => ?_) (fun ν h => ?_)
    · rw [f_X8_who, if_neg (by decide), if_pos rfl, sa8 h.1 hc]; rfl
    · rw [f_X9_who, if_neg (by decide), if_pos rfl, out9 h.1 hc]; rfl
  by_cases h2 : x = 2
  · subst h2
    refine both_rd (a := nI (msk (flS Z.1) Z.1.1)) hZ (fun ν h => ?_) (fun ν h => ?_)
    · rw [f_X8_who, if_neg (by decide), if_neg (by decide), if_pos rfl, flm8 h.1 hc]; rfl
    · rw [f_X9_who, if_neg (by decide), if_neg (by decide), if_pos rfl, flm9 h.1 hc]; rfl
  refine both_no (a := -5) 5 (by decide) hZ (fun ν h => ?_) (fun ν h => ?_)
  · simp only [f_X8_who, h0, h1, h2, ↓reduceIte, rf_5, Option.bind_some]
  · simp only [f_X9_who, h0, h1, h2, ↓reduceIte, no_5, Option.bind_some]
theorem okP.adv {S : pS} (hS : okP S) (m : Nat) : okP (advS S m) := by
  refine ⟨hS.1, fun i hi => ?_, hS.2.2.1, hS.2.2.2.1, hS.2.2.2.2.1, hS.2.2.2.2.2⟩
  obtain ⟨v0, v1, v2, v3, v4⟩ := hS.2.1 i hi
  have hp := posN_ok (hS.2.1 i hi) hS.2.2.1 m
  exact ⟨v0, v1, v2, v3, posN S i m, hp.1, if_pos hi, hp.2⟩
theorem py_L {S : pS} {g : Nat → Nat} {x : Int32} {k : gN → Option gN} (hc : S.1 ≤ 7) : ∀ j n i ν, i + j = S.1 → j < n → ν.1 1 6 = nI S.1 → (∀ q, q < S.1 → ν.1 31 q = nI (g q)) → ∃ ν', f_X8_passYards_L18 x k n (nI i) ν = k ν' ∧ (∀ q, i ≤ q → q < S.1 → ν'.1 6 q = nI (g q)) ∧ (∀ q, ¬ (i ≤ q ∧ q < S.1) → ν'.1 6 q = ν.1 6 q) ∧ nEq (fun q => q = 6) ν ν' := by
  intro j
  induction j with
  | zero =>
    intro n i ν hi hn h h31
    obtain ⟨n, rfl⟩ : ∃ m, n = m + 1 := ⟨n - 1, by omega⟩
    exact ⟨ν, by rw [f_X8_passYards_L18, h, if_pos (nI_le (by omega) (by omega))], fun q _ _ => by omega, fun _ _ => rfl, nEq.rf⟩
  | succ j ih =>
    intro n i ν hi hn h h31
    obtain ⟨n, rfl⟩ : ∃ m, n = m + 1 := ⟨n - 1, by omega⟩
    have hi7 : i < 7 := by omega
    obtain ⟨ν', e1, e2, e3, e4⟩ := ih n (i + 1) (nWI ν 6 i (nI (g i))) (by omega) (by omega) (by rw [wi_ne (by omega)]; exact h) (fun q hq => by rw [wi_ne (by omega)]; exact h31 q hq)
    refine ⟨ν', ?_, fun q h1 h2 => ?_, fun q h1 => ?_, (nEq.rf.wi (P := fun q => q = 6) rfl).tr e4⟩
    · rw [f_X8_passYards_L18, h, if_neg (nI_ge (by omega) (by omega)), if_pos (ib_in hi7 (by decide)), if_pos (ib_in hi7 (by decide)), nI_clamp (by omega), h31 i (by omega), ql, nI_1]
      exact e1
    · by_cases z : q = i
      · rw [z, e3 i (by omega), wi_eq]
      · exact e2 q (by omega) h2
    · rw [e3 q (by omega), wi_ne (by omega)]
/-- the class passes m yards -/
theorem py8 {Z : zS} {ν : gN} {m : Nat} (h : IC Z ν) (hZ : okZ Z) (hm : m < 50000) (hC : CH Z.1.2.2.1 ν) : ∃ ν', f_X8_passYards (nI m) ν = some ν' ∧ IC (advS Z.1 m, Z.2) ν' ∧ CH Z.1.2.2.1 ν' ∧ nEq (fun q => q = 31 ∨ q = 6 ∨ q = 1) ν ν' := by
  have hc := hZ.1.1
  obtain ⟨ν1, a1, a2, a3⟩ := lk8 (p := 1) (by decide) hZ.1 hm h.1 hC
  have h1 : RP 1 Z.1 ν1 := h.1.eq a3 (fun a _ _ => by omega)
  obtain ⟨ν2, e1, e2, e3, e4⟩ := py_L (S := Z.1) (g := fun q => posN Z.1 q m) (x := nI m) (k := fun ν_7 => qL (nWI ν_7 1 10 ((ν_7.1 1 10) + nI m)) (fun ν_8 => some ν_8)) hc Z.1.1 FU 0 ν1 (by omega) (by unfold FU; omega) h1.1 a2
  have w2 : ν2.1 1 10 = Z.1.2.2.2.1 2 := ((e4 1 (by decide)).1 10).trans (h1.2.2.2.1 2 (by decide))
  have hn : nEq (fun q => q = 31 ∨ q = 6 ∨ q = 1) ν (nWI ν2 1 10 (Z.1.2.2.2.1 2 + nI m)) := ((a3.mono (Q := fun q => q = 31 ∨ q = 6 ∨ q = 1) (fun a z => Or.inl z)).tr (e4.mono (fun a z => Or.inr (Or.inl z)))).wi (Or.inr (Or.inr rfl))
  refine ⟨nWI ν2 1 10 (Z.1.2.2.2.1 2 + nI m), ?_, h.port (S' := advS Z.1 m) ⟨?_, fun j hj i hi => ?_, fun i hi => ?_, fun k hk => ?_, ?_⟩ (hn.mono (fun a z => by omega)), ⟨hC.1.eq hn (by decide), hC.2.1.eq hn (by decide), hC.2.2.eq hn (by decide)⟩, hn⟩
  · rw [f_X8_passYards, a1, Option.bind_some]
    refine Eq.trans e1 ?_
    rw [ql, w2]
  · rw [wi_ne (by omega), (e4 1 (by decide)).1]; exact h1.1
  · rw [wi_ne (by omega)]
    show ν2.1 (1 + 1 + j) i = (if j = 4 then (if i < Z.1.1 then nI (posN Z.1 i m) else Z.1.2.1 4 i) else Z.1.2.1 j i)
    by_cases z : j = 4
    · subst z
      rw [if_pos rfl]
      by_cases y : i < Z.1.1
      · rw [if_pos y]; exact e2 i (Nat.zero_le _) y
      · rw [if_neg y]; exact (e3 i (by omega)).trans (h1.c4 hi)
    · rw [if_neg z, (e4 (1 + 1 + j) (by omega)).1]; exact h1.2.1 j hj i hi
  · rw [show (nWI ν2 1 10 (Z.1.2.2.2.1 2 + nI m)).2 1 7 = ν2.2 1 7 from rfl, (e4 1 (by decide)).2]; exact h1.2.2.1 i hi
  · show _ = (if k = 2 then Z.1.2.2.2.1 2 + nI m else Z.1.2.2.2.1 k)
    by_cases z : k = 2
    · subst z; rw [if_pos rfl, wi_eq]
    · rw [if_neg z, wi_ne (by omega), (e4 1 (by decide)).1]; exact h1.2.2.2.1 k hk
  · rw [wi_ne (by omega), (e4 1 (by decide)).1]; exact h1.2.2.2.2
theorem IM.on {Z : zS} {ν : gN} {m : Nat} (h : IM Z ν) (hZ : okZ Z) (hm : m < 50000) : ∃ ν', f_X9_goesOn (nI m) ν = some ν' ∧ IM (advS Z.1 m, Z.2) ν' ∧ nEq (fun q => 53 ≤ q) ν ν' := by
  obtain ⟨ν', c1, c2, c3⟩ := on9 (m := m) hZ.1 hm h.f
  exact ⟨ν', c1, h.fc c2 c3 (fun a b z => by unfold wP at z; omega) (fun b z => by unfold wP at z; omega), c3.n (fun a b z => by unfold wP at z; omega)⟩
theorem okZ.adv {Z : zS} (h : okZ Z) (m : Nat) : okZ (advS Z.1 m, Z.2) := ⟨h.1.adv m, h.2⟩
theorem op_run (x : Int32) {Z : zS} (hZ : okZ Z) : both (f_X8_run x) (f_X9_run x) Z := by
  cases hb : bt x 1 30 with
  | false =>
    refine both_no (a := -6) 6 (by decide) hZ (fun ν h => ?_) (fun ν h => ?_)
    · simp only [f_X8_run, bw8, hb, i01_f, Option.bind_some, ↓reduceIte, rf_6]
    · simp only [f_X9_run, bw9, hb, i01_f, Option.bind_some, ↓reduceIte, no_6]
  | true =>
    obtain ⟨m, _, hm, rfl⟩ := bt_of (a := 1) (b := 30) (by decide) (by decide) hb
    refine ⟨Z.1.2.2.2.1 2 + nI m, (advS Z.1 m, Z.2), hZ.adv m, fun ν h => ?_, fun ν h => ?_⟩
    · obtain ⟨ν1, a1, a2, a3⟩ := ch8 (F := Z.1.2.2.1) ν h.1.2.2.1
      have h1 : IC Z ν1 := h.sc a3 (fun a z => by unfold scC; omega)
      obtain ⟨ν', e1, e2, e3, e4⟩ := py8 h1 hZ (show m < 50000 by omega) a2
      refine ⟨ν', ?_, e2, (a3.c (fun a z => by omega)).tr (e4.c (fun a z => by omega))⟩
      simp only [f_X8_run, bw8, hb, i01_1, Option.bind_some, ↓reduceIte, b1, a1, e1, show ν'.1 1 10 = Z.1.2.2.2.1 2 + nI m from e2.1.2.2.2.1 2 (by decide)]
    · obtain ⟨ν', e1, e2, e3⟩ := h.on hZ (show m < 50000 by omega)
      refine ⟨ν', ?_, e2, e3⟩
      simp only [f_X9_run, bw9, hb, i01_1, Option.bind_some, ↓reduceIte, b1, e1, show inb 2 4 = true from rfl, show (2 : Int32).toNatClampNeg = 2 from rfl, show ν'.1 61 2 = Z.1.2.2.2.1 2 + nI m from e2.1.2.2.2.1 2 (by decide)]
