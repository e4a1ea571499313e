/-! the call port: the row read, the items one by one, what comes of it -/
theorem rl_L {s t l : Nat} {w : Nat → Int64} {k : gN → Option (Int32 × gN)} (hs : s < 8) (ht : t < 4) (hl : l ≤ 160) : ∀ j n i ν, i + j = l → j < n → SHF s t l w ν → ν.1 33 1 = nI l → (∀ q, q < i → ν.1 34 q = (w q).toInt32) → ∃ ν', f_X5_read_L10 (37 + 2 * s) 8 k n (nI i) ν = k ν' ∧ ν'.1 33 1 = nI l ∧ (∀ q, q < l → ν'.1 34 q = (w q).toInt32) ∧ nEq (fun q => q = 34) ν ν' := by
  intro j
  induction j with
  | zero =>
    intro n i ν hi hn h h2 hq
    obtain ⟨n, rfl⟩ : ∃ m, n = m + 1 := ⟨n - 1, by omega⟩
    have e : i = l := by omega
    subst e
    exact ⟨ν, by rw [f_X5_read_L10, h2, if_pos (nI_le (Nat.le_refl _) (by omega))], h2, hq, nEq.rf⟩
  | succ j ih =>
    intro n i ν hi hn h h2 hq
    obtain ⟨n, rfl⟩ : ∃ m, n = m + 1 := ⟨n - 1, by omega⟩
    have he : f_X6_intAt (37 + 2 * s) (nI i) ν = some ((w i).toInt32, ν) := by
      simp only [f_X6_intAt, f_X6_elementAt, f_X6_hasElement, f_X6_hasRow, h.1, h.2.1, t_lt100 ht, q_lt0 (show i < 2 ^ 31 by omega), eq_false (nI_ge (show i < l by omega) (by omega)), b1, Option.bind_some, ↓reduceIte, ib_in (show i < 160 by omega) (show 160 < 2 ^ 31 by decide), nI_clamp (show i < 2 ^ 31 by omega), h.2.2 i (by omega)]
    have e34 : nEq (fun q => q = 34) ν (nWI ν 34 i (w i).toInt32) := nEq.rf.wi rfl
    obtain ⟨ν', f1, f2, f3, f4⟩ := ih n (i + 1) (nWI ν 34 i (w i).toInt32) (by omega) (by omega) (h.eq e34 (by omega) (by omega)) (by rw [wi_ne (by omega)]; exact h2) (fun q hq' => by
      by_cases z : q = i
      · rw [z, wi_eq]
      · rw [wi_ne (by omega)]; exact hq q (by omega))
    refine ⟨ν', ?_, f2, f3, e34.tr f4⟩
    rw [f_X5_read_L10, h2, if_neg (nI_ge (by omega) (by omega)), he, Option.bind_some, if_pos (ib_in (show i < 160 by omega) (by decide)), nI_clamp (by omega), ql, nI_1]
    exact f1
theorem L49_0 {n : Nat} {y : Int32} {ν : gN} {k : Int32 → gN → Option (Int32 × gN)} : f_X5_read_L50 8 k (n + 1) y 0 ν = k y ν := by
  rw [f_X5_read_L50, if_pos rfl]
theorem L39_0 {n : Nat} {y1 y : Int32} {ν : gN} {k : gN → Option (Int32 × gN)} : f_X9_port_L39 y1 k (n + 1) y 0 ν = k ν := by
  rw [f_X9_port_L39, if_pos rfl]
theorem items_L {l s : Nat} {v : Nat → Int32} {k : Int32 → gN → Option (Int32 × gN)} {kr : gN → Option (Int32 × gN)} (hs : s < 8) (hl : l ≤ 160) : ∀ m p i S, okP S → l < p + m → p ≤ l → i ≤ p → ∃ (o : Bool) (S' : pS) (x it : Nat),
    (∀ n ν, m < n → RP 8 S ν → RD l v p ν → ν.1 33 4 = -1 → ∃ ν', f_X5_read_L50 8 k n (nI i) 1 ν = k (nI it) ν' ∧ nEq (fun q => (8 ≤ q ∧ q < 15) ∨ q = 33) ν ν' ∧ (if o = true then ν'.1 33 4 = -1 ∧ RP 8 S' ν' else ν'.1 33 4 = nI x)) ∧
    (∀ n ν, m < n → FC S ν → RE s l v p ν → ∃ ν', f_X9_port_L39 (nI s) kr n (nI i) 1 ν = (if o = true then some (nI it, nWI ν' 53 16 (-1)) else kr ν') ∧ FC S' ν' ∧ RE s l v x ν' ∧ mEq iP ν ν') ∧
    okP S' ∧ S.1 ≤ S'.1 ∧ S'.2.2.2.2 = S.2.2.2.2 ∧ x ≤ 400 := by
  intro m
  induction m with
  | zero => intro p i S _ h1 h2; omega
  | succ m ih =>
    intro p i S hS h1 h2 h3
    obtain ⟨⟨b, S1, p1⟩, h8, h9, g1, g2, g3, g4, g5⟩ := item_E (v := v) (s := s) hS hs hl h2
    cases b with
    | false =>
      refine ⟨false, S1, p1, i + 1, fun n ν hn hR hD h5 => ?_, fun n ν hn hF hE => ?_, g1, g2, g3, g5⟩
      · obtain ⟨n, rfl⟩ : ∃ n', n = n' + 1 + 1 := ⟨n - 2, by omega⟩
        obtain ⟨ν', e1, e2, e3⟩ := h8 ν hR hD h5
        have e3' : ν'.1 33 4 = nI p1 := e3
        refine ⟨ν', ?_, e2, e3'⟩
        have hp1 : p1 ≤ 400 := g5
        rw [f_X5_read_L50, if_neg (show ¬ (1 : Int32) = 0 by decide), hD.1, if_neg (nI_nlt (by omega) (by omega)), e1, Option.bind_some, e3', if_neg (nI_nm1 (by omega)), if_pos rfl, nI_1, L49_0]
      · obtain ⟨n, rfl⟩ : ∃ n', n = n' + 1 + 1 := ⟨n - 2, by omega⟩
        obtain ⟨ν', e1, e2, e3, e4⟩ := h9 ν hF hE
        refine ⟨ν', ?_, e2, e3, e4⟩
        have e1' : f_X9_item ν = some (0, ν') := e1
        rw [f_X9_port_L39, if_neg (show ¬ (1 : Int32) = 0 by decide), e1', Option.bind_some, if_pos rfl, if_pos rfl, if_pos rfl]
        show f_X9_port_L39 (nI s) kr (n + 1) (nI i) 0 ν' = _
        rw [L39_0]; rfl
    | true =>
      obtain ⟨g4a, g4b⟩ : p < p1 ∧ p1 ≤ l := g4 rfl
      have h8' : ∀ ν, RP 8 S ν → RD l v p ν → ν.1 33 4 = -1 → ∃ ν', f_X5_readItem 8 ν = some ν' ∧ nEq (fun q => (8 ≤ q ∧ q < 15) ∨ q = 33) ν ν' ∧ ν'.1 33 4 = -1 ∧ RP 8 S1 ν' ∧ RD l v p1 ν' := h8
      have h9' : ∀ ν, FC S ν → RE s l v p ν → ∃ ν', f_X9_item ν = some (1, ν') ∧ FC S1 ν' ∧ RE s l v p1 ν' ∧ mEq iP ν ν' := h9
      have g1' : okP S1 := g1
      have g2' : S.1 ≤ S1.1 := g2
      have g3' : S1.2.2.2.2 = S.2.2.2.2 := g3
      have i8 := ib_in hs (show 8 < 2 ^ 31 by decide)
      have c8 := nI_clamp (show s < 2 ^ 31 by omega)
      by_cases hend : p1 = l
      · refine ⟨true, S1, p1, i + 1, fun n ν hn hR hD h5 => ?_, fun n ν hn hF hE => ?_, g1', g2', g3', by omega⟩
        · obtain ⟨n, rfl⟩ : ∃ n', n = n' + 1 + 1 := ⟨n - 2, by omega⟩
          obtain ⟨ν', e1, e2, e3, e4, e5⟩ := h8' ν hR hD h5
          refine ⟨ν', ?_, e2, e3, e4⟩
          rw [f_X5_read_L50, if_neg (show ¬ (1 : Int32) = 0 by decide), hD.1, if_neg (nI_nlt (by omega) (by omega)), e1, Option.bind_some, if_pos e3, e5.1, e5.2.1, if_pos (nI_le (by omega) (by omega)), if_pos rfl, nI_1, L49_0]
        · obtain ⟨n, rfl⟩ : ∃ n', n = n' + 1 + 1 := ⟨n - 2, by omega⟩
          obtain ⟨ν', e1, e2, e3, e4⟩ := h9' ν hF hE
          refine ⟨ν', ?_, e2, e3, e4⟩
          rw [f_X9_port_L39, if_neg (show ¬ (1 : Int32) = 0 by decide), e1, Option.bind_some, if_neg (show ¬ (1 : Int32) = 0 by decide), if_neg (show ¬ (1 : Int32) = 0 by decide), if_pos i8]
          show (if ν'.1 53 14 = ν'.1 63 (nI s).toNatClampNeg then qL (nWI ν' 53 16 (-1)) (fun ν_23 => some (nI i + 1, ν_23)) else _) = _
          rw [c8, e3.2.2.2, e3.2.1, hend, if_pos rfl, ql, nI_1]; rfl
      · by_cases h59 : sg l v p1 = 59
        · have hp1l : p1 < l := by omega
          obtain ⟨o, S', x, it, j8, j9, j1, j2, j3, j4⟩ := ih (p1 + 1) (i + 1) S1 g1' (by omega) (by omega) (by omega)
          refine ⟨o, S', x, it, fun n ν hn hR hD h5 => ?_, fun n ν hn hF hE => ?_, j1, Nat.le_trans g2' j2, j3.trans g3', j4⟩
          · obtain ⟨n, rfl⟩ : ∃ n', n = n' + 1 := ⟨n - 1, by omega⟩
            obtain ⟨ν1, e1, e2, e3, e4, e5⟩ := h8' ν hR hD h5
            have a33 : nEq (fun q => q = 33) ν1 (nWI ν1 33 2 (nI (p1 + 1))) := nEq.rf.wi rfl
            obtain ⟨ν', f1, f2, f3⟩ := j8 n (nWI ν1 33 2 (nI (p1 + 1))) (by omega) (e4.eq a33 (fun a _ _ => by omega)) e5.st (by rw [wi_ne (by omega)]; exact e3)
            refine ⟨ν', ?_, (e2.tr (e33 a33)).tr f2, f3⟩
            rw [f_X5_read_L50, if_neg (show ¬ (1 : Int32) = 0 by decide), hD.1, if_neg (nI_nlt (by omega) (by omega)), e1, Option.bind_some, if_pos e3, e5.1, e5.2.1, if_neg (nI_ge (by omega) (by omega)), if_neg (show ¬ (1 : Int32) = 0 by decide), rs8 e5 hl (by omega) (by decide), if_pos h59, Option.bind_some, if_pos (by rw [wi_ne (by omega)]; exact e3), nI_1]
            exact f1
          · obtain ⟨n, rfl⟩ : ∃ n', n = n' + 1 := ⟨n - 1, by omega⟩
            obtain ⟨ν1, e1, e2, e3, e4⟩ := h9' ν hF hE
            have a53 : mEq wE ν1 (nWI ν1 53 14 (nI (p1 + 1))) := mEq.rf.wi ⟨rfl, rfl⟩
            obtain ⟨ν', f1, f2, f3, f4⟩ := j9 n (nWI ν1 53 14 (nI (p1 + 1))) (by omega) (e2.w a53) e3.st
            refine ⟨ν', ?_, f2, f3, (e4.tr (a53.mono (fun a b z => wE.i z))).tr f4⟩
            rw [f_X9_port_L39, if_neg (show ¬ (1 : Int32) = 0 by decide), e1, Option.bind_some, if_neg (show ¬ (1 : Int32) = 0 by decide), if_neg (show ¬ (1 : Int32) = 0 by decide), if_pos i8]
            show (if ν1.1 53 14 = ν1.1 63 (nI s).toNatClampNeg then _ else if (1 : Int32) = 0 then _ else (f_X9_is 59 ν1).bind (fun r_21 => f_X9_port_L39 (nI s) kr n (nI i + 1) r_21.1 r_21.2)) = _
            rw [c8, e3.2.2.2, e3.2.1, if_neg (by rw [nI_eq (by omega) (by omega)]; exact hend), if_neg (show ¬ (1 : Int32) = 0 by decide), is9 59 e3 hs hl (by omega), if_pos h59, Option.bind_some, nI_1]
            exact f1
        · refine ⟨false, S1, p1, i + 1, fun n ν hn hR hD h5 => ?_, fun n ν hn hF hE => ?_, g1', g2', g3', by omega⟩
          · obtain ⟨n, rfl⟩ : ∃ n', n = n' + 1 + 1 := ⟨n - 2, by omega⟩
            obtain ⟨ν1, e1, e2, e3, e4, e5⟩ := h8' ν hR hD h5
            refine ⟨nWI ν1 33 4 (nI p1), ?_, e2.wi (Or.inr rfl), wi_eq _ _ _ _⟩
            rw [f_X5_read_L50, if_neg (show ¬ (1 : Int32) = 0 by decide), hD.1, if_neg (nI_nlt (by omega) (by omega)), e1, Option.bind_some, if_pos e3, e5.1, e5.2.1, if_neg (nI_ge (by omega) (by omega)), if_neg (show ¬ (1 : Int32) = 0 by decide), rs8 e5 hl (by omega) (by decide), if_neg h59, Option.bind_some, if_neg (by rw [wi_eq]; exact nI_nm1 (by omega)), nI_1, L49_0]
          · obtain ⟨n, rfl⟩ : ∃ n', n = n' + 1 + 1 := ⟨n - 2, by omega⟩
            obtain ⟨ν1, e1, e2, e3, e4⟩ := h9' ν hF hE
            refine ⟨ν1, ?_, e2, e3, e4⟩
            rw [f_X9_port_L39, if_neg (show ¬ (1 : Int32) = 0 by decide), e1, Option.bind_some, if_neg (show ¬ (1 : Int32) = 0 by decide), if_neg (show ¬ (1 : Int32) = 0 by decide), if_pos i8]
            show (if ν1.1 53 14 = ν1.1 63 (nI s).toNatClampNeg then _ else if (1 : Int32) = 0 then _ else (f_X9_is 59 ν1).bind (fun r_21 => f_X9_port_L39 (nI s) kr (n + 1) (nI i + 1) r_21.1 r_21.2)) = _
            rw [c8, e3.2.2.2, e3.2.1, if_neg (by rw [nI_eq (by omega) (by omega)]; exact hend), if_neg (show ¬ (1 : Int32) = 0 by decide), is9 59 e3 hs hl (by omega), if_neg h59, Option.bind_some, L39_0]; rfl
def zF (x : Int32) (Z : zS) : zS := (Z.1, Z.2.1, Z.2.2.1, x, Z.2.2.2.2)
theorem IC.ft {Z : zS} {x : Int32} {ν : gN} (h : IC Z ν) : IC (zF x Z) (nWI ν 0 10 x) := by
  obtain ⟨h1, h2, h3, h4, h5, h6⟩ := h
  have he : nEq (fun q => q = 0) ν (nWI ν 0 10 x) := nEq.rf.wi rfl
  refine ⟨h1.eq he (fun a _ _ => by omega), fun s hs => ?_, fun k hk => ((he 23 (by decide)).1 k).trans (h3 k hk), wi_eq _ _ _ _, ⟨((he 35 (by decide)).1 1).trans h5.1, fun i hi ht => ((he 36 (by decide)).1 i).trans (h5.2 i hi ht)⟩, ?_⟩
  · have a1 := he (37 + 2 * s) (by omega)
    have a2 := he (37 + 2 * s + 1) (by omega)
    obtain ⟨b1, b2⟩ := h2 s hs
    exact ⟨(a1.1 1).trans b1, fun z => ⟨(a1.1 2).trans (b2 z).1, fun i hi => (a2.2 i).trans ((b2 z).2 i hi)⟩⟩
  · show (match Z.2.2.2.2.2 with | none => _ | some S => _)
    cases hz : Z.2.2.2.2.2 with
    | none => simp only [hz] at h6 ⊢; rw [wi_ne (by omega)]; exact h6
    | some S => simp only [hz] at h6 ⊢; exact ⟨by rw [wi_ne (by omega)]; exact h6.1, h6.2.eq he (fun a h1 h2 => by omega)⟩
theorem IM.ft {Z : zS} {x : Int32} {ν : gN} (h : IM Z ν) : IM (zF x Z) (nWI ν 53 16 x) := by
  obtain ⟨h1, h2, h3, h4, h5, h6, h7, h8⟩ := h
  have he : nEq (fun q => q = 53) ν (nWI ν 53 16 x) := nEq.rf.wi rfl
  refine ⟨h1.o (by decide), fun s hs => ?_, fun q hq => ((he 68 (by decide)).1 q).trans (h3 q hq), wi_eq _ _ _ _, ⟨by rw [wi_ne (by omega)]; exact h5.1, fun i hi ht => ((he 67 (by decide)).1 i).trans (h5.2 i hi ht)⟩, ?_, ?_, by rw [wi_ne (by omega)]; exact h8⟩
  · obtain ⟨b1, b2⟩ := h2 s hs
    exact ⟨((he 62 (by decide)).1 s).trans b1, fun z => ⟨((he 63 (by decide)).1 s).trans (b2 z).1, fun i hi => ((he 64 (by decide)).2 _).trans ((b2 z).2 i hi)⟩⟩
  · show (match Z.2.2.2.2.2 with | none => _ | some S => _)
    cases hz : Z.2.2.2.2.2 with
    | none => simp only [hz] at h6 ⊢; rw [wi_ne (by omega)]; exact h6
    | some S => simp only [hz] at h6 ⊢; exact ⟨by rw [wi_ne (by omega)]; exact h6.1, h6.2.1.eq he (by omega), by rw [wi_ne (by omega)]; exact h6.2.2⟩
  · show _ ∨ _
    rw [wi_ne (by omega)]
    exact h7.imp id (fun z => ⟨z.1, fun t ht => ((he 70 (by decide)).1 t).trans (z.2 t ht)⟩)
theorem okZ.ft {Z : zS} (h : okZ Z) (x : Int32) : okZ (zF x Z) := h
theorem okZ.pt {Z : zS} {S' : pS} (h : okZ Z) (hS : okP S') (hn : Z.1.1 ≤ S'.1) : okZ (S', Z.2) := by
  refine ⟨hS, fun s hs => ?_, h.2.2.1, h.2.2.2⟩
  rcases h.2.1 s hs with z | ⟨q, z1, z2⟩ | z
  · exact Or.inl z
  · exact Or.inr (Or.inl ⟨q, show q < S'.1 by omega, z2⟩)
  · exact Or.inr (Or.inr z)
theorem op_port (x : Int32) {Z : zS} (hZ : okZ Z) : both (f_X8_port x) (f_X9_port x) Z := by
  have hc := hZ.1.1
  rcases (rng x 8 (by decide)).symm with hx | ⟨s, hs, rfl⟩
  · refine both_no (a := -1) 1 (by decide) hZ (fun ν h => ?_) (fun ν h => ?_)
    · simp only [f_X8_port, f_X8_whyNoRow, shelf_out ν hx, Option.bind_some, ↓reduceIte, b1, rf_1]
    · simp only [f_X9_port, f_X9_noRow, wsh_out ν hx, Option.bind_some, ↓reduceIte, m1_0le, no_1]
  have i8 := ib_in hs (show 8 < 2 ^ 31 by decide)
  have c8 := nI_clamp (show s < 2 ^ 31 by omega)
  rcases shc hZ hs with hv | ⟨q, hq, hq2, hv⟩ | ⟨t, ht, hv, hl⟩
  · refine both_no (a := -3) 3 (by decide) hZ (fun ν h => ?_) (fun ν h => ?_)
    · simp only [f_X8_port, f_X8_whyNoRow, f_X6_hasPerson, f_X6_hasRow, shelf_in ν hs, i8, c8, (h.2.1 s hs).1, hv, m1_lt0, m1_lt100, Option.bind_some, ↓reduceIte, b1, show ((3 : Int32) = 0) = False from by decide, rf_3]
    · simp only [f_X9_port, f_X9_noRow, wsh_in ν hs, i8, c8, (h.2.1 s hs).1, hv, m1_lt0, m1_0le, Option.bind_some, ↓reduceIte, b1, show ((0 : Int32) ≤ -3) = False from by decide, no_3]
  · refine both_no (a := -2) 2 (by decide) hZ (fun ν h => ?_) (fun ν h => ?_)
    · simp only [f_X8_port, f_X8_whyNoRow, f_X6_hasPerson, f_X6_hasRow, shelf_in ν hs, i8, c8, (h.2.1 s hs).1, hv, q_lt0 (show q < 2 ^ 31 by omega), q_100le hq, Option.bind_some, ↓reduceIte, b1, show ((2 : Int32) = 0) = False from by decide, rf_2]
    · simp only [f_X9_port, f_X9_noRow, f_X9_isRow, wsh_in ν hs, i8, c8, (h.2.1 s hs).1, hv, q_lt0 (show q < 2 ^ 31 by omega), q_lt100 hq, Option.bind_some, ↓reduceIte, b1, show ((0 : Int32) ≤ -2) = False from by decide, no_2]
  have h100 : nI 100 ≤ Z.2.1.1 s := by rw [hv]; exact i_100.2 (of_eq_true (t_100le ht))
  obtain ⟨o, S', y, it, j8, j9, j1, j2, j3, j4⟩ := items_L (l := Z.2.1.2.1 s) (s := s) (v := fun q => (Z.2.1.2.2 s q).toInt32) (k := fun z2_21 ν_22 => some (z2_21, ν_22)) (kr := fun ν_25 => qL (nWI ν_25 53 16 (ν_25.1 53 14)) (fun ν_26 => (f_X9_again 66 ν_26).bind (fun r_28 => (f_X9_no (-6) r_28).bind (fun r_30 => some (r_30.1, r_30.2))))) hs hl (Z.2.1.2.1 s + 1) 0 0 Z.1 hZ.1 (by omega) (Nat.zero_le _) (Nat.le_refl _)
  /- the class up to the reading's end -/
  have h8 : ∀ ν, IC Z ν → ∃ ν1 ν2, f_X8_whyNoRow (nI s) ν = some (0, ν) ∧ f_X4_takeFrom 8 1 ν = some ν1 ∧ f_X5_read (37 + 2 * s) 8 ν1 = some (nI it, ν2) ∧ IC Z ν2 ∧ nEq (fun q => q < 53) ν ν2 ∧ (if o = true then ν2.1 33 4 = -1 ∧ RP 8 S' ν2 else ν2.1 33 4 = nI y) := fun ν h => by
    obtain ⟨ν1, c1, c2, c3⟩ := tf8 (p0 := 8) (p1 := 1) h.1 (by omega)
    have h1 : IC Z ν1 := h.sc c3 (fun a z => by unfold scC; omega)
    have hSH : SHF s t (Z.2.1.2.1 s) (Z.2.1.2.2 s) ν1 := ⟨(h1.2.1 s hs).1.trans hv, ((h1.2.1 s hs).2 h100).1, ((h1.2.1 s hs).2 h100).2⟩
    obtain ⟨μ, hμ⟩ : ∃ μ, μ = nWI ν1 33 1 (nI (Z.2.1.2.1 s)) := ⟨_, rfl⟩
    have e0 : nEq (fun q => q = 33) ν1 μ := by rw [hμ]; exact nEq.rf.wi rfl
    obtain ⟨ν2, a1, a2, a3, a4⟩ := rl_L (k := fun ν_8 => qL (nWI ν_8 33 2 0) (fun ν_9 => qL (nWI ν_9 33 4 (-1)) (fun ν_11 => f_X5_read_L50 8 (fun z2_21 ν_22 => some (z2_21, ν_22)) FU 0 1 ν_11))) hs ht hl (Z.2.1.2.1 s) FU 0 μ (by omega) (by unfold FU; omega) (hSH.eq e0 (by omega) (by omega)) (by rw [hμ, wi_eq]) (fun q hq => absurd hq (Nat.not_lt_zero _))
    obtain ⟨η, hη⟩ : ∃ η, η = nWI (nWI ν2 33 2 0) 33 4 (-1) := ⟨_, rfl⟩
    have e1 : nEq (fun q => q = 33) ν2 η := by rw [hη]; exact (nEq.rf.wi (P := fun q => q = 33) rfl).wi rfl
    have eA : nEq (fun q => q = 33 ∨ q = 34) ν1 η := ((e0.mono (fun a z => Or.inl z)).tr (a4.mono (fun a z => Or.inr z))).tr (e1.mono (fun a z => Or.inl z))
    have hD : RD (Z.2.1.2.1 s) (fun q => (Z.2.1.2.2 s q).toInt32) 0 η := by
      rw [hη]
      refine ⟨?_, ?_, fun i hi => ?_⟩
      · rw [wi_ne (by omega), wi_ne (by omega)]; exact a2
      · rw [wi_ne (by omega), wi_eq]; rfl
      · rw [wi_ne (by omega), wi_ne (by omega)]; exact a3 i hi
    obtain ⟨ν3, f1, f2, f3⟩ := j8 FU η (by unfold FU; omega) (c2.eq eA (fun a _ _ => by omega)) hD (by rw [hη, wi_eq])
    refine ⟨ν1, ν3, ?_, c1, ?_, (h1.sc eA (fun a z => by unfold scC; omega)).sc f2 (fun a z => by unfold scC; omega), ((c3.c (fun a z => by omega)).tr (eA.c (fun a z => by omega))).tr (f2.c (fun a z => by omega)), f3⟩
    · simp only [f_X8_whyNoRow, f_X6_hasPerson, f_X6_hasRow, shelf_in ν hs, i8, c8, (h.2.1 s hs).1, hv, t_lt0 ht, t_100le ht, t_lt100 ht, Option.bind_some, ↓reduceIte, b1]
    · rw [f_X5_read, ql, hSH.2.1, ← hμ]
      refine Eq.trans a1 ?_
      rw [ql, ql, ← hη]
      exact f1
  have h9 : ∀ ν, IM Z ν → ∃ ν1 ν2, f_X9_noRow (nI s) ν = some (0, ν) ∧ f_X9_keep 66 ν = some ν1 ∧ f_X9_port_L39 (nI s) (fun ν_25 => qL (nWI ν_25 53 16 (ν_25.1 53 14)) (fun ν_26 => (f_X9_again 66 ν_26).bind (fun r_28 => (f_X9_no (-6) r_28).bind (fun r_30 => some (r_30.1, r_30.2))))) FU 0 1 (nWI (nWI ν1 53 13 (nI s)) 53 14 0) = (if o = true then some (nI it, nWI ν2 53 16 (-1)) else qL (nWI ν2 53 16 (ν2.1 53 14)) (fun ν_26 => (f_X9_again 66 ν_26).bind (fun r_28 => (f_X9_no (-6) r_28).bind (fun r_30 => some (r_30.1, r_30.2))))) ∧ RK 66 Z.1 ν2 ∧ FC S' ν2 ∧ ν2.1 53 14 = nI y ∧ IM (S', Z.2) ν2 ∧ nEq (fun q => 53 ≤ q) ν ν2 := fun ν h => by
    obtain ⟨ν1, a1, a2, a3⟩ := kp9 (b := 66) (by decide) h.1
    have hF1 : FC Z.1 ν1 := ⟨h.1.eq a3 (fun q _ _ => by omega), by rw [(a3 53 (by decide)).1]; exact h.f.2.imp id (fun z => ⟨z.1, z.2.eq a3 (by decide)⟩)⟩
    obtain ⟨μ, hμ⟩ : ∃ μ, μ = nWI (nWI ν1 53 13 (nI s)) 53 14 0 := ⟨_, rfl⟩
    have e1 : mEq (fun a b => a = 53 ∧ (b = 13 ∨ b = 14)) ν1 μ := by rw [hμ]; exact (mEq.rf.wi (P := fun a b => a = 53 ∧ (b = 13 ∨ b = 14)) (by omega)).wi (by omega)
    have hF2 : FC Z.1 μ := hF1.meq e1 (fun a b z q => by omega)
    have hE : RE s (Z.2.1.2.1 s) (fun q => (Z.2.1.2.2 s q).toInt32) 0 μ := by
      refine ⟨by rw [hμ, wi_ne (by omega), wi_eq], ?_, fun i hi => ?_, by rw [hμ, wi_eq]; rfl⟩
      · rw [(e1 63 s (by omega)).1, (a3 63 (by decide)).1]
        exact ((h.2.1 s hs).2 h100).1
      · rw [(e1 64 _ (by omega)).2, (a3 64 (by decide)).2, ((h.2.1 s hs).2 h100).2 i (by omega)]
    obtain ⟨ν2, f1, f2, f3, f4⟩ := j9 FU μ (by unfold FU; omega) hF2 hE
    have g1 : mEq (fun a b => iP a b ∨ (a = 53 ∧ (b = 13 ∨ b = 14))) ν1 ν2 := (e1.mono (fun a b z => Or.inr z)).tr (f4.mono (fun a b z => Or.inl z))
    have g2 : mEq (fun a b => iP a b ∨ (a = 53 ∧ (b = 13 ∨ b = 14)) ∨ a = 66) ν ν2 := (a3.m (fun a b z => Or.inr (Or.inr z))).tr (g1.mono (fun a b z => z.imp id Or.inl))
    refine ⟨ν1, ν2, ?_, a1, by rw [← hμ]; exact f1, ?_, f2, f3.2.2.2, h.fc (Q := fun a b => iP a b ∨ (a = 53 ∧ (b = 13 ∨ b = 14)) ∨ a = 66) f2 g2 (fun a b z => by unfold iP at z; omega) (fun b z => by unfold iP at z; omega), g2.n (fun a b z => by unfold iP at z; omega)⟩
    · simp only [f_X9_noRow, f_X9_isRow, wsh_in ν hs, i8, c8, (h.2.1 s hs).1, hv, t_lt0 ht, t_lt100 ht, t_0le ht, Option.bind_some, ↓reduceIte, b1]
    · exact a2.eq (g1.n (P := fun q => q ≠ 66) (fun a b z => by unfold iP at z; omega)) (by omega)
  have z0 : ((0 : Int32) ≤ 0) = True := by decide
  cases o with
  | true =>
    refine ⟨nI it, zF (-1) (S', Z.2), (hZ.pt j1 j2).ft _, fun ν h => ?_, fun ν h => ?_⟩
    · obtain ⟨ν1, ν2, a1, a2, a3, a4, a5, a6⟩ := h8 ν h
      obtain ⟨a6a, a6b⟩ : ν2.1 33 4 = -1 ∧ RP 8 S' ν2 := a6
      have e0 : nEq (fun q => q = 0) ν2 (nWI ν2 0 10 (-1)) := nEq.rf.wi rfl
      obtain ⟨ν3, d1, d2, d3⟩ := tf8 (p0 := 1) (p1 := 8) (a6b.eq e0 (fun a _ _ => by omega)) (by omega)
      refine ⟨ν3, ?_, (a4.ft (x := -1)).port d2 (d3.mono (fun a z => by omega)), (a5.tr (e0.c (fun a z => by omega))).tr (d3.c (fun a z => by omega))⟩
      rw [f_X8_port, a1, Option.bind_some, if_pos rfl]
      show (f_X4_takeFrom 8 1 ν).bind _ = _
      rw [a2, Option.bind_some, if_pos i8, c8, a3, Option.bind_some]
      show qL (nWI ν2 0 10 (ν2.1 33 4)) _ = _
      rw [a6a, ql, wi_eq, if_pos rfl, d1, Option.bind_some]
    · obtain ⟨ν1, ν2, a1, a2, a3, a4, a5, a6, a7, a8⟩ := h9 ν h
      rw [if_pos rfl] at a3
      refine ⟨nWI ν2 53 16 (-1), ?_, a7.ft, a8.wi (by decide)⟩
      rw [f_X9_port, a1, Option.bind_some]
      show (if (0 : Int32) ≤ 0 then (f_X9_keep 66 ν).bind _ else _) = _
      rw [if_pos (by decide), a2, Option.bind_some, ql, ql]
      exact a3
  | false =>
    refine ⟨-6, zR 6 (zF (nI y) Z), (hZ.ft _).zR 6, fun ν h => ?_, fun ν h => ?_⟩
    · obtain ⟨ν1, ν2, a1, a2, a3, a4, a5, a6⟩ := h8 ν h
      have a6' : ν2.1 33 4 = nI y := a6
      refine ⟨R8 6 (nWI ν2 0 10 (nI y)), ?_, (a4.ft (x := nI y)).r8 (by decide), (a5.wi (by decide)).wi (by decide)⟩
      rw [f_X8_port, a1, Option.bind_some, if_pos rfl]
      show (f_X4_takeFrom 8 1 ν).bind _ = _
      rw [a2, Option.bind_some, if_pos i8, c8, a3, Option.bind_some]
      show qL (nWI ν2 0 10 (ν2.1 33 4)) _ = _
      rw [a6', ql, wi_eq, if_neg (nI_nm1 (by omega)), rf_6, Option.bind_some]
    · obtain ⟨ν1, ν2, a1, a2, a3, a4, a5, a6, a7, a8⟩ := h9 ν h
      rw [if_neg (by decide)] at a3
      have e0 : nEq (fun q => q = 53) ν2 (nWI ν2 53 16 (nI y)) := nEq.rf.wi rfl
      have hK : RK 66 Z.1 (nWI ν2 53 16 (nI y)) := a4.eq e0 (by decide)
      have hM := a7.ft (x := nI y)
      obtain ⟨ν3, d1, d2, d3, d4⟩ := ag9 (b := 66) (S1 := S') (by decide) hK hM.1
      rw [j3] at d2
      have hFu : (∀ q, q < 49 → Z.1.2.2.1 q = S'.2.2.1 q) → Z.1.2.2.1 = S'.2.2.1 := fun hq => by
        funext i
        by_cases z : i < 49
        · exact hq i z
        · rw [hZ.1.2.2.2.1 i (by omega), j1.2.2.2.1 i (by omega)]
      have hF4 : FC Z.1 ν3 := by
        refine ⟨d2, ?_⟩
        rcases d3 with d3 | d3
        · exact Or.inl d3
        · rw [d3.1, hFu d3.2]
          have z := hM.f.2
          exact z.imp id (fun z => ⟨z.1, fun t ht => ((d4 70 t (by unfold gP; omega)).1).trans (z.2 t ht)⟩)
      have hI : IM (zF (nI y) Z) ν3 := hM.fc (S' := Z.1) (Q := gP) hF4 d4 (fun a b z => by unfold gP at z; omega) (fun b z => by unfold gP at z; omega)
      refine ⟨R9 6 ν3, ?_, hI.r9 (by decide), ((a8.wi (show 53 ≤ 53 from Nat.le_refl _)).tr (d4.n (fun a b z => by unfold gP at z; omega))).wi (by decide)⟩
      rw [f_X9_port, a1, Option.bind_some]
      show (if (0 : Int32) ≤ 0 then (f_X9_keep 66 ν).bind _ else _) = _
      rw [if_pos (by decide), a2, Option.bind_some, ql, ql]
      refine Eq.trans a3 ?_
      rw [ql, a6, d1, Option.bind_some, no_6, Option.bind_some]
