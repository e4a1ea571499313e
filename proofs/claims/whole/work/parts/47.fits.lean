/-! the call fits: the class's track -/
theorem it_8 {x s t m l : Nat} {S : pS} {v : Nat → Int64} {ν : gN} {k : gN → Option (Int32 × gN)} (h : RP 8 S ν) (hC : CH S.2.2.1 ν) (hS : okP S) (hx : x < S.1) (hs : s < 8) (ht : t < 4) (hv1 : ν.1 (37 + 2 * s) 1 = nI (100 + t)) (hl1 : ν.1 (37 + 2 * s) 2 = nI l) (hl : l ≤ 160) (hml : m ≤ l) (hm : m < 99) (hv : ∀ q, q < 160 → ν.2 (37 + 2 * s + 1) q = v q) : ∀ j n i, i + j = m → j < n → f_X8_isTrack_L14 (37 + 2 * s) (nI x) (nI m) k n (nI (posN S x i)) (nI i) ν = if fmi (fun q => decide ((v q).toInt32 ≠ nI (posN S x (q + 1)))) i j = 99 then k ν else some (0, ν) := by
  have hc := hS.1
  have hvp := hS.2.1 x hx
  intro j
  induction j with
  | zero =>
    intro n i hi hn
    obtain ⟨n, rfl⟩ : ∃ m, n = m + 1 := ⟨n - 1, by omega⟩
    rw [f_X8_isTrack_L14, if_pos (nI_le (by omega) (by omega)), fmi, if_pos rfl]
  | succ j ih =>
    intro n i hi hn
    obtain ⟨n, rfl⟩ : ∃ m, n = m + 1 := ⟨n - 1, by omega⟩
    have ih := ih n (i + 1) (by omega) (by omega)
    have he : f_X6_intAt (37 + 2 * s) (nI i) ν = some ((v i).toInt32, ν) := by
      simp only [f_X6_intAt, f_X6_elementAt, f_X6_hasElement, f_X6_hasRow, hv1, hl1, t_lt100 ht, q_lt0 (show i < 2 ^ 31 by omega), eq_false (nI_ge (show i < l by omega) (by omega)), b1, Option.bind_some, ↓reduceIte, ib_in (show i < 160 by omega) (show 160 < 2 ^ 31 by decide), nI_clamp (show i < 2 ^ 31 by omega), hv i (by omega)]
    have ha : f_X4_afterYard 8 (nI x) (nI (posN S x i)) (ν.1 8 10 + nI i) ν = some (nI (posN S x (i + 1)), ν) := by
      rw [show ν.1 8 10 = S.2.2.2.1 2 from h.2.2.2.1 2 (by decide), ay8 (y := i) h hC (by omega) hvp (posN_ok hvp hS.2.2.1 i).1]
      rfl
    rw [f_X8_isTrack_L14, if_neg (nI_ge (by omega) (by omega)), ha, Option.bind_some]
    show (f_X6_intAt (37 + 2 * s) (nI i) ν).bind _ = _
    rw [he, Option.bind_some, nI_1, fmi]
    by_cases e : (v i).toInt32 = nI (posN S x (i + 1))
    · rw [if_pos e, if_neg (show ¬ decide ((v i).toInt32 ≠ nI (posN S x (i + 1))) = true by simp [e])]
      exact ih
    · rw [if_neg e, if_pos (show decide ((v i).toInt32 ≠ nI (posN S x (i + 1))) = true by simp [e]), if_neg (show ¬ i = 99 by omega)]
theorem trk8 {x s t m l : Nat} {S : pS} {v : Nat → Int64} {ν : gN} (h : RP 8 S ν) (hC : CH S.2.2.1 ν) (hS : okP S) (hx : x < S.1) (hs : s < 8) (ht : t < 4) (hv1 : ν.1 (37 + 2 * s) 1 = nI (100 + t)) (hl1 : ν.1 (37 + 2 * s) 2 = nI l) (hl : l ≤ 160) (hml : m ≤ l) (hm : m < 99) (hv : ∀ q, q < 160 → ν.2 (37 + 2 * s + 1) q = v q) : f_X8_isTrack (37 + 2 * s) (nI x) (nI m) ν = some (i01 (decide (fmi (fun q => decide ((v q).toInt32 ≠ nI (posN S x (q + 1)))) 0 m = 99)), ν) := by
  have hc := hS.1
  have e0 : ν.1 13 x = nI (posN S x 0) := (h.c4 (show x < 7 by omega)).trans (posN_0 (hS.2.1 x hx)).1
  have l := it_8 (k := fun ν_6 => some (1, ν_6)) h hC hS hx hs ht hv1 hl1 hl hml hm hv m FU 0 (by omega) (by unfold FU; omega)
  rw [f_X8_isTrack, if_pos (ib_in (show x < 7 by omega) (by decide)), nI_clamp (by omega), e0]
  refine Eq.trans l ?_
  by_cases z : fmi (fun q => decide ((v q).toInt32 ≠ nI (posN S x (q + 1)))) 0 m = 99
  · rw [if_pos z, decide_eq_true z]; rfl
  · rw [if_neg z, decide_eq_false z]; rfl
