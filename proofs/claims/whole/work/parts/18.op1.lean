/-! the calls, one by one: both sides answer alike and stay alike -/
theorem op_seed (x : Int32) {Z : zS} (hZ : okZ Z) : both (f_X8_seed x) (f_X9_seed x) Z := by
  refine ⟨Z.1.2.2.2.2, ((Z.1.1, Z.1.2.1, Z.1.2.2.1, Z.1.2.2.2.1, x), Z.2), hZ, fun ν h => ?_, fun ν h => ?_⟩
  · have h1 := h.1
    refine ⟨nWI ν 1 12 x, ?_, h.port (S' := (Z.1.1, Z.1.2.1, Z.1.2.2.1, Z.1.2.2.2.1, x)) ⟨?_, fun j hj i hi => ?_, h1.2.2.1, fun k hk => ?_, wi_eq _ _ _ _⟩ (nEq.rf.wi (by omega)), nEq.rf.wi (by omega)⟩
    · rw [f_X8_seed, ql, h1.2.2.2.2]
    · rw [wi_ne (by omega)]; exact h1.1
    · rw [wi_ne (by omega)]; exact h1.2.1 j hj i hi
    · rw [wi_ne (by omega)]; exact h1.2.2.2.1 k hk
  · have h1 := h.1
    refine ⟨nWI ν 53 9 x, ?_, h.port (S' := (Z.1.1, Z.1.2.1, Z.1.2.2.1, Z.1.2.2.2.1, x)) ⟨?_, fun j hj i hi => ?_, fun i hi => ?_, fun k hk => ?_, wi_eq _ _ _ _⟩ (nEq.rf.wi (by omega)) (fun b _ _ _ _ _ => wi_ne (by omega)) ?_, nEq.rf.wi (by omega)⟩
    · rw [f_X9_seed, ql, h1.2.2.2.2]
    · rw [wi_ne (by omega)]; exact h1.1
    · rw [wi_ne (by omega)]; exact h1.2.1 j hj i hi
    · rw [wi_ne (by omega)]; exact h1.2.2.1 i hi
    · rw [wi_ne (by omega)]; exact h1.2.2.2.1 k hk
    · have h7 := h.2.2.2.2.2.2.1
      rw [wi_ne (by omega)]
      rcases h7 with h7 | h7
      · exact Or.inl h7
      · exact Or.inr ⟨h7.1, fun t ht => by rw [wi_ne (by omega)]; exact h7.2 t ht⟩
theorem op_fault {Z : zS} (hZ : okZ Z) : both f_X8_fault f_X9_fault Z :=
  both_rd (a := Z.2.2.2.1) hZ (fun ν h => by rw [f_X8_fault, h.2.2.2.1]) (fun ν h => by rw [f_X9_fault, h.2.2.2.1])
theorem op_holds (x : Int32) {Z : zS} (hZ : okZ Z) : both (f_X8_holds x) (f_X9_holds x) Z := by
  rcases rng x 8 (by decide) with ⟨s, hs, rfl⟩ | hx
  · refine both_rd (a := Z.2.1.1 s) hZ (fun ν h => ?_) (fun ν h => ?_)
    · simp only [f_X8_holds, shelf_in ν hs, Option.bind_some, b1, ↓reduceIte, ib_in hs (show 8 < 2 ^ 31 by decide), nI_clamp (show s < 2 ^ 31 by omega), (h.2.1 s hs).1]
    · simp only [f_X9_holds, wsh_in ν hs, Option.bind_some, b1, ↓reduceIte, ib_in hs (show 8 < 2 ^ 31 by decide), nI_clamp (show s < 2 ^ 31 by omega), (h.2.1 s hs).1]
  · refine both_rd (a := -1) hZ (fun ν h => ?_) (fun ν h => ?_)
    · rw [f_X8_holds, shelf_out ν hx]; rfl
    · rw [f_X9_holds, wsh_out ν hx]; rfl
theorem op_trace (x : Int32) {Z : zS} (hZ : okZ Z) : both (f_X8_trace x) (f_X9_trace x) Z := by
  have ht := hZ.2.2.2
  generalize ht0 : Z.2.2.2.2.1.1 = t at ht
  by_cases h0 : x < 0
  · refine both_rd (a := -1) hZ (fun ν h => ?_) (fun ν h => ?_)
    · simp only [f_X8_trace, f_X1_bodyAt, if_pos h0, Option.bind_some]
    · simp only [f_X9_trace, if_pos h0]
  by_cases h1 : nI t ≤ x
  · refine both_rd (a := -1) hZ (fun ν h => ?_) (fun ν h => ?_)
    · simp only [f_X8_trace, f_X1_bodyAt, h.2.2.2.2.1.1, ht0, if_neg h0, if_pos h1, Option.bind_some]
    · simp only [f_X9_trace, h.2.2.2.2.1.1, ht0, if_neg h0, if_pos h1]
  by_cases h2 : (20 : Int32) ≤ x
  · refine both_rd (a := -1) hZ (fun ν h => ?_) (fun ν h => ?_)
    · simp only [f_X8_trace, f_X1_bodyAt, h.2.2.2.2.1.1, ht0, if_neg h0, if_neg h1, if_pos h2, Option.bind_some]
    · simp only [f_X9_trace, h.2.2.2.2.1.1, ht0, if_neg h0, if_neg h1, if_pos h2]
  rcases rng x 20 (by decide) with ⟨i, hi, rfl⟩ | hx
  · have hit : i < t := by
      rw [nI_leI (by omega) (by omega)] at h1
      omega
    refine both_rd (a := Z.2.2.2.2.1.2 i) hZ (fun ν h => ?_) (fun ν h => ?_)
    · simp only [f_X8_trace, f_X1_bodyAt, h.2.2.2.2.1.1, ht0, if_neg h0, if_neg h1, if_neg h2, Option.bind_some, ib_in hi (show 20 < 2 ^ 31 by decide), ↓reduceIte, nI_clamp (show i < 2 ^ 31 by omega), h.2.2.2.2.1.2 i hi (by omega)]
    · simp only [f_X9_trace, h.2.2.2.2.1.1, ht0, if_neg h0, if_neg h1, if_neg h2, ib_in hi (show 20 < 2 ^ 31 by decide), ↓reduceIte, nI_clamp (show i < 2 ^ 31 by omega), h.2.2.2.2.1.2 i hi (by omega)]
  · exact absurd hx (by rintro (z | z); exact h0 z; exact h2 z)
