/-! THE FIRST STATE -/
def S0 : pS := (0, fun _ _ => 0, fun _ => false, fun k => if k = 0 then 2 else if k = 1 then 20 else 0, 1)
def Z0 : zS := (S0, (fun _ => -1, fun _ => 0, fun _ _ => 0), fun _ => 0, -1, (0, fun _ => 0), none)
theorem okZ_0 : okZ Z0 := ⟨⟨Nat.zero_le _, fun i hi => absurd hi (Nat.not_lt_zero _), rfl, fun _ _ => rfl, ⟨2, by decide, by decide, rfl⟩, ⟨20, by decide, rfl⟩⟩, fun s _ => Or.inl rfl, fun S h => absurd h (by simp [Z0]), Nat.zero_le _⟩
theorem IC_0 : IC Z0 (ME.1, ME.2.1) := by
  refine ⟨⟨by decide +kernel, by decide +kernel, by decide +kernel, by decide +kernel, by decide +kernel⟩, fun s hs => ⟨?_, fun z => absurd z (show ¬ nI 100 ≤ (-1 : Int32) by decide)⟩, by decide +kernel, by decide +kernel, ⟨by decide +kernel, fun i _ h => absurd h (Nat.not_lt_zero _)⟩, ?_⟩
  · have : ∀ s, s < 8 → ME.1 (37 + 2 * s) 1 = -1 := by decide +kernel
    exact this s hs
  · show ME.1 0 9 = 0
    decide +kernel
theorem IM_0 : IM Z0 (ME.1, ME.2.1) := by
  refine ⟨⟨by decide +kernel, by decide +kernel, by decide +kernel, by decide +kernel, by decide +kernel⟩, fun s hs => ⟨?_, fun z => absurd z (show ¬ nI 100 ≤ (-1 : Int32) by decide)⟩, by decide +kernel, by decide +kernel, ⟨by decide +kernel, fun i _ h => absurd h (Nat.not_lt_zero _)⟩, ?_, Or.inl ?_, by decide +kernel⟩
  · have : ∀ s, s < 8 → ME.1 62 s = -1 := by decide +kernel
    exact this s hs
  · show ME.1 53 21 = 0
    decide +kernel
  · show ME.1 53 24 = 0
    decide +kernel
