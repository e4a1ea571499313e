/-! PURE GROUND: numbers, masks, memory cells read behind writes, the small functions of both classes -/
theorem ib_in {j N : Nat} (h : j < N) (hN : N < 2 ^ 31) : inb (nI j) N = true := by
  have h1 : ¬ nI j < 0 := nI_pos (by omega)
  have h2 : (nI j).toNatClampNeg = j := nI_clamp (by omega)
  simp only [inb, h2, decide_eq_true h, decide_eq_true h1, Bool.and_self]
theorem ib_out {x : Int32} {N : Nat} (h : x < 0 ∨ nI N ≤ x) (hN : N < 2 ^ 31) : inb x N = false := by
  cases hb : inb x N with
  | false => rfl
  | true =>
    exfalso
    have h1 := inb_lt hb
    have h2 := inb_in hb
    rcases h with h | h
    · exact h2 (Or.inl h)
    · have h3 : ¬ x < 0 := fun q => h2 (Or.inl q)
      obtain ⟨j, hj, rfl⟩ := nI_of h3
      rw [nI_clamp hj] at h1
      exact nI_ge h1 hN h
/-- an int is a number below n, or out of range -/
theorem rng (x : Int32) (n : Nat) (hn : n < 2 ^ 31) : (∃ j, j < n ∧ x = nI j) ∨ (x < 0 ∨ nI n ≤ x) := by
  rcases pk_ix x hn with h | h | h
  · exact Or.inr (Or.inl h)
  · exact Or.inr (Or.inr h)
  · exact Or.inl h
theorem lt_nc {s k : Nat} {c : Int32} (hc : c = nI k) (hs : s < 2 ^ 31) (hk : k < 2 ^ 31) : nI s < c ↔ s < k := by rw [hc]; exact nI_ltI hs hk
theorem lt_cn {s k : Nat} {c : Int32} (hc : c = nI k) (hs : s < 2 ^ 31) (hk : k < 2 ^ 31) : c < nI s ↔ k < s := by rw [hc]; exact nI_ltI hk hs
theorem le_nc {s k : Nat} {c : Int32} (hc : c = nI k) (hs : s < 2 ^ 31) (hk : k < 2 ^ 31) : nI s ≤ c ↔ s ≤ k := by rw [hc]; exact nI_leI hs hk
theorem le_cn {s k : Nat} {c : Int32} (hc : c = nI k) (hs : s < 2 ^ 31) (hk : k < 2 ^ 31) : c ≤ nI s ↔ k ≤ s := by rw [hc]; exact nI_leI hk hs
theorem eq_nc {s k : Nat} {c : Int32} (hc : c = nI k) (hs : s < 2 ^ 31) (hk : k < 2 ^ 31) : nI s = c ↔ s = k := by rw [hc]; exact nI_eq hs hk
theorem nI_m1 {s : Nat} (h : 0 < s) : nI s - 1 = nI (s - 1) := by
  obtain ⟨k, rfl⟩ : ∃ k, s = k + 1 := ⟨s - 1, by omega⟩
  rw [nI_pred, Nat.add_sub_cancel]
/-! memory -/
theorem wi_eq (ν : gN) (i k : Nat) (x : Int32) : (nWI ν i k x).1 i k = x := by simp [nWI]
theorem wi_ne {ν : gN} {i k a b : Nat} {x : Int32} (h : a ≠ i ∨ b ≠ k) : (nWI ν i k x).1 a b = ν.1 a b := by
  show (if a = i ∧ b = k then x else ν.1 a b) = _
  rw [if_neg (by omega)]
theorem wi_2 (ν : gN) (i k : Nat) (x : Int32) : (nWI ν i k x).2 = ν.2 := rfl
theorem wl_1 (ν : gN) (i k : Nat) (x : Int64) : (nWL ν i k x).1 = ν.1 := rfl
theorem wl_eq (ν : gN) (i k : Nat) (x : Int64) : (nWL ν i k x).2 i k = x := by simp [nWL]
theorem wl_ne {ν : gN} {i k a b : Nat} {x : Int64} (h : a ≠ i ∨ b ≠ k) : (nWL ν i k x).2 a b = ν.2 a b := by
  show (if a = i ∧ b = k then x else ν.2 a b) = _
  rw [if_neg (by omega)]
/-- the same but in the cells of P -/
def nEq (P : Nat → Prop) (ν ν' : gN) : Prop := ∀ a, ¬ P a → (∀ b, ν'.1 a b = ν.1 a b) ∧ ∀ b, ν'.2 a b = ν.2 a b
theorem nEq.rf {P : Nat → Prop} {ν : gN} : nEq P ν ν := fun _ _ => ⟨fun _ => rfl, fun _ => rfl⟩
theorem nEq.tr {P : Nat → Prop} {ν ν' ν'' : gN} (h : nEq P ν ν') (h2 : nEq P ν' ν'') : nEq P ν ν'' := fun a ha => ⟨fun b => ((h2 a ha).1 b).trans ((h a ha).1 b), fun b => ((h2 a ha).2 b).trans ((h a ha).2 b)⟩
theorem nEq.mono {P Q : Nat → Prop} {ν ν' : gN} (h : nEq P ν ν') (hq : ∀ a, P a → Q a) : nEq Q ν ν' := fun a ha => h a (fun q => ha (hq a q))
theorem nEq.wi {P : Nat → Prop} {ν ν' : gN} {i k : Nat} {x : Int32} (h : nEq P ν ν') (hi : P i) : nEq P ν (nWI ν' i k x) := fun a ha => ⟨fun b => (wi_ne (Or.inl (fun e => ha (by rw [e]; exact hi)))).trans ((h a ha).1 b), (h a ha).2⟩
theorem nEq.wl {P : Nat → Prop} {ν ν' : gN} {i k : Nat} {x : Int64} (h : nEq P ν ν') (hi : P i) : nEq P ν (nWL ν' i k x) := fun a ha => ⟨(h a ha).1, fun b => (wl_ne (Or.inl (fun e => ha (by rw [e]; exact hi)))).trans ((h a ha).2 b)⟩
theorem ql {α β : Type} (a : α) (f : α → β) : qL a f = f a := rfl
/-! the small functions -/
theorem bw_in {a b c : Int32} (ν : gN) (h1 : ¬ a < b) (h2 : ¬ c < a) : f_X8_isBetween a b c ν = some (1, ν) := by rw [f_X8_isBetween, if_neg h1, if_neg h2]
theorem bw_out {a b c : Int32} (ν : gN) (h : a < b ∨ c < a) : f_X8_isBetween a b c ν = some (0, ν) := by
  rw [f_X8_isBetween]
  by_cases h1 : a < b
  · rw [if_pos h1]
  · rw [if_neg h1, if_pos (h.resolve_left h1)]
theorem wn_in {a b c : Int32} (ν : gN) (h1 : ¬ a < b) (h2 : ¬ c < a) : f_X9_within a b c ν = some (1, ν) := by rw [f_X9_within, if_neg h1, if_neg h2]
theorem wn_out {a b c : Int32} (ν : gN) (h : a < b ∨ c < a) : f_X9_within a b c ν = some (0, ν) := by
  rw [f_X9_within]
  by_cases h1 : a < b
  · rw [if_pos h1]
  · rw [if_neg h1, if_pos (h.resolve_left h1)]
theorem lt7_of {x : Int32} (h : x < 0 ∨ nI 8 ≤ x) : x < 0 ∨ (7 : Int32) < x := by
  rcases h with h | h
  · exact Or.inl h
  · refine Or.inr ?_
    rw [Int32.lt_iff_toInt_lt]
    rw [Int32.le_iff_toInt_le, nI_toInt (by decide)] at h
    show (7 : Int) < _
    omega
theorem out_of {x : Int32} {n : Nat} (hn : n + 1 < 2 ^ 31) (h : x < 0 ∨ nI (n + 1) ≤ x) : x < 0 ∨ nI n < x := by
  rcases h with h | h
  · exact Or.inl h
  · refine Or.inr ?_
    rw [Int32.lt_iff_toInt_lt, nI_toInt (by omega)]
    rw [Int32.le_iff_toInt_le, nI_toInt (by omega)] at h
    omega
theorem shelf_in {s : Nat} (ν : gN) (h : s < 8) : f_X8_isShelf (nI s) ν = some (1, ν) := by
  rw [f_X8_isShelf, bw_in ν (nI_pos (by omega)) (by rw [lt_cn (c := 7) (k := 7) rfl (by omega) (by omega)]; omega)]
  rfl
theorem shelf_out {x : Int32} (ν : gN) (h : x < 0 ∨ nI 8 ≤ x) : f_X8_isShelf x ν = some (0, ν) := by
  rw [f_X8_isShelf, bw_out ν (lt7_of h)]
  rfl
theorem wsh_in {s : Nat} (ν : gN) (h : s < 8) : f_X9_within (nI s) 0 7 ν = some (1, ν) := wn_in ν (nI_pos (by omega)) (by rw [lt_cn (c := 7) (k := 7) rfl (by omega) (by omega)]; omega)
theorem wsh_out {x : Int32} (ν : gN) (h : x < 0 ∨ nI 8 ≤ x) : f_X9_within x 0 7 ν = some (0, ν) := wn_out ν (lt7_of h)
/-- a refusal, told on both sides -/
def R8 (k : Nat) (ν : gN) : gN := nWI ν 23 k (ν.1 23 k + 1)
def R9 (k : Nat) (ν : gN) : gN := nWI ν 68 k (ν.1 68 k + 1)
theorem refuse_k {k : Nat} (ν : gN) (hk : k < 8) : f_X8_refuse (nI k) ν = some (-nI k, R8 k ν) := by
  rw [f_X8_refuse, if_pos (ib_in hk (by decide)), if_pos (ib_in hk (by decide)), nI_clamp (by omega)]
  rfl
theorem refuseA_k {k : Nat} (ν : gN) (hk : k < 8) : f_X8_refuseApart (nI k) ν = some ((-10) - nI k, R8 k ν) := by
  rw [f_X8_refuseApart, if_pos (ib_in hk (by decide)), if_pos (ib_in hk (by decide)), nI_clamp (by omega)]
  rfl
theorem nn_nI (k : Nat) : -(-nI k) = nI k := by simp
theorem no_k {k : Nat} (ν : gN) (hk : k < 8) : f_X9_no (-nI k) ν = some (-nI k, R9 k ν) := by
  rw [f_X9_no, nn_nI, if_pos (ib_in hk (by decide)), if_pos (ib_in hk (by decide)), nI_clamp (by omega)]
  rfl
theorem no10_k {k : Nat} (ν : gN) (hk : k < 8) : f_X9_no10 (-nI k) ν = some (-nI k - 10, R9 k ν) := by
  rw [f_X9_no10, no_k ν hk]
  rfl
theorem apart_k : ∀ k, k < 8 → (-10) - nI k = -nI k - 10 := by decide +kernel
theorem b1 : ((1 : Int32) = 0) = False := by decide
theorem b0 : ((0 : Int32) = 0) = True := by decide
theorem b01 : ((0 : Int32) = 1) = False := by decide
theorem b11 : ((1 : Int32) = 1) = True := by decide
