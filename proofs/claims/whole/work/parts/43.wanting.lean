/-! the call wanting -/
theorem pA_pA (j i : Nat) (x y : Int32) (S : pS) : pA j i x (pA j i y S) = pA j i x S := by
  unfold pA
  refine Prod.ext rfl (Prod.ext (funext fun a => funext fun b => ?_) rfl)
  show (if a = j ∧ b = i then x else if a = j ∧ b = i then y else S.2.1 a b) = (if a = j ∧ b = i then x else S.2.1 a b)
  split <;> rfl
theorem pA_self (j i : Nat) (S : pS) : pA j i (S.2.1 j i) S = S := by
  unfold pA
  refine Prod.ext rfl (Prod.ext (funext fun a => funext fun b => ?_) rfl)
  show (if a = j ∧ b = i then S.2.1 j i else S.2.1 a b) = S.2.1 a b
  by_cases e : a = j ∧ b = i
  · rw [if_pos e, e.1, e.2]
  · rw [if_neg e]
theorem zA_zA (j i : Nat) (x y : Int32) (Z : zS) : zP (pA j i x) (zP (pA j i y) Z) = zP (pA j i x) Z := Prod.ext (pA_pA j i x y Z.1) rfl
theorem zA_self (j i : Nat) (Z : zS) : zP (pA j i (Z.1.2.1 j i)) Z = Z := Prod.ext (pA_self j i Z.1) rfl
noncomputable def wnM (S : pS) (x m s w : Nat) : Nat := pck (pA 2 x (nI w) S) (fun q => posN (pA 2 x (nI w) S) q m) (fun q => (0 : Nat).testBit q) s
noncomputable def wnP (S : pS) (x m s w : Nat) : Bool := (wnM S x m s w).testBit x
/-- the first or the last of P below n -/
def wnF (P : Nat → Bool) (l : Bool) : Nat → Nat
  | 0 => 99
  | t + 1 => if P t = true then (if wnF P l t = 99 then t else if l = true then t else wnF P l t) else wnF P l t
theorem wnF_lt {P : Nat → Bool} {l : Bool} : ∀ n, wnF P l n < n ∨ wnF P l n = 99
  | 0 => Or.inr rfl
  | n + 1 => by
    have ih := wnF_lt (P := P) (l := l) n
    rw [wnF]
    split
    · split
      · exact Or.inl (Nat.lt_succ_self n)
      · split
        · exact Or.inl (Nat.lt_succ_self n)
        · omega
    · omega
theorem wn_8L {Z : zS} {x m s : Nat} {l : Bool} {k : Int32 → gN → Option (Int32 × gN)} (hZ : okZ Z) (hx : x < Z.1.1) (hm : m < 50000) (hs : Z.1.2.2.2.1 0 = nI s) (hs4 : s ≤ 4) : ∀ j n t ν u, t + j = 21 → j < n → RP 8 (pA 2 x u Z.1) ν → CH Z.1.2.2.1 ν → ∃ ν', f_X8_wanting_L77 (nI x) (nI m) (i01 l) k n (fI (wnF (wnP Z.1 x m s) l t)) (nI t) ν = k (fI (wnF (wnP Z.1 x m s) l 21)) ν' ∧ nEq (fun q => (8 ≤ q ∧ q < 15) ∨ q = 31) ν ν' := by
  have hc7 := hZ.1.1
  intro j
  induction j with
  | zero =>
    intro n t ν u hj hn h hC
    obtain ⟨n, rfl⟩ : ∃ m, n = m + 1 := ⟨n - 1, by omega⟩
    have e : t = 21 := by omega
    subst e
    exact ⟨ν, by rw [f_X8_wanting_L77, if_pos (by decide)], nEq.rf⟩
  | succ j ih =>
    intro n t ν u hj hn h hC
    obtain ⟨n, rfl⟩ : ∃ m, n = m + 1 := ⟨n - 1, by omega⟩
    have hx7 : x < 7 := by omega
    have h1 := h.a (j := 2) (i := x) (x := nI t) (by decide) hx7
    rw [pA_pA] at h1
    have e1 : nEq (fun q => (8 ≤ q ∧ q < 15) ∨ q = 31) ν (nWI ν 11 x (nI t)) := nEq.rf.wi (by omega)
    have hC1 : CH (pA 2 x (nI t) Z.1).2.2.1 (nWI ν 11 x (nI t)) := hC.eq e1 (by omega)
    have hZ' := hZ.a2 x t (by omega)
    obtain ⟨ν2, c1, c2, c3⟩ := lk8 (p := 8) (m := m) (S := pA 2 x (nI t) Z.1) (by decide) hZ'.1 hm h1 hC1
    have h2 : RP 8 (pA 2 x (nI t) Z.1) ν2 := h1.eq c3 (fun a _ _ => by omega)
    have hC2 : CH (pA 2 x (nI t) Z.1).2.2.1 ν2 := hC1.eq c3 (by omega)
    have el := elect8 (xm := 0) (s := s) h2 hc7 (AT.of hZ'.1 c2 hC2) (by decide) hs hs4
    have hM : wnM Z.1 x m s t < 128 := by
      unfold wnM
      exact pck_lt (S := pA 2 x (nI t) Z.1) hc7 s
    have hf := wnF_lt (P := wnP Z.1 x m s) (l := l) t
    obtain ⟨ν', w1, w2⟩ := ih n (t + 1) ν2 (nI t) (by omega) (by omega) h2 hC2
    rw [wnF] at w1
    refine ⟨ν', ?_, (e1.tr (c3.mono (fun a z => Or.inr z))).tr w2⟩
    have el' : f_X2_elect 8 0 ν2 = some (nI (wnM Z.1 x m s t), ν2) := el
    rw [f_X8_wanting_L77, if_neg (by rw [lt_cn (c := 20) (k := 20) rfl (by omega) (by decide)]; omega), if_pos (ib_in hx7 (by decide)), nI_clamp (by omega), ql, c1, Option.bind_some, el', Option.bind_some, in8 ν2 hM hx7, Option.bind_some, nI_1]
    have hP : wnP Z.1 x m s t = (wnM Z.1 x m s t).testBit x := rfl
    rw [hP] at w1
    generalize wnF (wnP Z.1 x m s) l t = f at w1 hf ⊢
    cases hb : (wnM Z.1 x m s t).testBit x with
    | false =>
      rw [if_pos (show (i01 false, ν2).1 = 0 from rfl)]
      rw [if_neg (by rw [hb]; decide)] at w1
      exact w1
    | true =>
      rw [if_neg (show ¬ (i01 true, ν2).1 = 0 from by show ¬ i01 true = 0; decide)]
      rw [if_pos hb] at w1
      by_cases z : f = 99
      · rw [if_pos (by rw [fI_m2 (by omega)]; exact z)]
        rw [if_pos z, show fI t = nI t from if_neg (by omega)] at w1
        exact w1
      · rw [if_neg (by rw [fI_m2 (by omega)]; exact z)]
        rw [if_neg z] at w1
        cases l with
        | true =>
          rw [if_pos (show i01 true = 1 from rfl)]
          rw [if_pos rfl, show fI t = nI t from if_neg (by omega)] at w1
          exact w1
        | false =>
          rw [if_neg (show ¬ i01 false = 1 by decide)]
          rw [if_neg (by decide)] at w1
          exact w1
