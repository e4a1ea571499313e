/-! READING A TEXT: signs, letters, words, numbers, on both sides -/
def sg (l : Nat) (v : Nat → Int32) (p : Nat) : Int32 := if p < l then v p else -1
/-- the class's reader stands at p -/
def RD (l : Nat) (v : Nat → Int32) (p : Nat) (ν : gN) : Prop := ν.1 33 1 = nI l ∧ ν.1 33 2 = nI p ∧ ∀ i, i < l → ν.1 34 i = v i
/-- the reference stands at p -/
def RE (s l : Nat) (v : Nat → Int32) (p : Nat) (ν : gN) : Prop := ν.1 53 13 = nI s ∧ ν.1 63 s = nI l ∧ (∀ i, i < l → (ν.2 64 (160 * s + i)).toInt32 = v i) ∧ ν.1 53 14 = nI p
theorem RD.st {l p q : Nat} {v : Nat → Int32} {ν : gN} (h : RD l v p ν) : RD l v q (nWI ν 33 2 (nI q)) := ⟨by rw [wi_ne (by omega)]; exact h.1, wi_eq _ _ _ _, fun i hi => by rw [wi_ne (by omega)]; exact h.2.2 i hi⟩
theorem RE.st {s l p q : Nat} {v : Nat → Int32} {ν : gN} (h : RE s l v p ν) : RE s l v q (nWI ν 53 14 (nI q)) := ⟨by rw [wi_ne (by omega)]; exact h.1, by rw [wi_ne (by omega)]; exact h.2.1, h.2.2.1, wi_eq _ _ _ _⟩
theorem RD.o {l p b : Nat} {v : Nat → Int32} {ν : gN} {x : Int32} (h : RD l v p ν) (h2 : b ≠ 1) (h3 : b ≠ 2) : RD l v p (nWI ν 33 b x) := ⟨by rw [wi_ne (by omega)]; exact h.1, by rw [wi_ne (by omega)]; exact h.2.1, fun i hi => by rw [wi_ne (by omega)]; exact h.2.2 i hi⟩
theorem RD.eq {l p : Nat} {v : Nat → Int32} {ν ν' : gN} {P : Nat → Prop} (h : RD l v p ν) (he : nEq P ν ν') (h3 : ¬ P 33) (h4 : ¬ P 34) : RD l v p ν' := ⟨((he 33 h3).1 _).trans h.1, ((he 33 h3).1 _).trans h.2.1, fun i hi => ((he 34 h4).1 _).trans (h.2.2 i hi)⟩
theorem RE.eq {s l p : Nat} {v : Nat → Int32} {ν ν' : gN} {P : Nat → Nat → Prop} (h : RE s l v p ν) (he : mEq P ν ν') (h1 : ¬ P 53 13) (h2 : ¬ P 63 s) (h3 : ∀ b, ¬ P 64 b) (h4 : ¬ P 53 14) : RE s l v p ν' := ⟨(he _ _ h1).1.trans h.1, (he _ _ h2).1.trans h.2.1, fun i hi => by rw [(he 64 _ (h3 _)).2]; exact h.2.2.1 i hi, (he _ _ h4).1.trans h.2.2.2⟩
theorem sg9 {s l p : Nat} {v : Nat → Int32} {ν : gN} (h : RE s l v p ν) (hs : s < 8) (hl : l ≤ 160) (hp : p < 1000) : f_X9_sign ν = some (sg l v p, ν) := by
  obtain ⟨h1, h2, h3, h4⟩ := h
  rw [f_X9_sign, h1, if_pos (ib_in hs (by decide)), nI_clamp (by omega), h2, h4]
  unfold sg
  by_cases z : p < l
  · rw [if_neg (nI_ge z (by omega)), ix_s, if_pos (ib_in (by omega) (by decide)), nI_clamp (by omega), h3 p z, if_pos z]
  · rw [if_pos (nI_le (by omega) (by omega)), if_neg z]
theorem is9 {s l p : Nat} {v : Nat → Int32} {ν : gN} (x : Int32) (h : RE s l v p ν) (hs : s < 8) (hl : l ≤ 160) (hp : p < 1000) : f_X9_is x ν = if sg l v p = x then some (1, nWI ν 53 14 (nI (p + 1))) else some (0, ν) := by
  rw [f_X9_is, sg9 h hs hl hp, Option.bind_some]
  by_cases e : sg l v p = x
  · rw [if_pos e, if_pos e, ql]
    show some ((1 : Int32), nWI ν 53 14 (ν.1 53 14 + 1)) = _
    rw [h.2.2.2, nI_1]
  · rw [if_neg e, if_neg e]
theorem isg8 {l p i : Nat} {v : Nat → Int32} {ν : gN} {x : Int32} (h : RD l v p ν) (hl : l ≤ 160) (hi : i < 1000) (hx : x ≠ -1) : f_X5_isSign (nI i) x ν = some (i01 (decide (sg l v i = x)), ν) := by
  rw [f_X5_isSign, h.1]
  unfold sg
  by_cases z : i < l
  · rw [if_neg (nI_ge z (by omega)), if_pos (ib_in (by omega) (by decide)), nI_clamp (by omega), h.2.2 i z, if_pos z]
    by_cases e : v i = x
    · rw [if_pos e, decide_eq_true e]; rfl
    · rw [if_neg e, decide_eq_false e]; rfl
  · rw [if_pos (nI_le (by omega) (by omega)), if_neg z, decide_eq_false (fun q => hx q.symm)]; rfl
theorem rs8 {l p : Nat} {v : Nat → Int32} {ν : gN} {x : Int32} (h : RD l v p ν) (hl : l ≤ 160) (hp : p < 1000) (hx : x ≠ -1) : f_X5_readSign x ν = if sg l v p = x then some (nWI ν 33 2 (nI (p + 1))) else some (nWI ν 33 4 (nI p)) := by
  rw [f_X5_readSign, h.2.1, isg8 h hl hp hx, Option.bind_some]
  by_cases e : sg l v p = x
  · rw [if_pos e, decide_eq_true e, if_neg (show ¬ (i01 true, ν).1 = 0 from by show ¬ i01 true = 0; decide), ql]
    show some (nWI ν 33 2 (ν.1 33 2 + 1)) = _
    rw [h.2.1, nI_1]
  · rw [if_neg e, decide_eq_false e, if_pos (show (i01 false, ν).1 = 0 from rfl), ql]
    show some (nWI ν 33 4 (ν.1 33 2)) = _
    rw [h.2.1]
/-! digits -/
def dg (l : Nat) (v : Nat → Int32) (p : Nat) : Bool := decide (¬ sg l v p < 48 ∧ ¬ 57 < sg l v p)
theorem dg_lt {l p : Nat} {v : Nat → Int32} (h : dg l v p = true) : p < l ∧ sg l v p = v p := by
  have h1 := (of_decide_eq_true h).1
  by_cases z : p < l
  · exact ⟨z, if_pos z⟩
  · exfalso
    rw [sg, if_neg z] at h1
    exact h1 (by decide)
theorem dig8 {l p : Nat} {v : Nat → Int32} {ν : gN} (h : RD l v p ν) (hl : l ≤ 160) (hp : p < 1000) : f_X5_isDigitNext ν = some (i01 (dg l v p), ν) := by
  rw [f_X5_isDigitNext, h.1, h.2.1]
  unfold dg sg
  by_cases z : p < l
  · rw [if_neg (nI_ge z (by omega)), if_pos (ib_in (by omega) (by decide)), nI_clamp (by omega), h.2.2 p z, if_pos z]
    by_cases e : v p < 48
    · rw [if_pos e, decide_eq_false (fun q => q.1 e)]; rfl
    · rw [if_neg e, if_pos (ib_in (by omega) (by decide))]
      by_cases e2 : 57 < v p
      · rw [if_pos e2, decide_eq_false (fun q => q.2 e2)]; rfl
      · rw [if_neg e2, decide_eq_true ⟨e, e2⟩]; rfl
  · rw [if_pos (nI_le (by omega) (by omega)), if_neg z, decide_eq_false (fun q => q.1 (by decide))]; rfl
def nv (l : Nat) (v : Nat → Int32) (p : Nat) : Int32 × Nat := if dg l v p = true then (if dg l v (p + 1) = true then (10 * (10 * 0 + sg l v p - 48) + sg l v (p + 1) - 48, p + 2) else (10 * 0 + sg l v p - 48, p + 1)) else (0, p)
theorem nv_le {l p : Nat} {v : Nat → Int32} (hp : p ≤ l) : p ≤ (nv l v p).2 ∧ (nv l v p).2 ≤ p + 2 ∧ (nv l v p).2 ≤ l := by
  unfold nv
  by_cases d0 : dg l v p = true
  · have := (dg_lt d0).1
    rw [if_pos d0]
    by_cases d1 : dg l v (p + 1) = true
    · have := (dg_lt d1).1
      rw [if_pos d1]
      exact ⟨by show p ≤ p + 2; omega, Nat.le_refl _, by show p + 2 ≤ l; omega⟩
    · rw [if_neg d1]
      exact ⟨by show p ≤ p + 1; omega, by show p + 1 ≤ p + 2; omega, by show p + 1 ≤ l; omega⟩
  · rw [if_neg d0]
    exact ⟨Nat.le_refl _, by show p ≤ p + 2; omega, hp⟩
theorem nl_st {l p n : Nat} {v : Nat → Int32} {ν : gN} {y1 y2 y3 y4 : Int32} {k : Int32 → gN → Option (Int32 × gN)} (h : RD l v p ν) (hl : l ≤ 160) (hp : p < 1000) (hy : ¬ 2 ≤ y4) : f_X5_readNumber_L37 y1 y2 k (n + 1) y3 y4 ν = if dg l v p = true then f_X5_readNumber_L37 y1 y2 k n (10 * y3 + sg l v p - 48) (y4 + 1) (nWI ν 33 2 (nI (p + 1))) else k y3 ν := by
  rw [f_X5_readNumber_L37, if_neg hy, dig8 h hl hp, Option.bind_some]
  cases d : dg l v p with
  | false => rw [if_pos (show (i01 false, ν).1 = 0 from rfl), if_neg (by decide)]
  | true =>
    have hd := dg_lt d
    rw [if_neg (show ¬ (i01 true, ν).1 = 0 from by show ¬ i01 true = 0; decide), if_pos rfl]
    show (if inb (ν.1 33 2) 160 = true then qL (nWI ν 33 2 (ν.1 33 2 + 1)) (fun ν_6 => f_X5_readNumber_L37 y1 y2 k n (10 * y3 + ν.1 34 (ν.1 33 2).toNatClampNeg - 48) (y4 + 1) ν_6) else none) = _
    rw [h.2.1, if_pos (ib_in (by omega) (by decide)), ql, nI_clamp (by omega), h.2.2 p hd.1, nI_1, hd.2]
theorem nl8 {l p : Nat} {v : Nat → Int32} {ν : gN} {y1 y2 : Int32} {k : Int32 → gN → Option (Int32 × gN)} (h : RD l v p ν) (hl : l ≤ 160) (hp : p < 900) : ∃ ν', f_X5_readNumber_L37 y1 y2 k FU 0 0 ν = k (nv l v p).1 ν' ∧ RD l v (nv l v p).2 ν' ∧ mEq (fun a b => a = 33 ∧ b = 2) ν ν' := by
  obtain ⟨n, hn⟩ : ∃ n, FU = n + 1 + 1 + 1 := ⟨99997, rfl⟩
  rw [hn, nl_st h hl (by omega) (by decide), nv]
  by_cases d0 : dg l v p = true
  · rw [if_pos d0, if_pos d0, nl_st (h.st (q := p + 1)) hl (by omega) (by decide)]
    by_cases d1 : dg l v (p + 1) = true
    · rw [if_pos d1, if_pos d1, f_X5_readNumber_L37, if_pos (by decide)]
      exact ⟨_, rfl, (h.st (q := p + 1)).st (q := p + 2), (mEq.rf.wi ⟨rfl, rfl⟩).wi ⟨rfl, rfl⟩⟩
    · rw [if_neg d1, if_neg d1]
      exact ⟨_, rfl, h.st (q := p + 1), mEq.rf.wi ⟨rfl, rfl⟩⟩
  · rw [if_neg d0, if_neg d0]
    exact ⟨ν, rfl, h, mEq.rf⟩
theorem nr_st {s l p st n : Nat} {v : Nat → Int32} {ν : gN} {y1 y2 y3 y5 : Int32} {k : Int32 → gN → Option (Int32 × gN)} (h : RE s l v p ν) (hs : s < 8) (hl : l ≤ 160) (hp : p < 1000) (h1 : st ≤ p) (h2 : p < st + 2) : f_X9_number_L20 y1 y2 y3 (nI st) k (n + 1) y5 ν = if dg l v p = true then f_X9_number_L20 y1 y2 y3 (nI st) k n (10 * y5 + sg l v p - 48) (nWI ν 53 14 (nI (p + 1))) else k y5 ν := by
  have hsg := sg9 h hs hl hp
  rw [f_X9_number_L20, h.2.2.2, nI_sub h1, if_neg (show ¬ (2 : Int32) ≤ nI (p - st) from nI_ge (b := 2) (by omega) (by decide)), hsg, Option.bind_some]
  unfold dg
  by_cases e : sg l v p < 48
  · rw [if_pos e, decide_eq_false (fun q => q.1 e), if_neg (by decide)]
  · rw [if_neg e]
    show (f_X9_sign ν).bind _ = _
    rw [hsg, Option.bind_some]
    by_cases e2 : 57 < sg l v p
    · rw [if_pos e2, decide_eq_false (fun q => q.2 e2), if_neg (by decide)]
    · rw [if_neg e2, decide_eq_true ⟨e, e2⟩, if_pos rfl]
      show (f_X9_sign ν).bind _ = _
      rw [hsg, Option.bind_some, ql]
      show f_X9_number_L20 y1 y2 y3 (nI st) k n (10 * y5 + sg l v p - 48) (nWI ν 53 14 (ν.1 53 14 + 1)) = _
      rw [h.2.2.2, nI_1]
theorem nl9 {s l p : Nat} {v : Nat → Int32} {ν : gN} {y1 y2 y3 : Int32} {k : Int32 → gN → Option (Int32 × gN)} (h : RE s l v p ν) (hs : s < 8) (hl : l ≤ 160) (hp : p < 900) : ∃ ν', f_X9_number_L20 y1 y2 y3 (nI p) k FU 0 ν = k (nv l v p).1 ν' ∧ RE s l v (nv l v p).2 ν' ∧ mEq (fun a b => a = 53 ∧ b = 14) ν ν' := by
  obtain ⟨n, hn⟩ : ∃ n, FU = n + 1 + 1 + 1 := ⟨99997, rfl⟩
  rw [hn, nr_st h hs hl (by omega) (Nat.le_refl _) (by omega), nv]
  by_cases d0 : dg l v p = true
  · rw [if_pos d0, if_pos d0, nr_st (h.st (q := p + 1)) hs hl (by omega) (by omega) (by omega)]
    by_cases d1 : dg l v (p + 1) = true
    · rw [if_pos d1, if_pos d1, f_X9_number_L20, wi_eq, nI_sub (show p ≤ p + 1 + 1 by omega), show p + 1 + 1 - p = 2 by omega, if_pos (by decide)]
      exact ⟨_, rfl, (h.st (q := p + 1)).st (q := p + 2), (mEq.rf.wi ⟨rfl, rfl⟩).wi ⟨rfl, rfl⟩⟩
    · rw [if_neg d1, if_neg d1]
      exact ⟨_, rfl, h.st (q := p + 1), mEq.rf.wi ⟨rfl, rfl⟩⟩
  · rw [if_neg d0, if_neg d0]
    exact ⟨ν, rfl, h, mEq.rf⟩
/-! a number -/
def nbT (l : Nat) (v : Nat → Int32) (lo hi : Int32) (p : Nat) : Bool := decide (sg l v p = 32) && (decide ((nv l v (p + 1)).2 ≠ p + 1) && bt (nv l v (p + 1)).1 lo hi)
def nbX (l : Nat) (v : Nat → Int32) (p : Nat) : Nat := if sg l v p = 32 then p + 1 else p
theorem nbT_of {l p : Nat} {v : Nat → Int32} {lo hi : Int32} (h : nbT l v lo hi p = true) : sg l v p = 32 ∧ (nv l v (p + 1)).2 ≠ p + 1 ∧ bt (nv l v (p + 1)).1 lo hi = true := by
  simp only [nbT, Bool.and_eq_true, decide_eq_true_eq] at h
  exact h
theorem sg_lt {l p : Nat} {v : Nat → Int32} (h : sg l v p ≠ -1) : p < l := by
  by_cases z : p < l
  · exact z
  · exact absurd (if_neg z) h
def CS (l : Nat) (v : Nat → Int32) (z : Bool × Nat) (ν : gN) : Prop := if z.1 = true then ν.1 33 4 = -1 ∧ RD l v z.2 ν else ν.1 33 4 = nI z.2
def nst (l : Nat) (v : Nat → Int32) (lo hi : Int32) (z : Bool × Nat) : Bool × Nat := if z.1 = true then (if nbT l v lo hi z.2 = true then (true, (nv l v (z.2 + 1)).2) else (false, nbX l v z.2)) else z
theorem nI_nm1 {k : Nat} (h : k < 2 ^ 31) : ¬ nI k = -1 := fun q => nI_pos h (by rw [q]; decide)
theorem nb8 {l : Nat} {v : Nat → Int32} {lo hi : Int32} {z : Bool × Nat} {ν : gN} (hl : l ≤ 160) (hz : z.2 < 800) (h : CS l v z ν) : ∃ x ν', f_X5_readNumber lo hi ν = some (x, ν') ∧ CS l v (nst l v lo hi z) ν' ∧ nEq (fun q => q = 33) ν ν' ∧ ((nst l v lo hi z).1 = true → x = (nv l v (z.2 + 1)).1 ∧ ν'.1 33 3 = nI (z.2 + 1)) := by
  obtain ⟨b, p⟩ := z
  cases b with
  | false =>
    have h5 : ν.1 33 4 = nI p := h
    have hp : p < 800 := hz
    refine ⟨0, ν, ?_, h, nEq.rf, fun q => absurd q (by show ¬ (nst l v lo hi (false, p)).1 = true; simp [nst])⟩
    rw [f_X5_readNumber, h5, if_neg (nI_nm1 (by omega)), if_neg (nI_nm1 (by omega))]
  | true =>
    obtain ⟨h5, hR⟩ : ν.1 33 4 = -1 ∧ RD l v p ν := h
    have hp : p < 800 := hz
    rw [f_X5_readNumber, if_pos h5, rs8 hR hl (by omega) (by decide)]
    by_cases e : sg l v p = 32
    · have hpl : p < l := sg_lt (by rw [e]; decide)
      rw [if_pos e, Option.bind_some, if_pos (by rw [wi_ne (by omega)]; exact h5), ql, wi_eq]
      have hR1 : RD l v (p + 1) (nWI (nWI ν 33 2 (nI (p + 1))) 33 3 (nI (p + 1))) := hR.st.o (by decide) (by decide)
      obtain ⟨ν1, a1, a2, a3⟩ := nl8 (y1 := lo) (y2 := hi) (k := fun z3_20 ν_21 => if (ν_21.1 33 2) = (ν_21.1 33 3) then qL (nWI ν_21 33 4 (ν_21.1 33 3)) (fun ν_22 => some (z3_20, ν_22)) else if z3_20 < lo then qL (nWI ν_21 33 4 (ν_21.1 33 3)) (fun ν_24 => some (z3_20, ν_24)) else if z3_20 ≤ hi then some (z3_20, ν_21) else qL (nWI ν_21 33 4 (ν_21.1 33 3)) (fun ν_26 => some (z3_20, ν_26))) hR1 hl (by omega)
      have hnv := nv_le (l := l) (v := v) (p := p + 1) (by omega)
      have h4 : ν1.1 33 3 = nI (p + 1) := by rw [(a3 33 3 (by omega)).1, wi_eq]
      have h55 : ν1.1 33 4 = -1 := by rw [(a3 33 4 (by omega)).1, wi_ne (by omega), wi_ne (by omega)]; exact h5
      have e33 : nEq (fun q => q = 33) ν ν1 := ((nEq.rf.wi (P := fun q => q = 33) rfl).wi rfl).tr (a3.n (fun a b z => z.1))
      rw [a1, a2.2.1, h4]
      have bad : nbT l v lo hi p = false → ∃ x ν', qL (nWI ν1 33 4 (nI (p + 1))) (fun ν_26 => some ((nv l v (p + 1)).1, ν_26)) = some (x, ν') ∧ CS l v (nst l v lo hi (true, p)) ν' ∧ nEq (fun q => q = 33) ν ν' ∧ ((nst l v lo hi (true, p)).1 = true → x = (nv l v ((true, p).2 + 1)).1 ∧ ν'.1 33 3 = nI ((true, p).2 + 1)) := fun hb => by
        have en : nst l v lo hi (true, p) = (false, p + 1) := by
          rw [nst, if_pos rfl]
          show (if nbT l v lo hi p = true then _ else (false, nbX l v p)) = _
          rw [if_neg (by rw [hb]; decide), nbX, if_pos e]
        rw [en]
        exact ⟨_, _, rfl, wi_eq _ _ _ _, e33.wi rfl, fun q => absurd q (by show ¬ false = true; decide)⟩
      by_cases g1 : (nv l v (p + 1)).2 = p + 1
      · rw [if_pos (by rw [g1])]
        exact bad (by simp [nbT, g1])
      · rw [if_neg (by rw [nI_eq (by omega) (by omega)]; exact g1)]
        by_cases g2 : (nv l v (p + 1)).1 < lo
        · rw [if_pos g2]
          exact bad (by simp [nbT, bt, g2])
        · rw [if_neg g2]
          by_cases g3 : (nv l v (p + 1)).1 ≤ hi
          · have ht : nbT l v lo hi p = true := by
              have : ¬ hi < (nv l v (p + 1)).1 := Int32.not_lt.mpr g3
              simp [nbT, bt, e, g1, g2, this]
            have en : nst l v lo hi (true, p) = (true, (nv l v (p + 1)).2) := by
              rw [nst, if_pos rfl]
              show (if nbT l v lo hi p = true then (true, (nv l v (p + 1)).2) else _) = _
              rw [if_pos ht]
            rw [if_pos g3, en]
            exact ⟨_, _, rfl, ⟨h55, a2⟩, e33, fun _ => ⟨rfl, h4⟩⟩
          · rw [if_neg g3]
            exact bad (by
              have : hi < (nv l v (p + 1)).1 := Int32.not_le.mp g3
              simp [nbT, bt, this])
    · rw [if_neg e, Option.bind_some, if_neg (by rw [wi_eq]; exact nI_nm1 (by omega))]
      have en : nst l v lo hi (true, p) = (false, p) := by
        rw [nst, if_pos rfl]
        show (if nbT l v lo hi p = true then _ else (false, nbX l v p)) = _
        rw [if_neg (by simp [nbT, e]), nbX, if_neg e]
      rw [en]
      exact ⟨_, _, rfl, wi_eq _ _ _ _, nEq.rf.wi rfl, fun q => absurd q (by show ¬ false = true; decide)⟩
def nP (k a b : Nat) : Prop := (a = 53 ∧ b = 14) ∨ (a = 65 ∧ b = k)
theorem nb9 {s l p k : Nat} {v : Nat → Int32} {lo hi : Int32} {ν : gN} (h : RE s l v p ν) (hs : s < 8) (hl : l ≤ 160) (hp : p < 800) (hk : k < 5) : ∃ ν', f_X9_number (nI k) lo hi ν = some (i01 (nbT l v lo hi p), ν') ∧ RE s l v (if nbT l v lo hi p = true then (nv l v (p + 1)).2 else nbX l v p) ν' ∧ (nbT l v lo hi p = true → ν'.1 65 k = (nv l v (p + 1)).1) ∧ mEq (nP k) ν ν' := by
  rw [f_X9_number, is9 32 h hs hl (by omega)]
  by_cases e : sg l v p = 32
  · have hpl : p < l := sg_lt (by rw [e]; decide)
    rw [if_pos e, Option.bind_some, if_neg (show ¬ (1 : Int32) = 0 by decide)]
    obtain ⟨ν1, a1, a2, a3⟩ := nl9 (y1 := nI k) (y2 := lo) (y3 := hi) (k := fun z5_11 ν_12 => if (ν_12.1 53 14) = nI (p + 1) then some (0, ν_12) else if inb (nI k) 5 = true then qL (nWI ν_12 65 (nI k).toNatClampNeg z5_11) (fun ν_14 => (f_X9_within z5_11 lo hi ν_14).bind (fun r_16 => if r_16.1 = 0 then qL (nWI r_16.2 53 14 (nI (p + 1))) (fun ν_19 => if zb r_16.1 = true then some (r_16.1, ν_19) else none) else if zb r_16.1 = true then some (r_16.1, r_16.2) else none)) else none) (h.st (q := p + 1)) hs hl (by omega)
    have hnv := nv_le (l := l) (v := v) (p := p + 1) (by omega)
    have e1 : mEq (nP k) ν ν1 := (mEq.rf.wi (P := nP k) (Or.inl ⟨rfl, rfl⟩)).tr (a3.mono (fun a b z => Or.inl z))
    show ∃ ν', f_X9_number_L20 (nI k) lo hi ((nWI ν 53 14 (nI (p + 1))).1 53 14) (fun z5_11 ν_12 => if (ν_12.1 53 14) = ((nWI ν 53 14 (nI (p + 1))).1 53 14) then some (0, ν_12) else if inb (nI k) 5 = true then qL (nWI ν_12 65 (nI k).toNatClampNeg z5_11) (fun ν_14 => (f_X9_within z5_11 lo hi ν_14).bind (fun r_16 => if r_16.1 = 0 then qL (nWI r_16.2 53 14 ((nWI ν 53 14 (nI (p + 1))).1 53 14)) (fun ν_19 => if zb r_16.1 = true then some (r_16.1, ν_19) else none) else if zb r_16.1 = true then some (r_16.1, r_16.2) else none)) else none) FU 0 (nWI ν 53 14 (nI (p + 1))) = _ ∧ _
    rw [wi_eq, a1, a2.2.2.2]
    by_cases g1 : (nv l v (p + 1)).2 = p + 1
    · have hb : nbT l v lo hi p = false := by simp [nbT, g1]
      rw [if_pos (by rw [g1]), hb, if_neg (by decide), nbX, if_pos e]
      exact ⟨ν1, rfl, by rw [g1] at a2; exact a2, fun q => absurd q (by decide), e1⟩
    · rw [if_neg (by rw [nI_eq (by omega) (by omega)]; exact g1), if_pos (ib_in hk (by decide)), nI_clamp (by omega), ql, bw9, Option.bind_some]
      have a2' : RE s l v (nv l v (p + 1)).2 (nWI ν1 65 k (nv l v (p + 1)).1) := a2.eq (P := fun a b => a = 65) (mEq.rf.wi rfl) (by omega) (by omega) (fun b => by omega) (by omega)
      have e2 : mEq (nP k) ν (nWI ν1 65 k (nv l v (p + 1)).1) := e1.wi (Or.inr ⟨rfl, rfl⟩)
      cases hb : bt (nv l v (p + 1)).1 lo hi with
      | false =>
        have hT : nbT l v lo hi p = false := by simp [nbT, hb]
        rw [if_pos (show (i01 false, nWI ν1 65 k (nv l v (p + 1)).1).1 = 0 from rfl), hT, if_neg (by decide), nbX, if_pos e, ql]
        exact ⟨_, rfl, a2'.st, fun q => absurd q (by decide), e2.wi (Or.inl ⟨rfl, rfl⟩)⟩
      | true =>
        have hT : nbT l v lo hi p = true := by simp [nbT, hb, e, g1]
        rw [if_neg (show ¬ (i01 true, nWI ν1 65 k (nv l v (p + 1)).1).1 = 0 from by show ¬ i01 true = 0; decide), hT, if_pos rfl]
        exact ⟨_, rfl, a2', fun _ => wi_eq _ _ _ _, e2⟩
  · have hb : nbT l v lo hi p = false := by simp [nbT, e]
    rw [if_neg e, Option.bind_some, if_pos rfl, hb, if_neg (by decide), nbX, if_neg e]
    exact ⟨ν, rfl, h, fun q => absurd q (by decide), mEq.rf⟩
/-! words -/
def wl (w : Nat) : Nat := g_len.getD w 0
def wc (w i : Nat) : Int32 := (g_byt.getD w []).getD i 0
theorem wl_sh : ∀ w, w < 7 → j_shr (nI (g_len.getD w 0)) 0 = nI (wl w) := by decide
theorem wc_t : ∀ w, w < 7 → ∀ i, i < wl w → cb (j_i2c (wc w i &&& 255)) = true ∧ j_i2c (wc w i &&& 255) = wc w i ∧ wc w i ≠ -1 := by decide
theorem wl_le : ∀ w, w < 7 → 4 ≤ wl w ∧ wl w ≤ 6 := by decide
theorem len8 {w : Nat} (hw : w < 7) (ν : gN) : f_J0_length_8abf5 w ν = some (nI (wl w), ν) := by
  rw [f_J0_length_8abf5, f_J0_coder_7d493, if_neg (show ¬ (1 : Int32) = 0 by decide), Option.bind_some]
  show some (j_shr (nI (g_len.getD w 0)) 0, ν) = _
  rw [wl_sh w hw]
theorem chr8 {w i : Nat} (hw : w < 7) (hi : i < wl w) (ν : gN) : f_J0_charAt_5068e w (nI i) ν = some (wc w i, ν) := by
  have hl := (wl_le w hw).2
  obtain ⟨c1, c2, _⟩ := wc_t w hw i hi
  have hi' : i < g_len.getD w 0 := hi
  have hl' : g_len.getD w 0 ≤ 6 := hl
  have e1 : f_J1_charAt_3b067 w (nI i) ν = some (wc w i, ν) := by
    rw [f_J1_charAt_3b067, f_J0_checkIndex_df160, f_J3_checkIndex_8e157, if_neg (nI_pos (by omega)), if_pos (nI_lt hi' (by omega)), Option.bind_some, Option.bind_some, if_pos (ib_in hi' (by omega)), nI_clamp (by omega)]
    show (if cb (j_i2c (wc w i &&& 255)) = true then some (j_i2c (wc w i &&& 255), ν) else none) = _
    rw [if_pos c1, c2]
  rw [f_J0_charAt_5068e, f_J0_isLatin1_aae02, if_neg (show ¬ (1 : Int32) = 0 by decide), if_pos rfl, Option.bind_some, if_neg (show ¬ (1 : Int32) = 0 by decide)]
  show (f_J1_charAt_3b067 w (nI i) ν).bind _ = _
  rw [e1, Option.bind_some]
  show (if cb (wc w i) = true then some (wc w i, ν) else none) = _
  rw [if_pos (by rw [← c2]; exact c1)]
def alN (P : Nat → Bool) : Nat → Nat → Nat
  | i, 0 => i
  | i, j + 1 => if P i = true then alN P (i + 1) j else i
theorem alN_le {P : Nat → Bool} : ∀ j i, i ≤ alN P i j ∧ alN P i j ≤ i + j
  | 0, i => ⟨Nat.le_refl _, Nat.le_refl _⟩
  | j + 1, i => by
    have := alN_le (P := P) j (i + 1)
    rw [alN]
    split <;> omega
theorem alN_sh {P Q : Nat → Bool} : ∀ j i, (∀ a, i ≤ a → a < i + j → P (a + 1) = Q a) → alN P (i + 1) j = alN Q i j + 1
  | 0, i, _ => rfl
  | j + 1, i, h => by
    rw [alN, alN, h i (Nat.le_refl _) (by omega), alN_sh j (i + 1) (fun a h1 h2 => h a (by omega) (by omega))]
    split <;> rfl
/-- how many letters of the word w stand from p on -/
def ak (l : Nat) (v : Nat → Int32) (p w : Nat) : Nat := alN (fun i => decide (sg l v (p + i) = wc w i)) 0 (wl w)
theorem ak_le (l : Nat) (v : Nat → Int32) (p w : Nat) : ak l v p w ≤ wl w := by
  have := (alN_le (P := fun i => decide (sg l v (p + i) = wc w i)) (wl w) 0).2
  unfold ak
  omega
theorem ak_0 {l p w : Nat} {v : Nat → Int32} (hw : w < 7) (h : sg l v p ≠ wc w 0) : ak l v p w = 0 := by
  obtain ⟨n, hn⟩ : ∃ n, wl w = n + 1 := ⟨wl w - 1, by have := (wl_le w hw).1; omega⟩
  unfold ak
  rw [hn, alN, if_neg (by simpa using h)]
theorem ak_pl {l w : Nat} {v : Nat → Int32} (hw : w < 7) : ∀ p, ak l v p w = wl w → p + wl w ≤ l := by
  intro p h
  have key : ∀ j i, alN (fun i => decide (sg l v (p + i) = wc w i)) i j = i + j → i + j ≤ wl w → 0 < j → p + (i + j) ≤ l := by
    intro j
    induction j with
    | zero => intro i _ _ h0; omega
    | succ j ih =>
      intro i h1 h2 _
      rw [alN] at h1
      by_cases hp : decide (sg l v (p + i) = wc w i) = true
      · rw [if_pos hp] at h1
        by_cases hj : j = 0
        · subst hj
          have := sg_lt (l := l) (v := v) (p := p + i) (by rw [of_decide_eq_true hp]; exact (wc_t w hw i (by omega)).2.2)
          omega
        · have := ih (i + 1) (by omega) (by omega) (by omega)
          omega
      · rw [if_neg hp] at h1
        omega
  have := (wl_le w hw).1
  have := key (wl w) 0 (by unfold ak at h; omega) (by omega) (by omega)
  omega
theorem la_L {l p w : Nat} {v : Nat → Int32} {ν : gN} (hw : w < 7) (h : RD l v p ν) (hl : l ≤ 160) (hp : p < 800) : ∀ j n i, i + j = wl w → j < n → f_X5_lettersAlike_L2 w (fun ν_7 => (f_J0_length_8abf5 w ν_7).bind (fun r_8 => some (r_8.1, r_8.2))) n (nI i) ν = some (nI (alN (fun i => decide (sg l v (p + i) = wc w i)) i j), ν) := by
  have hw6 := (wl_le w hw).2
  intro j
  induction j with
  | zero =>
    intro n i hi hn
    obtain ⟨n, rfl⟩ : ∃ m, n = m + 1 := ⟨n - 1, by omega⟩
    rw [f_X5_lettersAlike_L2, len8 hw, Option.bind_some, if_pos (show nI (wl w) ≤ nI i from nI_le (by omega) (by omega))]
    show (f_J0_length_8abf5 w ν).bind _ = _
    rw [len8 hw, Option.bind_some, alN, show i = wl w by omega]
  | succ j ih =>
    intro n i hi hn
    obtain ⟨n, rfl⟩ : ∃ m, n = m + 1 := ⟨n - 1, by omega⟩
    have ih := ih n (i + 1) (by omega) (by omega)
    rw [f_X5_lettersAlike_L2, len8 hw, Option.bind_some, if_neg (show ¬ nI (wl w) ≤ nI i from nI_ge (by omega) (by omega))]
    show (f_J0_charAt_5068e w (nI i) ν).bind _ = _
    rw [chr8 hw (by omega), Option.bind_some]
    show (f_X5_isSign (ν.1 33 2 + nI i) (wc w i) ν).bind _ = _
    rw [h.2.1, nI_add, isg8 h hl (by omega) (wc_t w hw i (by omega)).2.2, Option.bind_some, nI_1, alN]
    cases hb : decide (sg l v (p + i) = wc w i) with
    | false => rw [if_pos (show (i01 false, ν).1 = 0 from rfl), if_neg (by decide)]
    | true =>
      rw [if_neg (show ¬ (i01 true, ν).1 = 0 from by show ¬ i01 true = 0; decide), if_pos rfl]
      exact ih
theorem la8' {l p w : Nat} {v : Nat → Int32} {ν : gN} (hw : w < 7) (h : RD l v p ν) (hl : l ≤ 160) (hp : p < 800) : f_X5_lettersAlike w ν = some (nI (ak l v p w), ν) := by
  have := (wl_le w hw).2
  rw [f_X5_lettersAlike]
  exact la_L hw h hl hp (wl w) FU 0 (by omega) (by unfold FU; omega)
theorem wd_L {s l p w : Nat} {v : Nat → Int32} (hw : w < 7) (hs : s < 8) (hl : l ≤ 160) (hp : p < 800) : ∀ j n i ν, i + j = wl w → j < n → RE s l v (p + i) ν → ∃ ν', f_X9_word_L2 w (fun ν_7 => some (1, ν_7)) n (nI i) ν = some (i01 (decide (alN (fun i => decide (sg l v (p + i) = wc w i)) i j = wl w)), ν') ∧ RE s l v (p + alN (fun i => decide (sg l v (p + i) = wc w i)) i j) ν' ∧ mEq (fun a b => a = 53 ∧ b = 14) ν ν' := by
  have hw6 := (wl_le w hw).2
  intro j
  induction j with
  | zero =>
    intro n i ν hi hn h
    obtain ⟨n, rfl⟩ : ∃ m, n = m + 1 := ⟨n - 1, by omega⟩
    refine ⟨ν, ?_, h, mEq.rf⟩
    rw [f_X9_word_L2, len8 hw, Option.bind_some, if_pos (show nI (wl w) ≤ nI i from nI_le (by omega) (by omega)), alN, decide_eq_true (show i = wl w by omega)]; rfl
  | succ j ih =>
    intro n i ν hi hn h
    obtain ⟨n, rfl⟩ : ∃ m, n = m + 1 := ⟨n - 1, by omega⟩
    have key : f_X9_word_L2 w (fun ν_7 => some (1, ν_7)) (n + 1) (nI i) ν = (f_X9_is (wc w i) ν).bind (fun r_5 => if r_5.1 = 0 then some (0, r_5.2) else f_X9_word_L2 w (fun ν_7 => some (1, ν_7)) n (nI i + 1) r_5.2) := by
      rw [f_X9_word_L2, len8 hw, Option.bind_some, if_neg (show ¬ nI (wl w) ≤ nI i from nI_ge (by omega) (by omega))]
      show (f_J0_charAt_5068e w (nI i) ν).bind _ = _
      rw [chr8 hw (by omega), Option.bind_some]
    rw [key, is9 (wc w i) h hs hl (by omega), alN]
    by_cases e : sg l v (p + i) = wc w i
    · obtain ⟨ν', f1, f2, f3⟩ := ih n (i + 1) (nWI ν 53 14 (nI (p + i + 1))) (by omega) (by omega) h.st
      rw [if_pos e, Option.bind_some, if_neg (show ¬ (1 : Int32) = 0 by decide), if_pos (decide_eq_true e), nI_1]
      exact ⟨ν', f1, f2, (mEq.rf.wi (P := fun a b => a = 53 ∧ b = 14) ⟨rfl, rfl⟩).tr f3⟩
    · rw [if_neg e, Option.bind_some, if_pos rfl, if_neg (by simpa using e), decide_eq_false (show ¬ i = wl w by omega)]
      exact ⟨ν, rfl, h, mEq.rf⟩
theorem wd9 {s l p w : Nat} {v : Nat → Int32} {ν : gN} (hw : w < 7) (hs : s < 8) (hl : l ≤ 160) (hp : p < 800) (h : RE s l v p ν) : ∃ ν', f_X9_word w ν = some (i01 (decide (ak l v p w = wl w)), ν') ∧ RE s l v (p + ak l v p w) ν' ∧ mEq (fun a b => a = 53 ∧ b = 14) ν ν' := by
  have := (wl_le w hw).2
  rw [f_X9_word]
  exact wd_L hw hs hl hp (wl w) FU 0 ν (by omega) (by unfold FU; omega) h
theorem jmx {a b : Nat} (ha : a < 2 ^ 31) (hb : b < 2 ^ 31) : j_max (nI a) (nI b) = nI (max a b) := by
  unfold j_max
  by_cases z : a < b
  · rw [if_pos (nI_lt z hb), Nat.max_eq_right (by omega)]
  · rw [if_neg (nI_nlt (by omega) ha), Nat.max_eq_left (by omega)]
theorem rw_st {l p w m n : Nat} {v : Nat → Int32} {ν : gN} {k : Int32 → gN → Option (Int32 × gN)} (hw : w < 5) (h : RD l v p ν) (hl : l ≤ 160) (hp : p < 800) (hm : m < 10) : f_X5_readWord_L4 k (n + 1) (nI m) (nI w) ν = if ak l v p w = wl w then some (nI w, nWI ν 33 2 (nI (p + wl w))) else f_X5_readWord_L4 k n (nI (max m (ak l v p w))) (nI (w + 1)) ν := by
  have hw6 := (wl_le w (by omega)).2
  have hak := ak_le l v p w
  have hlo : f_X5_lettersOf (nI w) ν = some (w, ν) := by
    have hw' : w = 0 ∨ w = 1 ∨ w = 2 ∨ w = 3 ∨ w = 4 := by omega
    rcases hw' with rfl | rfl | rfl | rfl | rfl <;> rfl
  rw [f_X5_readWord_L4, if_neg (by rw [le_cn (c := 5) (k := 5) rfl (by omega) (by decide)]; omega), hlo, Option.bind_some, if_pos (show w < 7 by omega)]
  show (f_X5_lettersAlike w ν).bind _ = _
  rw [la8' (by omega) h hl hp, Option.bind_some]
  show (f_J0_length_8abf5 w ν).bind _ = _
  rw [len8 (by omega), Option.bind_some]
  by_cases e : ak l v p w = wl w
  · rw [if_pos e, if_pos (show (nI (ak l v p w), ν).1 = (nI (wl w), ν).1 from by show nI _ = nI _; rw [e]), ql]
    show some (nI w, nWI ν 33 2 (ν.1 33 2 + nI (ak l v p w))) = _
    rw [h.2.1, nI_add, e]
  · rw [if_neg e, if_neg (show ¬ (nI (ak l v p w), ν).1 = (nI (wl w), ν).1 from by show ¬ nI _ = nI _; rw [nI_eq (by omega) (by omega)]; exact e), nI_1]
    show f_X5_readWord_L4 k n (j_max (nI m) (nI (ak l v p w))) (nI (w + 1)) ν = _
    rw [jmx (by omega) (by omega)]
/-- the word that stands at p (5: none), and how far the letters go -/
def wdN (l : Nat) (v : Nat → Int32) (p : Nat) : Nat := if ak l v p 0 = 5 then 0 else if ak l v p 1 = 4 then 1 else if ak l v p 2 = 6 then 2 else if ak l v p 3 = 5 then 3 else if ak l v p 4 = 5 then 4 else 5
def wdX (l : Nat) (v : Nat → Int32) (p : Nat) : Nat := max (max (max (max (max 0 (ak l v p 0)) (ak l v p 1)) (ak l v p 2)) (ak l v p 3)) (ak l v p 4)
theorem rw8 {l p : Nat} {v : Nat → Int32} {ν : gN} (h : RD l v p ν) (hl : l ≤ 160) (hp : p < 800) : f_X5_readWord ν = if wdN l v p = 5 then some (-1, nWI ν 33 4 (nI (p + wdX l v p))) else some (nI (wdN l v p), nWI ν 33 2 (nI (p + wl (wdN l v p)))) := by
  have k0 := ak_le l v p 0
  have k1 := ak_le l v p 1
  have k2 := ak_le l v p 2
  have k3 := ak_le l v p 3
  have k4 := ak_le l v p 4
  have w0 : wl 0 = 5 := rfl
  have w1 : wl 1 = 4 := rfl
  have w2 : wl 2 = 6 := rfl
  have w3 : wl 3 = 5 := rfl
  have w4 : wl 4 = 5 := rfl
  rw [w0] at k0
  rw [w1] at k1
  rw [w2] at k2
  rw [w3] at k3
  rw [w4] at k4
  obtain ⟨n, hn⟩ : ∃ n, FU = n + 1 + 1 + 1 + 1 + 1 + 1 := ⟨99994, rfl⟩
  rw [f_X5_readWord, hn]
  unfold wdN wdX
  rw [show (0 : Int32) = nI 0 from rfl, rw_st (w := 0) (by decide) h hl hp (by decide), w0]
  by_cases e0 : ak l v p 0 = 5
  · rw [if_pos e0, if_pos e0, if_neg (by decide)]; rfl
  rw [if_neg e0, if_neg e0, rw_st (w := 1) (by decide) h hl hp (by omega), w1]
  by_cases e1 : ak l v p 1 = 4
  · rw [if_pos e1, if_pos e1, if_neg (by decide)]; rfl
  rw [if_neg e1, if_neg e1, rw_st (w := 2) (by decide) h hl hp (by omega), w2]
  by_cases e2 : ak l v p 2 = 6
  · rw [if_pos e2, if_pos e2, if_neg (by decide)]; rfl
  rw [if_neg e2, if_neg e2, rw_st (w := 3) (by decide) h hl hp (by omega), w3]
  by_cases e3 : ak l v p 3 = 5
  · rw [if_pos e3, if_pos e3, if_neg (by decide)]; rfl
  rw [if_neg e3, if_neg e3, rw_st (w := 4) (by decide) h hl hp (by omega), w4]
  by_cases e4 : ak l v p 4 = 5
  · rw [if_pos e4, if_pos e4, if_neg (by decide)]; rfl
  rw [if_neg e4, if_neg e4, if_pos rfl, f_X5_readWord_L4, if_pos (by decide), ql, h.2.1, nI_add]
