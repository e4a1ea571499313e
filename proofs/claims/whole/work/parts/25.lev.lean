/-! THE WAYS: neighbours, levels; the reference's spreading -/
def bsI (x d : Int32) : Int32 := if d = 0 then (if x < 7 then -1 else x - 7) else if d = 1 then (if j_rem x 7 ≤ 0 then -1 else x - 1) else if d = 2 then (if 6 ≤ j_rem x 7 then -1 else x + 1) else if d = 3 then (if 42 ≤ x then -1 else x + 7) else -1
theorem be8 (x d : Int32) (ν : gN) : f_X7_beside x d ν = some (bsI x d, ν) := by
  unfold f_X7_beside bsI
  repeat (split <;> try rfl)
theorem bs_t : ∀ u, u < 49 → ∀ d, d < 4 → bsI (nI u) (nI d) = (if bsd u d = 99 then -1 else nI (bsd u d)) ∧ (bsd u d = 99 ∨ bsd u d < 49) := by decide +kernel
theorem bs_r : ∀ u, u < 49 → ∀ d, d < 4 → bsd u d < 49 → bsd (bsd u d) (3 - d) = u := by decide +kernel
theorem nbr_sym {u t : Nat} (hu : u < 49) (ht : t < 49) (h : nbr u t) : nbr t u := by
  obtain ⟨d, hd, rfl⟩ := h
  exact ⟨3 - d, by omega, bs_r u hu d hd ht⟩
theorem be8_no {u d : Nat} (ν : gN) (hu : u < 49) (hd : d < 4) (h : bsd u d = 99) : f_X7_beside (nI u) (nI d) ν = some (-1, ν) := by
  rw [be8, (bs_t u hu d hd).1, if_pos h]
theorem be8_at {u d : Nat} (ν : gN) (hu : u < 49) (hd : d < 4) (h : bsd u d < 49) : f_X7_beside (nI u) (nI d) ν = some (nI (bsd u d), ν) := by
  rw [be8, (bs_t u hu d hd).1, if_neg (by omega)]
theorem bt0 : ∀ u, u < 49 → (bsd u 0 = 99 → nI u - 7 < 0) ∧ (bsd u 0 ≠ 99 → nI u - 7 = nI (bsd u 0)) := by decide +kernel
theorem bt1 : ∀ u, u < 49 → (bsd u 1 = 99 → j_rem (nI u) 7 ≤ 0) ∧ (bsd u 1 ≠ 99 → ¬ j_rem (nI u) 7 ≤ 0 ∧ nI u - 1 = nI (bsd u 1)) := by decide +kernel
theorem bt2 : ∀ u, u < 49 → (bsd u 2 = 99 → 6 ≤ j_rem (nI u) 7) ∧ (bsd u 2 ≠ 99 → ¬ 6 ≤ j_rem (nI u) 7 ∧ nI u + 1 = nI (bsd u 2)) := by decide +kernel
theorem bt3 : ∀ u, u < 49 → (bsd u 3 = 99 → nI 49 ≤ nI u + 7) ∧ (bsd u 3 ≠ 99 → nI u + 7 = nI (bsd u 3)) := by decide +kernel
theorem be9_at {u d : Nat} {S : pS} {ν : gN} (h : RM S ν) (hu : u < 49) (hd : d < 4) (hb : bsd u d < 49) (hf : S.2.2.1 (bsd u d) = false) : f_X9_beside (nI u) (nI d) ν = some (nI (bsd u d), ν) := by
  have hb' : bsd u d ≠ 99 := by omega
  have ho : f_X9_isOpen (nI (bsd u d)) ν = some (1, ν) := by rw [op9_in h hb, hf]; rfl
  have hd' : d = 0 ∨ d = 1 ∨ d = 2 ∨ d = 3 := by omega
  rcases hd' with rfl | rfl | rfl | rfl
  · have e := (bt0 u hu).2 hb'
    simp only [f_X9_beside, e, ho, Option.bind_some, b1, ↓reduceIte, show nI 0 = 0 from rfl, show ((0 : Int32) = 1) = False from b01, show ((0 : Int32) = 2) = False from by decide]
  · have e := (bt1 u hu).2 hb'
    simp only [f_X9_beside, e.1, e.2, ho, Option.bind_some, b1, ↓reduceIte, show nI 1 = 1 from rfl]
  · have e := (bt2 u hu).2 hb'
    simp only [f_X9_beside, e.1, e.2, ho, Option.bind_some, b1, ↓reduceIte, show nI 2 = 2 from rfl, show ((2 : Int32) = 0) = False from by decide, show ((2 : Int32) = 1) = False from by decide]
  · have e := (bt3 u hu).2 hb'
    simp only [f_X9_beside, e, ho, Option.bind_some, b1, ↓reduceIte, show nI 3 = 3 from rfl, show ((3 : Int32) = 0) = False from by decide, show ((3 : Int32) = 1) = False from by decide, show ((3 : Int32) = 2) = False from by decide]
theorem be9_no {u d : Nat} {S : pS} {ν : gN} (h : RM S ν) (hu : u < 49) (hd : d < 4) (hb : bsd u d = 99 ∨ (bsd u d < 49 ∧ S.2.2.1 (bsd u d) = true)) : f_X9_beside (nI u) (nI d) ν = some (-1, ν) := by
  have hd' : d = 0 ∨ d = 1 ∨ d = 2 ∨ d = 3 := by omega
  rcases hb with hb | ⟨hb, hf⟩
  · rcases hd' with rfl | rfl | rfl | rfl
    · have e := op9_out ν (Or.inl ((bt0 u hu).1 hb))
      simp only [f_X9_beside, e, Option.bind_some, b1, ↓reduceIte, show nI 0 = 0 from rfl, show ((0 : Int32) = 1) = False from b01, show ((0 : Int32) = 2) = False from by decide]
    · have e := (bt1 u hu).1 hb
      simp only [f_X9_beside, e, Option.bind_some, b1, ↓reduceIte, show nI 1 = 1 from rfl]
    · have e := (bt2 u hu).1 hb
      simp only [f_X9_beside, e, Option.bind_some, b1, ↓reduceIte, show nI 2 = 2 from rfl, show ((2 : Int32) = 0) = False from by decide, show ((2 : Int32) = 1) = False from by decide]
    · have e := op9_out ν (Or.inr ((bt3 u hu).1 hb))
      simp only [f_X9_beside, e, Option.bind_some, b1, ↓reduceIte, show nI 3 = 3 from rfl, show ((3 : Int32) = 0) = False from by decide, show ((3 : Int32) = 1) = False from by decide, show ((3 : Int32) = 2) = False from by decide]
  · have hb' : bsd u d ≠ 99 := by omega
    have ho : f_X9_isOpen (nI (bsd u d)) ν = some (0, ν) := by rw [op9_in h hb, hf]; rfl
    rcases hd' with rfl | rfl | rfl | rfl
    · have e := (bt0 u hu).2 hb'
      simp only [f_X9_beside, e, ho, Option.bind_some, b1, ↓reduceIte, show nI 0 = 0 from rfl, show ((0 : Int32) = 1) = False from b01, show ((0 : Int32) = 2) = False from by decide]
    · have e := (bt1 u hu).2 hb'
      simp only [f_X9_beside, e.1, e.2, ho, Option.bind_some, b1, ↓reduceIte, show nI 1 = 1 from rfl]
    · have e := (bt2 u hu).2 hb'
      simp only [f_X9_beside, e.1, e.2, ho, Option.bind_some, b1, ↓reduceIte, show nI 2 = 2 from rfl, show ((2 : Int32) = 0) = False from by decide, show ((2 : Int32) = 1) = False from by decide]
    · have e := (bt3 u hu).2 hb'
      simp only [f_X9_beside, e, ho, Option.bind_some, b1, ↓reduceIte, show nI 3 = 3 from rfl, show ((3 : Int32) = 0) = False from by decide, show ((3 : Int32) = 1) = False from by decide, show ((3 : Int32) = 2) = False from by decide]
/-! levels -/
def TT (a : Nat) (T : Nat → Nat) (ν : gN) : Prop := ∀ t, t < 49 → ν.1 a t = nI (T t)
theorem TT.eq {a : Nat} {T : Nat → Nat} {ν ν' : gN} {P : Nat → Prop} (h : TT a T ν) (he : nEq P ν ν') (hp : ¬ P a) : TT a T ν' := fun t ht => ((he a hp).1 t).trans (h t ht)
theorem TT.cong {a : Nat} {T T' : Nat → Nat} {ν : gN} (h : TT a T ν) (e : ∀ t, t < 49 → T t = T' t) : TT a T' ν := fun t ht => by rw [← e t ht]; exact h t ht
noncomputable def plv (F : Nat → Bool) (T0 : Nat → Nat) (d : Nat) (W : Nat → Prop) (t : Nat) : Nat := if T0 t ≠ 99 then T0 t else @ite Nat (F t = false ∧ W t) (Classical.propDecidable _) (d + 1) 99
theorem plv_in {F : Nat → Bool} {T0 : Nat → Nat} {d t : Nat} {W : Nat → Prop} (h : T0 t ≠ 99) : plv F T0 d W t = T0 t := if_pos h
theorem plv_new {F : Nat → Bool} {T0 : Nat → Nat} {d t : Nat} {W : Nat → Prop} (h : T0 t = 99) (hf : F t = false) (hw : W t) : plv F T0 d W t = d + 1 := by
  rw [plv, if_neg (by simp [h]), if_pos ⟨hf, hw⟩]
theorem plv_out {F : Nat → Bool} {T0 : Nat → Nat} {d t : Nat} {W : Nat → Prop} (h : T0 t = 99) (hw : ¬ (F t = false ∧ W t)) : plv F T0 d W t = 99 := by
  rw [plv, if_neg (by simp [h]), if_neg hw]
theorem plv_cong {F : Nat → Bool} {T0 : Nat → Nat} {d t : Nat} {W W' : Nat → Prop} (h : W t ↔ W' t) : plv F T0 d W t = plv F T0 d W' t := by
  unfold plv
  rw [show (F t = false ∧ W t) = (F t = false ∧ W' t) from by rw [propext h]]
theorem plv_le {F : Nat → Bool} {T0 : Nat → Nat} {d t : Nat} {W : Nat → Prop} (hd : d < 49) (h0 : T0 t ≤ d ∨ T0 t = 99) : plv F T0 d W t ≤ 99 := by
  unfold plv
  split
  · omega
  · split <;> omega
theorem plv_d {F : Nat → Bool} {T0 : Nat → Nat} {d t : Nat} {W : Nat → Prop} (hd : d < 49) (h0 : T0 t ≤ d ∨ T0 t = 99) : (plv F T0 d W t = d) = (T0 t = d) := by
  apply propext
  unfold plv
  split
  · exact Iff.rfl
  · split <;> omega
theorem plv_99 {F : Nat → Bool} {T0 : Nat → Nat} {d t : Nat} {W : Nat → Prop} (hd : d < 49) : (plv F T0 d W t = 99) = (T0 t = 99 ∧ ¬ (F t = false ∧ W t)) := by
  apply propext
  unfold plv
  split
  · next h => exact ⟨fun q => absurd q h, fun q => absurd q.1 h⟩
  · next h =>
    split
    · next g => exact ⟨fun q => by omega, fun q => absurd g q.2⟩
    · next g => exact ⟨fun _ => ⟨by simpa using h, g⟩, fun _ => rfl⟩
theorem sd_L {a u d : Nat} {S : pS} {T0 : Nat → Nat} {k : gN → Option gN} (ha : a = 70 ∨ a = 71) (hu : u < 49) (hd : d < 49) (h0 : ∀ t, t < 49 → T0 t ≤ d ∨ T0 t = 99) : ∀ j n e ν W, e + j = 4 → j < n → RM S ν → TT a (plv S.2.2.1 T0 d W) ν → ∃ ν', f_X9_spreads_L53 a (nI d) (nI u) k n (nI e) ν = k ν' ∧ TT a (plv S.2.2.1 T0 d (fun t => W t ∨ (T0 u = d ∧ ∃ e', e ≤ e' ∧ e' < 4 ∧ bsd u e' = t))) ν' ∧ nEq (fun q => q = a) ν ν' := by
  intro j
  induction j with
  | zero =>
    intro n e ν W he hn hM hT
    obtain ⟨n, rfl⟩ : ∃ m, n = m + 1 := ⟨n - 1, by omega⟩
    have e4 : e = 4 := by omega
    subst e4
    refine ⟨ν, ?_, hT.cong (fun t ht => plv_cong ⟨Or.inl, fun q => ?_⟩), nEq.rf⟩
    · rw [f_X9_spreads_L53, if_pos (by decide)]
    · rcases q with q | ⟨_, e', h1, h2, _⟩
      · exact q
      · omega
  | succ j ih =>
    intro n e ν W he hn hM hT
    obtain ⟨n, rfl⟩ : ∃ m, n = m + 1 := ⟨n - 1, by omega⟩
    have he4 : e < 4 := by omega
    have g0 : ¬ (4 : Int32) ≤ nI e := by rw [le_cn (c := 4) (k := 4) rfl (by omega) (by decide)]; omega
    rw [f_X9_spreads_L53, if_neg g0, if_pos (ib_in hu (by decide)), nI_clamp (by omega), hT u hu]
    have hle := plv_le (F := S.2.2.1) (W := W) hd (h0 u hu)
    have hq : (nI (plv S.2.2.1 T0 d W u) = nI d) = (T0 u = d) := by
      rw [← plv_d (F := S.2.2.1) (W := W) hd (h0 u hu)]
      exact propext (nI_eq (by omega) (by omega))
    by_cases hT0 : T0 u = d
    · rw [if_pos (hq.mpr hT0)]
      -- the way on, unchanged
      have same : (∀ t, t < 49 → bsd u e = t → T0 t = 99 → S.2.2.1 t = false → W t) → ∃ ν', f_X9_spreads_L53 a (nI d) (nI u) k n (nI e + 1) ν = k ν' ∧ TT a (plv S.2.2.1 T0 d (fun t => W t ∨ (T0 u = d ∧ ∃ e', e ≤ e' ∧ e' < 4 ∧ bsd u e' = t))) ν' ∧ nEq (fun q => q = a) ν ν' := fun hno => by
        obtain ⟨ν', e1, e2, e3⟩ := ih n (e + 1) ν W (by omega) (by omega) hM hT
        refine ⟨ν', by rw [nI_1]; exact e1, e2.cong (fun t ht => ?_), e3⟩
        by_cases z : T0 t = 99 ∧ S.2.2.1 t = false
        · refine plv_cong ⟨fun q => ?_, fun q => ?_⟩
          · rcases q with q | ⟨q1, e', q2, q3, q4⟩
            · exact Or.inl q
            · exact Or.inr ⟨q1, e', by omega, q3, q4⟩
          · rcases q with q | ⟨q1, e', q2, q3, q4⟩
            · exact Or.inl q
            · by_cases z2 : e' = e
              · subst z2; exact Or.inl (hno t ht q4 z.1 z.2)
              · exact Or.inr ⟨q1, e', by omega, q3, q4⟩
        · by_cases z1 : T0 t = 99
          · rw [plv_out z1 (fun q => z ⟨z1, q.1⟩), plv_out z1 (fun q => z ⟨z1, q.1⟩)]
          · rw [plv_in z1, plv_in z1]
      rcases (bs_t u hu e he4).2 with hb | hb
      · rw [be9_no hM hu he4 (Or.inl hb), Option.bind_some, if_pos (show (-1 : Int32) < 0 by decide)]
        exact same (fun t ht h1 _ _ => by omega)
      · cases hf : S.2.2.1 (bsd u e) with
        | true =>
          rw [be9_no hM hu he4 (Or.inr ⟨hb, hf⟩), Option.bind_some, if_pos (show (-1 : Int32) < 0 by decide)]
          exact same (fun t ht h1 _ h3 => by rw [← h1, hf] at h3; exact absurd h3 (by decide))
        | false =>
          rw [be9_at hM hu he4 hb hf, Option.bind_some, if_neg (nI_pos (by omega)), if_pos (ib_in hb (by decide)), nI_clamp (by omega)]
          have hle' := plv_le (F := S.2.2.1) (W := W) hd (h0 _ hb)
          have h99 : (ν.1 a (bsd u e) = 99) = (plv S.2.2.1 T0 d W (bsd u e) = 99) := by
            rw [hT _ hb]; exact propext (eq_nc (c := 99) (k := 99) rfl (by omega) (by decide))
          by_cases hv : plv S.2.2.1 T0 d W (bsd u e) = 99
          · rw [if_pos (h99.mpr hv), if_pos (ib_in hb (by decide)), ql]
            have hv' := (plv_99 hd).mp hv
            have hM' : RM S (nWI ν a (bsd u e) (nI d + 1)) := hM.eq (P := fun q => q = a) (nEq.rf.wi rfl) (fun q h1 h2 => by omega)
            obtain ⟨ν', e1, e2, e3⟩ := ih n (e + 1) (nWI ν a (bsd u e) (nI d + 1)) (fun t => W t ∨ bsd u e = t) (by omega) (by omega) hM' (fun t ht => by
              by_cases z : t = bsd u e
              · rw [z, wi_eq, nI_1, plv_new hv'.1 hf (Or.inr rfl)]
              · rw [wi_ne (by omega), hT t ht]
                rw [plv_cong (W := fun t => W t ∨ bsd u e = t) (W' := W) ⟨fun q => q.resolve_right (fun y => z y.symm), Or.inl⟩])
            refine ⟨ν', by rw [nI_1 e]; exact e1, e2.cong (fun t ht => plv_cong ⟨fun q => ?_, fun q => ?_⟩), (nEq.rf.wi (P := fun q => q = a) rfl).tr e3⟩
            · rcases q with (q | q) | ⟨q1, e', q2, q3, q4⟩
              · exact Or.inl q
              · exact Or.inr ⟨hT0, e, Nat.le_refl _, he4, q⟩
              · exact Or.inr ⟨q1, e', by omega, q3, q4⟩
            · rcases q with q | ⟨q1, e', q2, q3, q4⟩
              · exact Or.inl (Or.inl q)
              · by_cases z2 : e' = e
                · subst z2; exact Or.inl (Or.inr q4)
                · exact Or.inr ⟨q1, e', by omega, q3, q4⟩
          · rw [if_neg (fun q => hv (h99.mp q))]
            refine same (fun t ht h1 h2 h3 => ?_)
            subst h1
            exact Classical.byContradiction (fun q => hv ((plv_99 hd).mpr ⟨h2, fun z => q z.2⟩))
    · rw [if_neg (fun q => hT0 (hq.mp q))]
      exact ⟨ν, rfl, hT.cong (fun t ht => plv_cong ⟨Or.inl, fun q => q.resolve_right (fun z => hT0 z.1)⟩), nEq.rf⟩
theorem su_L {a d : Nat} {S : pS} {T0 : Nat → Nat} {k : gN → Option gN} (ha : a = 70 ∨ a = 71) (hd : d < 49) (h0 : ∀ t, t < 49 → T0 t ≤ d ∨ T0 t = 99) : ∀ j n u ν W, u + j = 49 → j < n → RM S ν → TT a (plv S.2.2.1 T0 d W) ν → ∃ ν', f_X9_spreads_L43 a (nI d) k n (nI u) ν = k ν' ∧ TT a (plv S.2.2.1 T0 d (fun t => W t ∨ (∃ u', u ≤ u' ∧ u' < 49 ∧ T0 u' = d ∧ nbr u' t))) ν' ∧ nEq (fun q => q = a) ν ν' := by
  intro j
  induction j with
  | zero =>
    intro n u ν W he hn hM hT
    obtain ⟨n, rfl⟩ : ∃ m, n = m + 1 := ⟨n - 1, by omega⟩
    have e4 : u = 49 := by omega
    subst e4
    refine ⟨ν, ?_, hT.cong (fun t ht => plv_cong ⟨Or.inl, fun q => ?_⟩), nEq.rf⟩
    · rw [f_X9_spreads_L43, if_pos (by decide)]
    · rcases q with q | ⟨u', h1, h2, _⟩
      · exact q
      · omega
  | succ j ih =>
    intro n u ν W he hn hM hT
    obtain ⟨n, rfl⟩ : ∃ m, n = m + 1 := ⟨n - 1, by omega⟩
    have hu : u < 49 := by omega
    have g0 : ¬ (49 : Int32) ≤ nI u := by rw [le_cn (c := 49) (k := 49) rfl (by omega) (by decide)]; omega
    rw [f_X9_spreads_L43, if_neg g0, show (0 : Int32) = nI 0 from rfl]
    obtain ⟨ν1, e1, e2, e3⟩ := sd_L (S := S) (T0 := T0) (k := fun ν_17 => f_X9_spreads_L43 a (nI d) k n (nI u + 1) ν_17) ha hu hd h0 4 FU 0 ν W rfl (by decide) hM hT
    obtain ⟨ν', f1, f2, f3⟩ := ih n (u + 1) ν1 _ (by omega) (by omega) (hM.eq e3 (fun q h1 h2 => by omega)) e2
    refine ⟨ν', by rw [e1, nI_1]; exact f1, f2.cong (fun t ht => plv_cong ⟨fun q => ?_, fun q => ?_⟩), e3.tr f3⟩
    · rcases q with (q | ⟨q1, e', q2, q3, q4⟩) | ⟨u', q1, q2, q3, q4⟩
      · exact Or.inl q
      · exact Or.inr ⟨u, Nat.le_refl _, hu, q1, e', q3, q4⟩
      · exact Or.inr ⟨u', by omega, q2, q3, q4⟩
    · rcases q with q | ⟨u', q1, q2, q3, q4⟩
      · exact Or.inl (Or.inl q)
      · by_cases z : u' = u
        · subst z
          obtain ⟨e', y1, y2⟩ := q4
          exact Or.inl (Or.inr ⟨q3, e', Nat.zero_le _, y1, y2⟩)
        · exact Or.inr ⟨u', by omega, q2, q3, q4⟩
theorem lev_le (F : Nat → Bool) (s : Nat) : ∀ n t, lev F s n t ≤ n ∨ lev F s n t = 99 := by
  intro n
  induction n with
  | zero => intro t; rw [lev]; split <;> simp
  | succ n ih =>
    intro t
    rw [lev]
    split
    · rcases ih t with q | q
      · exact Or.inl (by omega)
      · exact Or.inr q
    · split
      · exact Or.inl (Nat.le_refl _)
      · exact Or.inr rfl
theorem lev_plv (F : Nat → Bool) (s n t : Nat) : lev F s (n + 1) t = plv F (lev F s n) n (fun t => False ∨ (∃ u', 0 ≤ u' ∧ u' < 49 ∧ lev F s n u' = n ∧ nbr u' t)) t := by
  rw [lev, plv]
  by_cases h : lev F s n t ≠ 99
  · rw [if_pos h, if_pos h]
  · rw [if_neg h, if_neg h]
    by_cases g : F t = false ∧ ∃ u, u < 49 ∧ nbr u t ∧ lev F s n u = n
    · obtain ⟨g1, u, g2, g3, g4⟩ := g
      rw [if_pos ⟨g1, u, g2, g3, g4⟩, if_pos ⟨g1, Or.inr ⟨u, Nat.zero_le _, g2, g4, g3⟩⟩]
    · rw [if_neg g, if_neg (fun q => g ?_)]
      obtain ⟨q1, q2⟩ := q
      rcases q2 with q2 | ⟨u, _, q2, q3, q4⟩
      · exact q2.elim
      · exact ⟨q1, u, q2, q4, q3⟩
theorem sl_L {a s : Nat} {S : pS} {k : gN → Option gN} (ha : a = 70 ∨ a = 71) : ∀ j n d ν, d + j = 49 → j < n → RM S ν → TT a (lev S.2.2.1 s d) ν → ∃ ν', f_X9_spreads_L34 a k n (nI d) ν = k ν' ∧ TT a (lev S.2.2.1 s 49) ν' ∧ nEq (fun q => q = a) ν ν' := by
  intro j
  induction j with
  | zero =>
    intro n d ν he hn hM hT
    obtain ⟨n, rfl⟩ : ∃ m, n = m + 1 := ⟨n - 1, by omega⟩
    have e4 : d = 49 := by omega
    subst e4
    refine ⟨ν, ?_, hT, nEq.rf⟩
    rw [f_X9_spreads_L34, if_pos (by decide)]
  | succ j ih =>
    intro n d ν he hn hM hT
    obtain ⟨n, rfl⟩ : ∃ m, n = m + 1 := ⟨n - 1, by omega⟩
    have hd : d < 49 := by omega
    have g0 : ¬ (49 : Int32) ≤ nI d := by rw [le_cn (c := 49) (k := 49) rfl (by omega) (by decide)]; omega
    rw [f_X9_spreads_L34, if_neg g0, show (0 : Int32) = nI 0 from rfl]
    obtain ⟨ν1, e1, e2, e3⟩ := su_L (S := S) (T0 := lev S.2.2.1 s d) (k := fun ν_18 => f_X9_spreads_L34 a k n (nI d + 1) ν_18) ha hd (fun t _ => lev_le _ _ d t) 49 FU 0 ν (fun _ => False) rfl (by decide) hM (hT.cong (fun t ht => by
      by_cases z : lev S.2.2.1 s d t = 99
      · rw [plv_out z (fun q => q.2), z]
      · rw [plv_in z]))
    obtain ⟨ν', f1, f2, f3⟩ := ih n (d + 1) ν1 (by omega) (by omega) (hM.eq e3 (fun q h1 h2 => by omega)) (e2.cong (fun t ht => (lev_plv _ _ _ _).symm))
    exact ⟨ν', by rw [e1, nI_1]; exact f1, f2, e3.tr f3⟩
theorem s2_L {a : Nat} {x : Int32} {k : gN → Option gN} : ∀ j n i ν, i + j = 49 → j < n → ∃ ν', f_X9_spreads_L2 x a k n (nI i) ν = k ν' ∧ (∀ t, i ≤ t → t < 49 → ν'.1 a t = 99) ∧ (∀ t, t < i → ν'.1 a t = ν.1 a t) ∧ nEq (fun q => q = a) ν ν' := by
  intro j
  induction j with
  | zero =>
    intro n i ν hi hn
    obtain ⟨n, rfl⟩ : ∃ m, n = m + 1 := ⟨n - 1, by omega⟩
    have e : i = 49 := by omega
    subst e
    exact ⟨ν, by rw [f_X9_spreads_L2, if_pos (by decide)], fun t h1 h2 => by omega, fun _ _ => rfl, nEq.rf⟩
  | succ j ih =>
    intro n i ν hi hn
    obtain ⟨n, rfl⟩ : ∃ m, n = m + 1 := ⟨n - 1, by omega⟩
    obtain ⟨ν', e1, e2, e3, e4⟩ := ih n (i + 1) (nWI ν a i 99) (by omega) (by omega)
    refine ⟨ν', ?_, fun t h1 h2 => ?_, fun t h1 => ?_, (nEq.rf.wi (P := fun q => q = a) rfl).tr e4⟩
    · rw [f_X9_spreads_L2, if_neg (by rw [le_cn (c := 49) (k := 49) rfl (by omega) (by decide)]; omega), if_pos (ib_in (by omega) (by decide)), nI_clamp (by omega), ql, nI_1, e1]
    · by_cases z : t = i
      · rw [z, e3 i (by omega), wi_eq]
      · exact e2 t (by omega) h2
    · rw [e3 t (by omega), wi_ne (by omega)]
theorem sp9 {a s : Nat} {S : pS} {ν : gN} (ha : a = 70 ∨ a = 71) (h : RM S ν) (hs : s < 49) (hf : S.2.2.1 s = false) : ∃ ν', f_X9_spreads (nI s) a ν = some ν' ∧ TT a (dst S.2.2.1 s) ν' ∧ nEq (fun q => q = a) ν ν' := by
  obtain ⟨ν1, e1, e2, _, e4⟩ := s2_L (a := a) (x := nI s) (k := fun ν_4 => (f_X9_isOpen (nI s) ν_4).bind (fun r_5 => if r_5.1 = 0 then some r_5.2 else if inb (nI s) 49 = true then qL (nWI r_5.2 a (nI s).toNatClampNeg 0) (fun ν_8 => f_X9_spreads_L34 a (fun ν_19 => some ν_19) FU 0 ν_8) else none)) 49 FU 0 ν rfl (by decide)
  have hM1 : RM S ν1 := h.eq e4 (fun q h1 h2 => by omega)
  have hM2 : RM S (nWI ν1 a s 0) := hM1.eq (P := fun q => q = a) (nEq.rf.wi rfl) (fun q h1 h2 => by omega)
  obtain ⟨ν', f1, f2, f3⟩ := sl_L (k := fun ν_19 => some ν_19) (s := s) ha 49 FU 0 (nWI ν1 a s 0) rfl (by decide) hM2 (fun t ht => by
    rw [lev]
    by_cases z : t = s
    · rw [z, wi_eq, if_pos rfl]; rfl
    · rw [wi_ne (by omega), if_neg z, e2 t (Nat.zero_le _) ht]; rfl)
  refine ⟨ν', ?_, f2, (e4.wi rfl).tr f3⟩
  rw [f_X9_spreads]
  refine Eq.trans e1 ?_
  rw [op9_in hM1 hs, hf, Option.bind_some, if_neg (show ¬ (if false = true then (0 : Int32) else 1) = 0 from by decide), if_pos (ib_in hs (by decide)), nI_clamp (by omega), ql]
  exact f1
