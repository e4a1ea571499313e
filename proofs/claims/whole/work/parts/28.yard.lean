/-! THE REFERENCE'S YARD: far, steps, yards, keeping and bringing back -/
def mEq (P : Nat → Nat → Prop) (ν ν' : gN) : Prop := ∀ a b, ¬ P a b → ν'.1 a b = ν.1 a b ∧ ν'.2 a b = ν.2 a b
theorem mEq.rf {P : Nat → Nat → Prop} {ν : gN} : mEq P ν ν := fun _ _ _ => ⟨rfl, rfl⟩
theorem mEq.tr {P : Nat → Nat → Prop} {ν ν' ν'' : gN} (h : mEq P ν ν') (h2 : mEq P ν' ν'') : mEq P ν ν'' := fun a b hp => ⟨(h2 a b hp).1.trans (h a b hp).1, (h2 a b hp).2.trans (h a b hp).2⟩
theorem mEq.mono {P Q : Nat → Nat → Prop} {ν ν' : gN} (h : mEq P ν ν') (hq : ∀ a b, P a b → Q a b) : mEq Q ν ν' := fun a b hp => h a b (fun z => hp (hq a b z))
theorem mEq.wi {P : Nat → Nat → Prop} {ν ν' : gN} {i k : Nat} {x : Int32} (h : mEq P ν ν') (hi : P i k) : mEq P ν (nWI ν' i k x) := fun a b hp => by
  have e : a ≠ i ∨ b ≠ k := by
    by_cases e : a = i
    · exact Or.inr (fun e2 => hp (by rw [e, e2]; exact hi))
    · exact Or.inl e
  exact ⟨(wi_ne e).trans (h a b hp).1, (h a b hp).2⟩
theorem nEq.m {P : Nat → Prop} {Q : Nat → Nat → Prop} {ν ν' : gN} (h : nEq P ν ν') (hq : ∀ a b, P a → Q a b) : mEq Q ν ν' := fun a b hp => ⟨(h a (fun z => hp (hq a b z))).1 b, (h a (fun z => hp (hq a b z))).2 b⟩
theorem mEq.n {P : Nat → Prop} {Q : Nat → Nat → Prop} {ν ν' : gN} (h : mEq Q ν ν') (hq : ∀ a b, Q a b → P a) : nEq P ν ν' := fun a hp => ⟨fun b => (h a b (fun z => hp (hq a b z))).1, fun b => (h a b (fun z => hp (hq a b z))).2⟩
theorem RM.cong {S S' : pS} {ν : gN} (h : RM S ν) (e1 : S'.1 = S.1) (e2 : ∀ j, j < 6 → ∀ i, i < 7 → S'.2.1 j i = S.2.1 j i) (e3 : ∀ i, i < 49 → S'.2.2.1 i = S.2.2.1 i) (e4 : ∀ k, k < 4 → S'.2.2.2.1 k = S.2.2.2.1 k) (e5 : S'.2.2.2.2 = S.2.2.2.2) : RM S' ν := by
  obtain ⟨h1, h2, h3, h4, h5⟩ := h
  exact ⟨by rw [e1]; exact h1, fun j hj i hi => by rw [e2 j hj i hi]; exact h2 j hj i hi, fun i hi => by rw [e3 i hi]; exact h3 i hi, fun k hk => by rw [e4 k hk]; exact h4 k hk, by rw [e5]; exact h5⟩
theorem RM.meq {S : pS} {ν ν' : gN} {P : Nat → Nat → Prop} (h : RM S ν) (he : mEq P ν ν') (hp : ∀ a b, 54 ≤ a → a < 62 → ¬ P a b) (h0 : ¬ P 53 0) (h9 : ¬ P 53 9) : RM S ν' := by
  obtain ⟨h1, h2, h3, h4, h5⟩ := h
  exact ⟨(he 53 0 h0).1.trans h1, fun j hj i hi => (he _ _ (hp _ _ (by omega) (by omega))).1.trans (h2 j hj i hi), fun i hi => (he _ _ (hp _ _ (by omega) (by omega))).1.trans (h3 i hi), fun k hk => (he _ _ (hp _ _ (by omega) (by omega))).1.trans (h4 k hk), (he 53 9 h9).1.trans h5⟩
def FC (S : pS) (ν : gN) : Prop := RM S ν ∧ (ν.1 53 24 = 0 ∨ (ν.1 53 24 = 1 ∧ TT 70 (dst S.2.2.1 24) ν))
def fP (a b : Nat) : Prop := a = 70 ∨ (a = 53 ∧ b = 24)
def wP (a b : Nat) : Prop := a = 70 ∨ (a = 53 ∧ b = 24) ∨ a = 58 ∨ (a = 61 ∧ b = 2)
theorem fP.w {a b : Nat} (h : fP a b) : wP a b := h.imp id Or.inl
theorem fo9 {S : pS} {ν : gN} {t : Nat} (h : FC S ν) (h0 : S.2.2.1 24 = false) (ht : t < 49) : ∃ ν', f_X9_farOf (nI t) ν = some (nI (dst S.2.2.1 24 t), ν') ∧ FC S ν' ∧ mEq fP ν ν' := by
  rcases h.2 with hz | ⟨hz, hT⟩
  · obtain ⟨ν1, e1, e2, e3⟩ := sp9 (s := 24) (Or.inl rfl) h.1 (by decide) h0
    have hT' : TT 70 (dst S.2.2.1 24) (nWI ν1 53 24 1) := e2.eq (P := fun q => q = 53) (nEq.rf.wi rfl) (by decide)
    refine ⟨nWI ν1 53 24 1, ?_, ⟨(h.1.eq e3 (fun q _ _ => by omega)).o (by decide), Or.inr ⟨wi_eq _ _ _ _, hT'⟩⟩, (e3.m (Q := fP) (fun a b z => Or.inl z)).wi (Or.inr ⟨rfl, rfl⟩)⟩
    rw [f_X9_farOf, if_pos hz, show (24 : Int32) = nI 24 from rfl, e1, Option.bind_some, ql, if_pos (ib_in ht (by decide)), nI_clamp (by omega), hT' t ht]
  · have hT' : TT 70 (dst S.2.2.1 24) (nWI ν 53 24 1) := hT.eq (P := fun q => q = 53) (nEq.rf.wi rfl) (by decide)
    refine ⟨nWI ν 53 24 1, ?_, ⟨h.1.o (by decide), Or.inr ⟨wi_eq _ _ _ _, hT'⟩⟩, mEq.rf.wi (Or.inr ⟨rfl, rfl⟩)⟩
    rw [f_X9_farOf, if_neg (by rw [hz]; decide), ql, if_pos (ib_in ht (by decide)), nI_clamp (by omega), hT' t ht]
theorem ts_L {S : pS} {i u : Nat} {b : Bool} {k : Int32 → gN → Option gN} (h0 : S.2.2.1 24 = false) (hi : i < 7) (hu : u < 49) (hp : S.2.1 4 i = nI u) : ∀ j n d ν, d + j = 4 → j < n → FC S ν → ∃ ν', f_X9_takesStep_L16 (nI i) (i01 b) k n (nI (stN (dst S.2.2.1 24) b u d)) (nI d) ν = k (nI (stp (dst S.2.2.1 24) b u)) ν' ∧ FC S ν' ∧ mEq fP ν ν' := by
  intro j
  induction j with
  | zero =>
    intro n d ν hd hn h
    obtain ⟨n, rfl⟩ : ∃ m, n = m + 1 := ⟨n - 1, by omega⟩
    have e : d = 4 := by omega
    subst e
    exact ⟨ν, by rw [f_X9_takesStep_L16, if_pos (by decide)]; rfl, h, mEq.rf⟩
  | succ j ih =>
    intro n d ν hd hn h
    obtain ⟨n, rfl⟩ : ∃ m, n = m + 1 := ⟨n - 1, by omega⟩
    have hd4 : d < 4 := by omega
    have g0 : ¬ (4 : Int32) ≤ nI d := by rw [le_cn (c := 4) (k := 4) rfl (by omega) (by decide)]; omega
    have hb0 := stN_lt (D := dst S.2.2.1 24) (b := b) hu d (by omega)
    have ih := fun ν => ih n (d + 1) ν (by omega) (by omega)
    rw [f_X9_takesStep_L16, if_neg g0, if_pos (ib_in hi (by decide)), nI_clamp (by omega), h.1.c4 hi, hp]
    by_cases hno : bsd u d = 99 ∨ (bsd u d < 49 ∧ S.2.2.1 (bsd u d) = true)
    · have hst : stN (dst S.2.2.1 24) b u (d + 1) = stN (dst S.2.2.1 24) b u d := by
        rw [stN, stq, if_pos]
        exact hno.imp id (fun z => dst_fen h0 z.2)
      rw [be9_no h.1 hu hd4 hno, Option.bind_some, if_pos (show (-1 : Int32) < 0 by decide), nI_1, ← hst]
      exact ih ν h
    · have hb : bsd u d < 49 := (bs_t u hu d hd4).2.resolve_left (fun z => hno (Or.inl z))
      have hf : S.2.2.1 (bsd u d) = false := by
        cases hf : S.2.2.1 (bsd u d) with
        | false => rfl
        | true => exact absurd (Or.inr ⟨hb, hf⟩) hno
      have l1 := dst_le S.2.2.1 24 (bsd u d)
      have l2 := dst_le S.2.2.1 24 (stN (dst S.2.2.1 24) b u d)
      obtain ⟨ν1, e1, e2, e3⟩ := fo9 h h0 hb
      rw [be9_at h.1 hu hd4 hb hf, Option.bind_some, if_neg (nI_pos (by omega)), e1, Option.bind_some, nI_1]
      have e9 : nI (dst S.2.2.1 24 (bsd u d)) = 99 ↔ dst S.2.2.1 24 (bsd u d) = 99 := eq_nc (c := 99) (k := 99) rfl (by omega) (by decide)
      by_cases g : dst S.2.2.1 24 (bsd u d) = 99
      · have hst : stN (dst S.2.2.1 24) b u (d + 1) = stN (dst S.2.2.1 24) b u d := by
          rw [stN, stq, if_pos (Or.inr g)]
        rw [if_pos (e9.mpr g), ← hst]
        obtain ⟨ν', f1, f2, f3⟩ := ih ν1 e2
        exact ⟨ν', f1, f2, e3.tr f3⟩
      · rw [if_neg (fun q => g (e9.mp q))]
        obtain ⟨ν2, a1, a2, a3⟩ := fo9 e2 h0 hb
        obtain ⟨ν3, c1, c2, c3⟩ := fo9 a2 h0 hb0
        obtain ⟨ν', f1, f2, f3⟩ := ih ν3 c2
        refine ⟨ν', ?_, f2, e3.tr (a3.tr (c3.tr f3))⟩
        rw [stN, stq, if_neg (by omega)] at f1
        cases b with
        | false =>
          rw [if_pos (show i01 false = 0 from rfl), a1, Option.bind_some, c1, Option.bind_some]
          rw [if_neg (by decide)] at f1
          by_cases g2 : dst S.2.2.1 24 (stN (dst S.2.2.1 24) false u d) ≤ dst S.2.2.1 24 (bsd u d)
          · rw [if_pos (nI_le g2 (by omega))]; rw [if_pos g2] at f1; exact f1
          · rw [if_neg (nI_ge (by omega) (by omega))]; rw [if_neg g2] at f1; exact f1
        | true =>
          rw [if_neg (show ¬ i01 true = 0 by decide), a1, Option.bind_some, c1, Option.bind_some]
          rw [if_pos rfl] at f1
          by_cases g2 : dst S.2.2.1 24 (bsd u d) ≤ dst S.2.2.1 24 (stN (dst S.2.2.1 24) true u d)
          · rw [if_pos (nI_le g2 (by omega))]; rw [if_pos g2] at f1; exact f1
          · rw [if_neg (nI_ge (by omega) (by omega))]; rw [if_neg g2] at f1; exact f1
/-- places g, yards w -/
def PS (S : pS) (g : Nat → Int32) (w : Int32) : pS := (S.1, fun a b => if a = 4 then g b else S.2.1 a b, S.2.2.1, fun q => if q = 2 then w else S.2.2.2.1 q, S.2.2.2.2)
theorem FC.n {S : pS} {g : Nat → Int32} {w : Int32} {ν : gN} (h : FC (PS S g w) ν) : ν.1 53 0 = nI S.1 := h.1.1
def upg (g : Nat → Int32) (i : Nat) (x : Int32) : Nat → Int32 := fun q => if q = i then x else g q
theorem FC.pos {S : pS} {g : Nat → Int32} {w : Int32} {ν : gN} {i : Nat} {x : Int32} (h : FC (PS S g w) ν) (hi : i < 7) : FC (PS S (upg g i x) w) (nWI ν 58 i x) := by
  refine ⟨(h.1.a (j := 4) (x := x) (by decide) hi).cong rfl (fun j hj q hq => ?_) (fun _ _ => rfl) (fun _ _ => rfl) rfl, ?_⟩
  · show (if j = 4 then (if q = i then x else g q) else S.2.1 j q) = (if j = 4 ∧ q = i then x else if j = 4 then g q else S.2.1 j q)
    by_cases e : j = 4 <;> by_cases e2 : q = i <;> simp [e, e2]
  · rw [wi_ne (by omega)]
    exact h.2.imp id (fun z => ⟨z.1, z.2.eq (P := fun q => q = 58) (nEq.rf.wi rfl) (by decide)⟩)
theorem step9 {S : pS} {g : Nat → Int32} {w : Int32} {ν : gN} {i u : Nat} (h : FC (PS S g w) ν) (h0 : S.2.2.1 24 = false) (hi : i < 7) (hu : u < 49) (hg : g i = nI u) : ∃ ν', f_X9_takesStep (nI i) ν = some ν' ∧ FC (PS S (upg g i (nI (stp (dst S.2.2.1 24) (flS S i) u))) w) ν' ∧ mEq wP ν ν' := by
  have hp : (PS S g w).2.1 4 i = nI u := hg
  have hfl : flS (PS S g w) i = flS S i := rfl
  have hF : (PS S g w).2.2.1 = S.2.2.1 := rfl
  obtain ⟨ν1, e1, e2, e3⟩ := ts_L (S := PS S g w) (b := flS S i) (k := fun z2_17 ν_18 => if inb (nI i) 7 = true then qL (nWI ν_18 58 (nI i).toNatClampNeg z2_17) (fun ν_20 => some ν_20) else none) h0 hi hu hp 4 FU 0 ν rfl (by decide) h
  rw [hF, if_pos (ib_in hi (by decide)), nI_clamp (show i < 2 ^ 31 by omega), ql] at e1
  refine ⟨nWI ν1 58 i (nI (stp (dst S.2.2.1 24) (flS S i) u)), ?_, e2.pos hi, (e3.mono (fun a b z => fP.w z)).wi (Or.inr (Or.inr (Or.inl rfl)))⟩
  rw [f_X9_takesStep, if_pos (ib_in hi (by decide)), fl9 h.1 hi, Option.bind_some, nI_clamp (by omega), h.1.c4 hi, hp, hfl]
  exact e1
theorem pace9 {S : pS} {ν : gN} {i : Nat} (h : RM S ν) (hi : i < 7) (hv : ¬ S.2.1 1 i + 2 = 0) : f_X9_pace (nI i) ν = some (pcI (S.2.1 0 i) (S.2.1 1 i) (S.2.1 3 i) (S.2.2.2.1 2), ν) := by
  simp only [f_X9_pace, ib_in hi (show 7 < 2 ^ 31 by decide), ↓reduceIte, nI_clamp (show i < 2 ^ 31 by omega), h.c0 hi, h.c1 hi, h.c3 hi, show inb 2 4 = true from rfl, show (2 : Int32).toNatClampNeg = 2 from rfl, h.2.2.2.1 2 (by decide), hv, not_false_eq_true, pcI]
  repeat (split <;> try rfl)
theorem y18_L {S : pS} {w : Int32} {i m : Nat} {k : gN → Option gN} (h0 : S.2.2.1 24 = false) (hi : i < 7) (hm : m < 2 ^ 31) : ∀ j n q ν g u, q + j = m → j < n → FC (PS S g w) ν → u < 49 → g i = nI u → ∃ ν', f_X9_goesYard_L18 (nI i) (nI m) k n (nI q) ν = k ν' ∧ FC (PS S (upg g i (nI (wlk (dst S.2.2.1 24) (flS S i) j u))) w) ν' ∧ mEq wP ν ν' := by
  intro j
  induction j with
  | zero =>
    intro n q ν g u hq hn h hu hg
    obtain ⟨n, rfl⟩ : ∃ m, n = m + 1 := ⟨n - 1, by omega⟩
    refine ⟨ν, by rw [f_X9_goesYard_L18, if_pos (nI_le (by omega) (by omega))], ?_, mEq.rf⟩
    have e : upg g i (nI (wlk (dst S.2.2.1 24) (flS S i) 0 u)) = g := by
      funext q
      show (if q = i then nI u else g q) = g q
      by_cases z : q = i
      · rw [if_pos z, z, hg]
      · rw [if_neg z]
    rw [e]; exact h
  | succ j ih =>
    intro n q ν g u hq hn h hu hg
    obtain ⟨n, rfl⟩ : ∃ m, n = m + 1 := ⟨n - 1, by omega⟩
    obtain ⟨ν1, e1, e2, e3⟩ := step9 h h0 hi hu hg
    obtain ⟨ν', f1, f2, f3⟩ := ih n (q + 1) ν1 _ _ (by omega) (by omega) e2 (stp_lt hu) (if_pos rfl)
    refine ⟨ν', ?_, ?_, e3.tr f3⟩
    · rw [f_X9_goesYard_L18, if_neg (nI_ge (by omega) hm), e1, Option.bind_some, nI_1]; exact f1
    · have e : upg (upg g i (nI (stp (dst S.2.2.1 24) (flS S i) u))) i (nI (wlk (dst S.2.2.1 24) (flS S i) j (stp (dst S.2.2.1 24) (flS S i) u))) = upg g i (nI (wlk (dst S.2.2.1 24) (flS S i) (j + 1) u)) := by
        funext q
        unfold upg
        by_cases z : q = i
        · rw [if_pos z, if_pos z]; rfl
        · rw [if_neg z, if_neg z, if_neg z]
      rw [e] at f2
      exact f2
noncomputable def ydg (S : pS) (w : Int32) (i : Nat) (g : Nat → Int32) : Nat → Int32 := fun b => if i ≤ b ∧ b < S.1 then nI (wlk (dst S.2.2.1 24) (flS S b) (pcN S b w) (g b).toNatClampNeg) else g b
theorem y2_L {S : pS} {w : Int32} {k : gN → Option gN} (hc : S.1 ≤ 7) (h0 : S.2.2.1 24 = false) (hv : ∀ i, i < S.1 → vP S i) : ∀ j n i ν g, i + j = S.1 → j < n → FC (PS S g w) ν → (∀ b, b < S.1 → ∃ u, u < 49 ∧ g b = nI u) → ∃ ν', f_X9_goesYard_L2 k n (nI i) ν = k ν' ∧ FC (PS S (ydg S w i g) w) ν' ∧ mEq wP ν ν' := by
  intro j
  induction j with
  | zero =>
    intro n i ν g hi hn h hg
    obtain ⟨n, rfl⟩ : ∃ m, n = m + 1 := ⟨n - 1, by omega⟩
    refine ⟨ν, by rw [f_X9_goesYard_L2, h.n, if_pos (nI_le (show S.1 ≤ i by omega) (by omega))], ?_, mEq.rf⟩
    have e : ydg S w i g = g := by
      funext b
      unfold ydg
      rw [if_neg (by omega)]
    rw [e]; exact h
  | succ j ih =>
    intro n i ν g hi hn h hg
    obtain ⟨n, rfl⟩ : ∃ m, n = m + 1 := ⟨n - 1, by omega⟩
    have hi' : i < S.1 := by omega
    have hi7 : i < 7 := by omega
    obtain ⟨u, hu, hgu⟩ := hg i hi'
    have hp := pcN_e w (hv i hi')
    obtain ⟨ν1, e1, e2, e3⟩ := y18_L (k := fun ν_5 => f_X9_goesYard_L2 k n (nI i + 1) ν_5) h0 hi7 (show pcN S i w < 2 ^ 31 by omega) (pcN S i w) FU 0 ν g u (by omega) (by unfold FU; omega) h hu hgu
    obtain ⟨ν', f1, f2, f3⟩ := ih n (i + 1) ν1 _ (by omega) (by omega) e2 (fun b hb => by
      unfold upg
      by_cases z : b = i
      · rw [if_pos z]; exact ⟨_, wlk_lt _ _ hu, rfl⟩
      · rw [if_neg z]; exact hg b hb)
    refine ⟨ν', ?_, ?_, e3.tr f3⟩
    · have hpc : f_X9_pace (nI i) ν = some (nI (pcN S i w), ν) := by
        rw [pace9 h.1 hi7 (a2_ne (S := S) (i := i) (hv i hi')), ← hp.1]; rfl
      rw [f_X9_goesYard_L2, h.n, if_neg (nI_ge (show i < S.1 from hi') (by omega)), hpc, Option.bind_some]
      refine Eq.trans e1 ?_
      rw [nI_1]
      exact f1
    · have e : ydg S w (i + 1) (upg g i (nI (wlk (dst S.2.2.1 24) (flS S i) (pcN S i w) u))) = ydg S w i g := by
        funext b
        unfold ydg upg
        by_cases z : b = i
        · subst z
          rw [if_neg (by omega), if_pos rfl, if_pos ⟨Nat.le_refl _, hi'⟩, hgu, nI_clamp (by omega)]
        · rw [if_neg z]
          by_cases z2 : i + 1 ≤ b ∧ b < S.1
          · rw [if_pos z2, if_pos (by omega)]
          · rw [if_neg z2, if_neg (by omega)]
      rw [e] at f2
      exact f2
theorem yard9 {S : pS} {w : Int32} {ν : gN} {g : Nat → Int32} (hc : S.1 ≤ 7) (h0 : S.2.2.1 24 = false) (hv : ∀ i, i < S.1 → vP S i) (h : FC (PS S g w) ν) (hg : ∀ b, b < S.1 → ∃ u, u < 49 ∧ g b = nI u) : ∃ ν', f_X9_goesYard ν = some ν' ∧ FC (PS S (ydg S w 0 g) (w + 1)) ν' ∧ mEq wP ν ν' := by
  obtain ⟨ν1, e1, e2, e3⟩ := y2_L (k := fun ν_6 => if inb 2 4 = true then if inb 2 4 = true then qL (nWI ν_6 61 (2 : Int32).toNatClampNeg ((ν_6.1 61 (2 : Int32).toNatClampNeg) + 1)) (fun ν_9 => some ν_9) else none else none) hc h0 hv S.1 FU 0 ν g (by omega) (by unfold FU; omega) h hg
  have e61 : ν1.1 61 2 = w := e2.1.2.2.2.1 2 (by decide)
  refine ⟨nWI ν1 61 2 (w + 1), ?_, ⟨(e2.1.w (k := 2) (x := w + 1) (by decide)).cong rfl (fun _ _ _ _ => rfl) (fun _ _ => rfl) (fun k hk => ?_) rfl, ?_⟩, e3.wi (Or.inr (Or.inr (Or.inr ⟨rfl, rfl⟩)))⟩
  · rw [f_X9_goesYard]
    refine Eq.trans e1 ?_
    have i4 : inb 2 4 = true := rfl
    rw [if_pos i4, if_pos i4, ql, show (2 : Int32).toNatClampNeg = 2 from rfl, e61]
  · show (if k = 2 then w + 1 else S.2.2.2.1 k) = (if k = 2 then w + 1 else if k = 2 then w else S.2.2.2.1 k)
    by_cases z : k = 2 <;> simp [z]
  · rw [wi_ne (by omega)]
    exact e2.2.imp id (fun z => ⟨z.1, z.2.eq (P := fun q => q = 61) (nEq.rf.wi rfl) (by decide)⟩)
noncomputable def advg (S : pS) (y : Nat) : Nat → Int32 := fun b => if b < S.1 then nI (posN S b y) else S.2.1 4 b
noncomputable def advS (S : pS) (y : Nat) : pS := PS S (advg S y) (S.2.2.2.1 2 + nI y)
theorem adv_st {S : pS} (hS : okP S) (y : Nat) : ydg S (S.2.2.2.1 2 + nI y) 0 (advg S y) = advg S (y + 1) := by
  funext b
  unfold ydg advg
  by_cases z : b < S.1
  · have := (posN_ok (hS.2.1 b z) hS.2.2.1 y).1
    rw [if_pos ⟨Nat.zero_le _, z⟩, if_pos z, if_pos z, nI_clamp (by omega)]; rfl
  · rw [if_neg (by omega), if_neg z, if_neg z]
theorem on_L {S : pS} {m : Nat} {k : gN → Option gN} (hS : okP S) (hm : m < 2 ^ 31) : ∀ j n y ν, y + j = m → j < n → FC (advS S y) ν → ∃ ν', f_X9_goesOn_L2 (nI m) k n (nI y) ν = k ν' ∧ FC (advS S m) ν' ∧ mEq wP ν ν' := by
  intro j
  induction j with
  | zero =>
    intro n y ν hi hn h
    obtain ⟨n, rfl⟩ : ∃ m, n = m + 1 := ⟨n - 1, by omega⟩
    have e : y = m := by omega
    subst e
    exact ⟨ν, by rw [f_X9_goesOn_L2, if_pos (nI_le (Nat.le_refl _) hm)], h, mEq.rf⟩
  | succ j ih =>
    intro n y ν hi hn h
    obtain ⟨n, rfl⟩ : ∃ m, n = m + 1 := ⟨n - 1, by omega⟩
    obtain ⟨ν1, e1, e2, e3⟩ := yard9 hS.1 hS.2.2.1 hS.2.1 h (fun b hb => ⟨posN S b y, (posN_ok (hS.2.1 b hb) hS.2.2.1 y).1, if_pos hb⟩)
    rw [adv_st hS, Int32.add_assoc, nI_1] at e2
    obtain ⟨ν', f1, f2, f3⟩ := ih n (y + 1) ν1 (by omega) (by omega) e2
    refine ⟨ν', ?_, f2, e3.tr f3⟩
    rw [f_X9_goesOn_L2, if_neg (nI_ge (by omega) hm), e1, Option.bind_some, nI_1]; exact f1
theorem adv_0 {S : pS} (hS : okP S) {ν : gN} (h : FC S ν) : FC (advS S 0) ν := by
  refine ⟨h.1.cong rfl (fun j hj i hi => ?_) (fun _ _ => rfl) (fun k hk => ?_) rfl, h.2⟩
  · show (if j = 4 then (if i < S.1 then nI (posN S i 0) else S.2.1 4 i) else S.2.1 j i) = S.2.1 j i
    by_cases e : j = 4
    · subst e
      rw [if_pos rfl]
      by_cases z : i < S.1
      · rw [if_pos z]; exact (posN_0 (hS.2.1 i z)).1.symm
      · rw [if_neg z]
    · rw [if_neg e]
  · show (if k = 2 then S.2.2.2.1 2 + nI 0 else S.2.2.2.1 k) = S.2.2.2.1 k
    by_cases e : k = 2
    · rw [if_pos e, e, show nI 0 = 0 from rfl, Int32.add_zero]
    · rw [if_neg e]
theorem on9 {S : pS} {m : Nat} {ν : gN} (hS : okP S) (hm : m < 50000) (h : FC S ν) : ∃ ν', f_X9_goesOn (nI m) ν = some ν' ∧ FC (advS S m) ν' ∧ mEq wP ν ν' := by
  rw [f_X9_goesOn]
  exact on_L (k := fun ν_3 => some ν_3) hS (by omega) m FU 0 ν (by omega) (by unfold FU; omega) (adv_0 hS h)
