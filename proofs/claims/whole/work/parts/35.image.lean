/-! calls: image restore -/
theorem ci_in {ν : gN} {i j b : Nat} (h : b < 7) : (nCI ν i j 0 0 7).1 j b = ν.1 i b := by
  show (if j = j ∧ (0 ≤ b ∧ b < 0 + 7) then ν.1 i (0 + (b - 0)) else ν.1 j b) = _
  rw [if_pos (by omega), show 0 + (b - 0) = b by omega]
theorem ci_ne {ν : gN} {i j a b : Nat} (h : a ≠ j) : (nCI ν i j 0 0 7).1 a b = ν.1 a b := by
  show (if a = j ∧ _ then _ else _) = _
  rw [if_neg (fun z => h z.1)]
theorem nEq.ci {P : Nat → Prop} {ν ν' : gN} {i j : Nat} (h : nEq P ν ν') (hj : P j) : nEq P ν (nCI ν' i j 0 0 7) := fun a ha => ⟨fun b => (ci_ne (fun e => ha (by rw [e]; exact hj))).trans ((h a ha).1 b), (h a ha).2⟩
theorem tf8 {p0 p1 : Nat} {S : pS} {ν : gN} (h : RP p1 S ν) (hd : p0 + 7 ≤ p1 ∨ p1 + 7 ≤ p0) : ∃ ν', f_X4_takeFrom p0 p1 ν = some ν' ∧ RP p0 S ν' ∧ nEq (fun q => p0 ≤ q ∧ q < p0 + 7) ν ν' := by
  have hc : cpk 0 0 7 7 7 = true := by decide
  have z0 : (0 : Int32).toNatClampNeg = 0 := rfl
  have z7 : (7 : Int32).toNatClampNeg = 7 := rfl
  obtain ⟨μ, hμ⟩ : ∃ μ, μ = nCI (nCI (nCI (nCI (nCI (nCI ν (p1 + 1) (p0 + 1) 0 0 7) (p1 + 2) (p0 + 2) 0 0 7) (p1 + 3) (p0 + 3) 0 0 7) (p1 + 4) (p0 + 4) 0 0 7) (p1 + 5) (p0 + 5) 0 0 7) (p1 + 6) (p0 + 6) 0 0 7 := ⟨_, rfl⟩
  have hn : nEq (fun q => p0 ≤ q ∧ q < p0 + 7) ν μ := by
    rw [hμ]
    exact (((((nEq.rf.ci (by omega)).ci (by omega)).ci (by omega)).ci (by omega)).ci (by omega)).ci (by omega)
  have ha : ∀ j, j < 6 → ∀ i, i < 7 → μ.1 (p0 + 1 + j) i = S.2.1 j i := fun j hj i hi => by
    have hj' : j = 0 ∨ j = 1 ∨ j = 2 ∨ j = 3 ∨ j = 4 ∨ j = 5 := by omega
    rw [hμ]
    rcases hj' with rfl | rfl | rfl | rfl | rfl | rfl
    · rw [ci_ne (by omega), ci_ne (by omega), ci_ne (by omega), ci_ne (by omega), ci_ne (by omega), show p0 + 1 + 0 = p0 + 1 from rfl, ci_in hi]; exact h.c0 hi
    · rw [ci_ne (by omega), ci_ne (by omega), ci_ne (by omega), ci_ne (by omega), show p0 + 1 + 1 = p0 + 2 from rfl, ci_in hi, ci_ne (by omega)]; exact h.c1 hi
    · rw [ci_ne (by omega), ci_ne (by omega), ci_ne (by omega), show p0 + 1 + 2 = p0 + 3 from rfl, ci_in hi, ci_ne (by omega), ci_ne (by omega)]; exact h.c2 hi
    · rw [ci_ne (by omega), ci_ne (by omega), show p0 + 1 + 3 = p0 + 4 from rfl, ci_in hi, ci_ne (by omega), ci_ne (by omega), ci_ne (by omega)]; exact h.c3 hi
    · rw [ci_ne (by omega), show p0 + 1 + 4 = p0 + 5 from rfl, ci_in hi, ci_ne (by omega), ci_ne (by omega), ci_ne (by omega), ci_ne (by omega)]; exact h.c4 hi
    · rw [show p0 + 1 + 5 = p0 + 6 from rfl, ci_in hi, ci_ne (by omega), ci_ne (by omega), ci_ne (by omega), ci_ne (by omega), ci_ne (by omega)]; exact h.c5 hi
  have h1 : RP p1 S μ := h.eq hn (fun a _ _ => by omega)
  have q1 : μ.1 p1 8 = S.2.2.2.1 0 := h1.2.2.2.1 0 (by decide)
  have q2 : μ.1 p1 9 = S.2.2.2.1 1 := h1.2.2.2.1 1 (by decide)
  have q3 : μ.1 p1 10 = S.2.2.2.1 2 := h1.2.2.2.1 2 (by decide)
  have q4 : μ.1 p1 11 = S.2.2.2.1 3 := h1.2.2.2.1 3 (by decide)
  refine ⟨nWI (nWI (nWI (nWI (nWI (nWL (nWI μ p0 6 (nI S.1)) p0 7 (μ.2 p1 7)) p0 8 (S.2.2.2.1 0)) p0 9 (S.2.2.2.1 1)) p0 10 (S.2.2.2.1 2)) p0 11 (S.2.2.2.1 3)) p0 12 S.2.2.2.2, ?_, ⟨?_, fun j hj i hi => ?_, fun i hi => ?_, fun k hk => ?_, wi_eq _ _ _ _⟩, ((((((hn.wi (by omega)).wl (by omega)).wi (by omega)).wi (by omega)).wi (by omega)).wi (by omega)).wi (by omega)⟩
  · have r : ∀ (ν : gN) b x c, (nWI ν p0 b x).1 p1 c = ν.1 p1 c := fun ν b x c => wi_ne (by omega)
    have r2 : ∀ (ν : gN) b x, (nWL ν p0 b x).1 = ν.1 := fun ν b x => rfl
    have r3 : ∀ (ν : gN) b x, (nWI ν p0 b x).2 = ν.2 := fun ν b x => rfl
    simp only [f_X4_takeFrom, hc, ↓reduceIte, z0, z7, ql, ← hμ, r, r2, r3, h1.1, q1, q2, q3, q4, h1.2.2.2.2]
  · rw [wi_ne (by omega), wi_ne (by omega), wi_ne (by omega), wi_ne (by omega), wi_ne (by omega), wl_1, wi_eq]
  · rw [wi_ne (by omega), wi_ne (by omega), wi_ne (by omega), wi_ne (by omega), wi_ne (by omega), wl_1, wi_ne (by omega)]; exact ha j hj i hi
  · rw [wi_2, wi_2, wi_2, wi_2, wi_2, wl_eq]; exact h1.2.2.1 i hi
  · have hk' : k = 0 ∨ k = 1 ∨ k = 2 ∨ k = 3 := by omega
    rcases hk' with rfl | rfl | rfl | rfl
    · rw [wi_ne (by omega), wi_ne (by omega), wi_ne (by omega), wi_ne (by omega), wi_eq]
    · rw [wi_ne (by omega), wi_ne (by omega), wi_ne (by omega), wi_eq]
    · rw [wi_ne (by omega), wi_ne (by omega), wi_eq]
    · rw [wi_ne (by omega), wi_eq]
def zI (Z : zS) : zS := (Z.1, Z.2.1, Z.2.2.1, Z.2.2.2.1, Z.2.2.2.2.1, some Z.1)
theorem op_image {Z : zS} (hZ : okZ Z) : both f_X8_image f_X9_image Z := by
  refine ⟨nI Z.1.1, zI Z, ⟨hZ.1, hZ.2.1, fun S hS => by rw [← Option.some.inj hS]; exact hZ.1, hZ.2.2.2⟩, fun ν h => ?_, fun ν h => ?_⟩
  · obtain ⟨ν1, e1, e2, e3⟩ := tf8 (p0 := 15) (p1 := 1) h.1 (by omega)
    have hn : nEq (fun q => q = 0 ∨ (15 ≤ q ∧ q < 22)) ν (nWI ν1 0 9 1) := (e3.mono (Q := fun q => q = 0 ∨ (15 ≤ q ∧ q < 22)) (fun a z => Or.inr z)).wi (Or.inl rfl)
    refine ⟨nWI ν1 0 9 1, ?_, ?_, hn.mono (fun a z => by show a < 53; omega)⟩
    · rw [f_X8_image, e1, Option.bind_some, ql, wi_ne (by omega), (e3 1 (by omega)).1, h.1.1]
    · obtain ⟨h1, h2, h3, h4, h5, h6⟩ := h
      refine ⟨h1.eq hn (fun a _ _ => by omega), fun s hs => ?_, fun k hk => ((hn 23 (by omega)).1 k).trans (h3 k hk), ?_, ⟨((hn 35 (by omega)).1 1).trans h5.1, fun i hi ht => ((hn 36 (by omega)).1 i).trans (h5.2 i hi ht)⟩, wi_eq _ _ _ _, e2.eq (P := fun q => q = 0) (nEq.rf.wi rfl) (fun a _ _ => by omega)⟩
      · have a1 := hn (37 + 2 * s) (by omega)
        have a2 := hn (37 + 2 * s + 1) (by omega)
        obtain ⟨b1, b2⟩ := h2 s hs
        exact ⟨(a1.1 1).trans b1, fun z => ⟨(a1.1 2).trans (b2 z).1, fun i hi => (a2.2 i).trans ((b2 z).2 i hi)⟩⟩
      · rw [wi_ne (by omega), (e3 0 (by omega)).1]; exact h4
  · have hM0 : RM Z.1 (nWI ν 53 21 1) := h.1.o (by decide)
    obtain ⟨ν1, e1, e2, e3⟩ := kp9 (b := 69) (by decide) hM0
    have s9 : ν1.1 53 9 = Z.1.2.2.2.2 := by rw [(e3 53 (by decide)).1]; exact hM0.2.2.2.2
    have hm : mEq (fun a b => a = 69 ∨ (a = 53 ∧ (b = 21 ∨ b = 23))) ν (nWI ν1 53 23 Z.1.2.2.2.2) := ((mEq.rf.wi (P := fun a b => a = 69 ∨ (a = 53 ∧ (b = 21 ∨ b = 23))) (i := 53) (k := 21) (x := 1) (by omega)).tr (e3.m (fun a b z => Or.inl z))).wi (by omega)
    refine ⟨nWI ν1 53 23 Z.1.2.2.2.2, ?_, ?_, hm.n (fun a b z => by show 53 ≤ a; omega)⟩
    · rw [f_X9_image, ql, e1, Option.bind_some, ql, s9, wi_ne (by omega), show ν1.1 53 0 = nI Z.1.1 from by rw [(e3 53 (by decide)).1]; exact hM0.1]
    · obtain ⟨h1, h2, h3, h4, h5, h6, h7, h8⟩ := h
      refine ⟨h1.meq hm (fun a b _ _ => by omega) (by omega) (by omega), fun s hs => ?_, fun k hk => ((hm 68 k (by omega)).1).trans (h3 k hk), ((hm 53 16 (by omega)).1).trans h4, ⟨((hm 53 18 (by omega)).1).trans h5.1, fun i hi ht => ((hm 67 i (by omega)).1).trans (h5.2 i hi ht)⟩, ⟨?_, ?_, ?_⟩, ?_, ((hm 53 28 (by omega)).1).trans h8⟩
      · obtain ⟨b1, b2⟩ := h2 s hs
        exact ⟨((hm 62 s (by omega)).1).trans b1, fun z => ⟨((hm 63 s (by omega)).1).trans (b2 z).1, fun i hi => ((hm 64 _ (by omega)).2).trans ((b2 z).2 i hi)⟩⟩
      · rw [wi_ne (by omega), (e3 53 (by decide)).1, wi_eq]
      · exact e2.eq (P := fun q => q = 53) (nEq.rf.wi rfl) (by decide)
      · exact wi_eq _ _ _ _
      · rw [(hm 53 24 (by omega)).1]
        exact h7.imp id (fun z => ⟨z.1, fun t ht => ((hm 70 t (by omega)).1).trans (z.2 t ht)⟩)
theorem lev_cong {F G : Nat → Bool} {s : Nat} (h : ∀ q, q < 49 → F q = G q) : ∀ n t, t < 49 → lev F s n t = lev G s n t := by
  intro n
  induction n with
  | zero => intro t _; rfl
  | succ n ih =>
    intro t ht
    rw [lev, lev, ih t ht]
    by_cases z : lev G s n t ≠ 99
    · rw [if_pos z, if_pos z]
    · rw [if_neg z, if_neg z]
      by_cases g : F t = false ∧ ∃ u, u < 49 ∧ nbr u t ∧ lev F s n u = n
      · obtain ⟨g1, u, g2, g3, g4⟩ := g
        rw [if_pos ⟨g1, u, g2, g3, g4⟩, if_pos ⟨by rw [← h t ht]; exact g1, u, g2, g3, by rw [← ih u g2]; exact g4⟩]
      · rw [if_neg g, if_neg]
        rintro ⟨g1, u, g2, g3, g4⟩
        exact g ⟨by rw [h t ht]; exact g1, u, g2, g3, by rw [ih u g2]; exact g4⟩
/-- who is on a shelf once the port has n people -/
def nwV (n : Nat) (v : Int32) : Int32 := if v < 100 ∧ ¬ v < nI n then -1 else v
def hvN (n : Nat) (V : Nat → Int32) (i : Nat) : Nat → Int32 := fun s => if s < i then nwV n (V s) else V s
def cls (v : Int32) : Prop := v = -1 ∨ (∃ q, q < 7 ∧ v = nI q) ∨ (∃ t, t < 4 ∧ v = nI (100 + t))
theorem hvN_st {n : Nat} {V : Nat → Int32} {i : Nat} (h : nwV n (V i) = V i) : hvN n V (i + 1) = hvN n V i := by
  funext s
  unfold hvN
  by_cases e : s = i
  · subst e; rw [if_pos (by omega), if_neg (by omega), h]
  · by_cases g : s < i
    · rw [if_pos (by omega), if_pos g]
    · rw [if_neg (by omega), if_neg g]
theorem hvN_at {n : Nat} {V : Nat → Int32} {i : Nat} : hvN n V i i = V i := if_neg (by omega)
theorem nw_keep {n : Nat} {v : Int32} (hn : n ≤ 7) (h : v = -1 ∨ (∃ q, q < n ∧ v = nI q) ∨ (∃ t, t < 4 ∧ v = nI (100 + t))) : nwV n v = v := by
  unfold nwV
  rcases h with rfl | ⟨q, hq, rfl⟩ | ⟨t, ht, rfl⟩
  · rw [if_neg]
    rintro ⟨_, z⟩
    refine z ?_
    rw [Int32.lt_iff_toInt_lt, nI_toInt (by omega)]
    show (-1 : Int) < _
    omega
  · rw [if_neg (fun z => z.2 (nI_lt hq (by omega)))]
  · rw [if_neg (fun z => by rw [t_lt100 ht] at z; exact z.1)]
theorem nw_off {n q : Nat} (hq : q < 7) (h : n ≤ q) : nwV n (nI q) = -1 := by
  unfold nwV
  rw [if_pos ⟨by rw [q_lt100 hq]; trivial, nI_nlt h (by omega)⟩]
theorem rs_8 {S : pS} {V : (Nat → Int32) × (Nat → Nat) × (Nat → Nat → Int64)} {R : (Nat → Int32) × Int32 × (Nat × (Nat → Int32)) × Option pS} {k : gN → Option (Int32 × gN)} (hc : S.1 ≤ 7) (hV : ∀ s, s < 8 → cls (V.1 s)) : ∀ j n i ν, i + j = 8 → j < n → IC (S, (hvN S.1 V.1 i, V.2), R) ν → ∃ ν', f_X8_restore_L27 k n (nI i) ν = k ν' ∧ IC (S, (hvN S.1 V.1 8, V.2), R) ν' ∧ nEq (fun q => q < 53) ν ν' := by
  intro j
  induction j with
  | zero =>
    intro n i ν hi hn h
    obtain ⟨n, rfl⟩ : ∃ m, n = m + 1 := ⟨n - 1, by omega⟩
    have e : i = 8 := by omega
    subst e
    exact ⟨ν, by rw [f_X8_restore_L27, if_pos (by decide)], h, nEq.rf⟩
  | succ j ih =>
    intro n i ν hi hn h
    obtain ⟨n, rfl⟩ : ∃ m, n = m + 1 := ⟨n - 1, by omega⟩
    have hi8 : i < 8 := by omega
    have hv : ν.1 (37 + 2 * i) 1 = V.1 i := (h.2.1 i hi8).1.trans hvN_at
    have g8 : ((8 : Int32) ≤ nI i) = False := eq_false (by rw [le_cn (c := 8) (k := 8) rfl (by omega) (by decide)]; omega)
    have same : nwV S.1 (V.1 i) = V.1 i → ∃ ν', f_X8_restore_L27 k n (nI (i + 1)) ν = k ν' ∧ IC (S, (hvN S.1 V.1 8, V.2), R) ν' ∧ nEq (fun q => q < 53) ν ν' := fun hs => ih n (i + 1) ν (by omega) (by omega) (by rw [hvN_st hs]; exact h)
    rcases hV i hi8 with e | ⟨q, hq, e⟩ | ⟨t, ht, e⟩
    · obtain ⟨ν', e1, e2, e3⟩ := same (nw_keep hc (Or.inl e))
      refine ⟨ν', ?_, e2, e3⟩
      simp only [f_X8_restore_L27, g8, ib_in hi8 (show 8 < 2 ^ 31 by decide), nI_clamp (show i < 2 ^ 31 by omega), f_X6_hasPerson, hv, e, m1_lt0, Option.bind_some, ↓reduceIte, nI_1, e1]
    · by_cases hqn : q < S.1
      · obtain ⟨ν', e1, e2, e3⟩ := same (nw_keep hc (Or.inr (Or.inl ⟨q, hqn, e⟩)))
        refine ⟨ν', ?_, e2, e3⟩
        simp only [f_X8_restore_L27, g8, ib_in hi8 (show 8 < 2 ^ 31 by decide), nI_clamp (show i < 2 ^ 31 by omega), f_X6_hasPerson, hv, e, q_lt0 (show q < 2 ^ 31 by omega), q_100le hq, per_in h.1 hc hqn, b1, Option.bind_some, ↓reduceIte, nI_1, e1]
      · have hne : nEq (fun a => a = 37 + 2 * i ∨ a = 37 + 2 * i + 1) ν (nWI (nWI ν (37 + 2 * i) 1 (-1)) (37 + 2 * i) 2 0) := (nEq.rf.wi (Or.inl rfl)).wi (Or.inl rfl)
        have h2 : IC (S, (hvN S.1 V.1 (i + 1), V.2), R) (nWI (nWI ν (37 + 2 * i) 1 (-1)) (37 + 2 * i) 2 0) := h.shelf (V' := (hvN S.1 V.1 (i + 1), V.2)) i hi8 hne (fun s hs => ⟨by
            show (if s < i + 1 then _ else _) = (if s < i then _ else _)
            by_cases g : s < i
            · rw [if_pos (by omega), if_pos g]
            · rw [if_neg (by omega), if_neg g], rfl, fun _ => rfl⟩) ⟨by
            rw [wi_ne (by omega), wi_eq]
            show -1 = (if i < i + 1 then nwV S.1 (V.1 i) else V.1 i)
            rw [if_pos (by omega), e, nw_off hq (by omega)], fun z => by
            have z' : nI 100 ≤ (if i < i + 1 then nwV S.1 (V.1 i) else V.1 i) := z
            rw [if_pos (by omega), e, nw_off hq (by omega)] at z'
            exact absurd z' (by decide)⟩
        obtain ⟨ν', e1, e2, e3⟩ := ih n (i + 1) _ (by omega) (by omega) h2
        refine ⟨ν', ?_, e2, (hne.mono (fun a z => by show a < 53; omega)).tr e3⟩
        simp only [f_X8_restore_L27, g8, ib_in hi8 (show 8 < 2 ^ 31 by decide), nI_clamp (show i < 2 ^ 31 by omega), f_X6_hasPerson, hv, e, q_lt0 (show q < 2 ^ 31 by omega), q_100le hq, per_out h.1 (x := nI q) (Or.inr (nI_le (show S.1 ≤ q by omega) (by omega))), b1, Option.bind_some, ↓reduceIte, nI_1, pp_8, e1]
    · obtain ⟨ν', e1, e2, e3⟩ := same (nw_keep hc (Or.inr (Or.inr ⟨t, ht, e⟩)))
      refine ⟨ν', ?_, e2, e3⟩
      simp only [f_X8_restore_L27, g8, ib_in hi8 (show 8 < 2 ^ 31 by decide), nI_clamp (show i < 2 ^ 31 by omega), f_X6_hasPerson, hv, e, t_lt0 ht, t_100le ht, Option.bind_some, ↓reduceIte, nI_1, e1]
theorem rs_9 {S : pS} {V : (Nat → Int32) × (Nat → Nat) × (Nat → Nat → Int64)} {R : (Nat → Int32) × Int32 × (Nat × (Nat → Int32)) × Option pS} {k : gN → Option (Int32 × gN)} (hc : S.1 ≤ 7) (hV : ∀ s, s < 8 → cls (V.1 s)) : ∀ j n i ν, i + j = 8 → j < n → IM (S, (hvN S.1 V.1 i, V.2), R) ν → ∃ ν', f_X9_restore_L32 k n (nI i) ν = k ν' ∧ IM (S, (hvN S.1 V.1 8, V.2), R) ν' ∧ nEq (fun q => 53 ≤ q) ν ν' := by
  intro j
  induction j with
  | zero =>
    intro n i ν hi hn h
    obtain ⟨n, rfl⟩ : ∃ m, n = m + 1 := ⟨n - 1, by omega⟩
    have e : i = 8 := by omega
    subst e
    exact ⟨ν, by rw [f_X9_restore_L32, if_pos (by decide)], h, nEq.rf⟩
  | succ j ih =>
    intro n i ν hi hn h
    obtain ⟨n, rfl⟩ : ∃ m, n = m + 1 := ⟨n - 1, by omega⟩
    have hi8 : i < 8 := by omega
    have hv : ν.1 62 i = V.1 i := (h.2.1 i hi8).1.trans hvN_at
    have g8 : ((8 : Int32) ≤ nI i) = False := eq_false (by rw [le_cn (c := 8) (k := 8) rfl (by omega) (by decide)]; omega)
    have hn0 : ν.1 53 0 = nI S.1 := h.1.1
    have same : nwV S.1 (V.1 i) = V.1 i → ∃ ν', f_X9_restore_L32 k n (nI (i + 1)) ν = k ν' ∧ IM (S, (hvN S.1 V.1 8, V.2), R) ν' ∧ nEq (fun q => 53 ≤ q) ν ν' := fun hs => ih n (i + 1) ν (by omega) (by omega) (by rw [hvN_st hs]; exact h)
    rcases hV i hi8 with e | ⟨q, hq, e⟩ | ⟨t, ht, e⟩
    · obtain ⟨ν', e1, e2, e3⟩ := same (nw_keep hc (Or.inl e))
      refine ⟨ν', ?_, e2, e3⟩
      have hl : ((-1 : Int32) < nI S.1) = True := eq_true (by
        rw [Int32.lt_iff_toInt_lt, nI_toInt (by omega)]
        show (-1 : Int) < _
        omega)
      simp only [f_X9_restore_L32, g8, ib_in hi8 (show 8 < 2 ^ 31 by decide), nI_clamp (show i < 2 ^ 31 by omega), f_X9_isRow, hv, e, m1_lt100, hn0, hl, Option.bind_some, ↓reduceIte, nI_1, e1]
    · by_cases hqn : q < S.1
      · obtain ⟨ν', e1, e2, e3⟩ := same (nw_keep hc (Or.inr (Or.inl ⟨q, hqn, e⟩)))
        refine ⟨ν', ?_, e2, e3⟩
        simp only [f_X9_restore_L32, g8, ib_in hi8 (show 8 < 2 ^ 31 by decide), nI_clamp (show i < 2 ^ 31 by omega), f_X9_isRow, hv, e, q_lt100 hq, hn0, eq_true (nI_lt hqn (by omega)), Option.bind_some, ↓reduceIte, nI_1, e1]
      · have h2 : IM (S, (hvN S.1 V.1 (i + 1), V.2), R) (nWI ν 62 i (-1)) := h.shelf (V' := (hvN S.1 V.1 (i + 1), V.2)) (nEq.rf.wi (by decide)) (fun s hs => by
          by_cases es : s = i
          · subst es
            refine ⟨?_, fun z => ?_⟩
            · rw [wi_eq]
              show -1 = (if s < s + 1 then nwV S.1 (V.1 s) else V.1 s)
              rw [if_pos (by omega), e, nw_off hq (by omega)]
            · have z' : nI 100 ≤ (if s < s + 1 then nwV S.1 (V.1 s) else V.1 s) := z
              rw [if_pos (by omega), e, nw_off hq (by omega)] at z'
              exact absurd z' (by decide)
          · have ee : hvN S.1 V.1 (i + 1) s = hvN S.1 V.1 i s := by
              show (if s < i + 1 then _ else _) = (if s < i then _ else _)
              by_cases g : s < i
              · rw [if_pos (by omega), if_pos g]
              · rw [if_neg (by omega), if_neg g]
            have hh := h.2.1 s hs
            show (nWI ν 62 i (-1)).1 62 s = hvN S.1 V.1 (i + 1) s ∧ (nI 100 ≤ hvN S.1 V.1 (i + 1) s → _)
            rw [ee, wi_ne (by omega)]
            exact ⟨hh.1, fun z => ⟨by rw [wi_ne (by omega)]; exact (hh.2 z).1, (hh.2 z).2⟩⟩)
        obtain ⟨ν', e1, e2, e3⟩ := ih n (i + 1) _ (by omega) (by omega) h2
        refine ⟨ν', ?_, e2, (nEq.rf.wi (P := fun q => 53 ≤ q) (by decide)).tr e3⟩
        simp only [f_X9_restore_L32, g8, ib_in hi8 (show 8 < 2 ^ 31 by decide), nI_clamp (show i < 2 ^ 31 by omega), f_X9_isRow, hv, e, q_lt100 hq, hn0, eq_false (nI_nlt (show S.1 ≤ q by omega) (by omega)), Option.bind_some, ↓reduceIte, nI_1, ql, e1]
    · obtain ⟨ν', e1, e2, e3⟩ := same (nw_keep hc (Or.inr (Or.inr ⟨t, ht, e⟩)))
      refine ⟨ν', ?_, e2, e3⟩
      simp only [f_X9_restore_L32, g8, ib_in hi8 (show 8 < 2 ^ 31 by decide), nI_clamp (show i < 2 ^ 31 by omega), f_X9_isRow, hv, e, t_lt100 ht, b1, Option.bind_some, ↓reduceIte, nI_1, e1]
theorem okZ.cls {Z : zS} (hZ : okZ Z) : ∀ s, s < 8 → cls (Z.2.1.1 s) := fun s hs => by
  rcases shc hZ hs with z | ⟨q, z1, _, z2⟩ | ⟨t, z1, z2, _⟩
  · exact Or.inl z
  · exact Or.inr (Or.inl ⟨q, z1, z2⟩)
  · exact Or.inr (Or.inr ⟨t, z1, z2⟩)
theorem hvN_0 {n : Nat} {V : Nat → Int32} : hvN n V 0 = V := by
  funext s
  exact if_neg (by omega)
theorem op_restore {Z : zS} (hZ : okZ Z) : both f_X8_restore f_X9_restore Z := by
  cases hI : Z.2.2.2.2.2 with
  | none =>
    refine both_no (a := -6) 6 (by decide) hZ (fun ν h => ?_) (fun ν h => ?_)
    · have h6 := h.2.2.2.2.2
      simp only [hI] at h6
      simp only [f_X8_restore, h6, ↓reduceIte, rf_6, Option.bind_some]
    · have h6 := h.2.2.2.2.2.1
      simp only [hI] at h6
      simp only [f_X9_restore, h6, ↓reduceIte, no_6, Option.bind_some]
  | some S =>
    have hS := hZ.2.2.1 S hI
    have hc := hS.1
    have hV := hZ.cls
    refine ⟨nI S.1, (S, (hvN S.1 Z.2.1.1 8, Z.2.1.2), Z.2.2), ⟨hS, fun s hs => ?_, hZ.2.2⟩, fun ν h => ?_, fun ν h => ?_⟩
    · show (if s < 8 then nwV S.1 (Z.2.1.1 s) else _) = -1 ∨ (∃ q, q < S.1 ∧ (if s < 8 then nwV S.1 (Z.2.1.1 s) else Z.2.1.1 s) = nI q) ∨ (∃ t, t < 4 ∧ (if s < 8 then nwV S.1 (Z.2.1.1 s) else Z.2.1.1 s) = nI (100 + t) ∧ _)
      rw [if_pos hs]
      rcases shc hZ hs with e | ⟨q, hq, _, e⟩ | ⟨t, ht, e, hl⟩
      · rw [nw_keep hc (Or.inl e)]; exact Or.inl e
      · by_cases hqn : q < S.1
        · rw [nw_keep hc (Or.inr (Or.inl ⟨q, hqn, e⟩))]; exact Or.inr (Or.inl ⟨q, hqn, e⟩)
        · rw [e, nw_off hq (by omega)]; exact Or.inl rfl
      · rw [nw_keep hc (Or.inr (Or.inr ⟨t, ht, e⟩))]; exact Or.inr (Or.inr ⟨t, ht, e, hl⟩)
    · have h6 := h.2.2.2.2.2
      simp only [hI] at h6
      obtain ⟨ν1, a1, a2, a3⟩ := tf8 (p0 := 1) (p1 := 15) h6.2 (by omega)
      have h1 : IC (S, Z.2) ν1 := h.port a2 (a3.mono (fun a z => by omega))
      obtain ⟨ν', e1, e2, e3⟩ := rs_8 (V := Z.2.1) (k := fun ν_12 => some (ν_12.1 1 6, ν_12)) hc hV 8 FU 0 ν1 rfl (by decide) (by rw [hvN_0]; exact h1)
      refine ⟨ν', ?_, e2, (a3.mono (Q := fun q => q < 53) (fun a z => by omega)).tr e3⟩
      rw [f_X8_restore, if_neg (by rw [h6.1]; decide), a1, Option.bind_some]
      refine Eq.trans e1 ?_
      rw [show ν'.1 1 6 = nI S.1 from e2.1.1]
    · have h6 := h.2.2.2.2.2.1
      simp only [hI] at h6
      obtain ⟨ν1, f1, f2, f3, f4⟩ := ag9 (b := 69) (by decide) h6.2.1 h.1
      have s23 : ν1.1 53 23 = S.2.2.2.2 := by rw [(f4 53 23 (by unfold gP; omega)).1]; exact h6.2.2
      have hm : mEq (fun a b => gP a b ∨ (a = 53 ∧ b = 9)) ν (nWI ν1 53 9 S.2.2.2.2) := (f4.mono (Q := fun a b => gP a b ∨ (a = 53 ∧ b = 9)) (fun a b z => Or.inl z)).wi (Or.inr ⟨rfl, rfl⟩)
      have h1 : IM (S, Z.2) (nWI ν1 53 9 S.2.2.2.2) := h.fc (S' := S) ⟨f2.d, by
        rw [wi_ne (by omega)]
        rcases f3 with f3 | f3
        · exact Or.inl f3
        · rw [f3.1]
          refine h.f.2.imp id (fun z => ⟨z.1, fun t ht => ?_⟩)
          rw [wi_ne (by omega), (f4 70 t (by unfold gP; omega)).1, z.2 t ht]
          show nI (lev Z.1.2.2.1 24 49 t) = nI (lev S.2.2.1 24 49 t)
          rw [lev_cong (fun q hq => (f3.2 q hq).symm) 49 t ht]⟩ hm (fun a b z => by unfold gP at z; omega) (fun b z => by unfold gP at z; omega)
      obtain ⟨ν', e1, e2, e3⟩ := rs_9 (V := Z.2.1) (k := fun ν_11 => some (ν_11.1 53 0, ν_11)) hc hV 8 FU 0 (nWI ν1 53 9 S.2.2.2.2) rfl (by decide) (by rw [hvN_0]; exact h1)
      refine ⟨ν', ?_, e2, (hm.n (P := fun q => 53 ≤ q) (fun a b z => by unfold gP at z; omega)).tr e3⟩
      rw [f_X9_restore, if_neg (by rw [h6.1]; decide), f1, Option.bind_some, ql, s23]
      refine Eq.trans e1 ?_
      rw [show ν'.1 53 0 = nI S.1 from e2.1.1]
