/-! the call act: bodies, notes, both sides by one tale -/
def psh (t : Int32) (T : Nat × (Nat → Int32)) : Nat × (Nat → Int32) := (T.1 + 1, fun i => if i = T.1 then t else T.2 i)
def psl : List Int32 → Nat × (Nat → Int32) → Nat × (Nat → Int32)
  | [], T => T
  | t :: l, T => psl l (psh t T)
theorem psl_app : ∀ (l m : List Int32) T, psl (l ++ m) T = psl m (psl l T)
  | [], _, _ => rfl
  | t :: l, m, T => psl_app l m (psh t T)
theorem psl_n : ∀ (l : List Int32) T, (psl l T).1 = T.1 + l.length
  | [], _ => rfl
  | t :: l, T => by
    have := psl_n l (psh t T)
    show (psl l (psh t T)).1 = T.1 + (l.length + 1)
    rw [this]
    show T.1 + 1 + l.length = _
    omega
def ruV (me a : Int32) (k : Nat) (v : Int32) : Int32 := if k = 1 then v + me + a else if k = 3 then v + 1 + me + a else if k = 4 then v + me - me else if k = 6 then (v + 1 + me + a) * 2 else v + me
def ruL (k : Nat) : List Int32 := if k = 1 then [20, 10] else if k = 3 then [40, 20, 10] else if k = 4 then [51, 10] else if k = 6 then [70, 40, 20, 10] else [10]
def hiV (me a : Int32) (K k : Nat) (v : Int32) : Int32 := if k = 2 then ruV me a K v * 2 * 3 else if k = 5 then ruV me a K v * 2 * 3 else if k = 6 then ruV me a K (v - a) * 2 else ruV me a K v * 2
def hiL (K k : Nat) : List Int32 := if k = 2 then 30 :: 11 :: ruL K else if k = 5 then 30 :: 11 :: ruL K else if k = 6 then 71 :: 11 :: ruL K else 11 :: ruL K
def siB (me a : Int32) (K : Nat) (v : Int32) : Int32 := hiV me a K K v ^^^ ruV me a K (v - a)
def siV (me a : Int32) (K k : Nat) (v : Int32) : Int32 := if k = 4 then -siB me a K v else if k = 5 then siB me a K v ^^^ 5 else siB me a K v
def siL (K k : Nat) : List Int32 := if k = 4 then 50 :: 12 :: (hiL K K ++ ruL K) else if k = 5 then 60 :: 12 :: (hiL K K ++ ruL K) else 12 :: (hiL K K ++ ruL K)
theorem ruL_n : ∀ k, k < 7 → (ruL k).length ≤ 4 := by decide
theorem hiL_n : ∀ K, K < 7 → ∀ k, k < 7 → (hiL K k).length ≤ 6 := by decide
theorem siL_n : ∀ K, K < 7 → ∀ k, k < 7 → (siL K k).length ≤ 12 := by decide
/-! which body -/
def bdT (mv k : Nat) : Int32 := ([10, 11, 12, 20, 11, 12, 10, 30, 12, 40, 11, 12, 51, 11, 50, 10, 30, 60, 70, 71, 12] : List Int32).getD (3 * k + mv) 0
theorem bt6 {k : Nat} (hk : k < 7) : bt (nI k) 0 6 = true := decide_eq_true ⟨nI_pos (by omega), by rw [lt_cn (c := 6) (k := 6) rfl (by omega) (by decide)]; omega⟩
theorem ik3 {k : Nat} (hk : k < 7) (ν : gN) : f_X3_isKind (nI k) ν = some (1, ν) := by
  rw [f_X3_isKind, bw8, bt6 hk]; rfl
theorem bd_1 {mv k i n : Nat} {K : gN → Option (Int32 × gN)} {ν : gN} (hm : mv < 3) (hk : k < 7) (hi : i < 7) : f_X1_bodyOf_L4 (nI mv) K (n + 1) (nI k) (nI i) ν = if g_tB (k * 3 + mv) = 0 then f_X1_bodyOf_L4 (nI mv) K n (g_tA k) (nI (i + 1)) ν else some (g_tB (k * 3 + mv), ν) := by
  have e : nI k * 3 + nI mv = nI (k * 3 + mv) := by rw [show (3 : Int32) = nI 3 from rfl, nI_mul, nI_add]
  rw [f_X1_bodyOf_L4, if_neg (by rw [le_cn (c := 7) (k := 7) rfl (by omega) (by decide)]; omega), ik3 hk, Option.bind_some, if_neg (show ¬ (1 : Int32) = 0 by decide), e, if_pos (ib_in (show k * 3 + mv < 21 by omega) (by decide)), nI_clamp (by omega), nI_1]
  by_cases z : g_tB (k * 3 + mv) = 0
  · rw [if_pos z, if_pos z, f_X3_nextAbove]
    show ((f_X3_isKind (nI k) ν).bind _).bind _ = _
    rw [ik3 hk, Option.bind_some, if_neg (show ¬ (1 : Int32) = 0 by decide), if_pos (ib_in hk (by decide)), nI_clamp (by omega)]; rfl
  · rw [if_neg z, if_neg z]
theorem bd_of {mv k : Nat} (ν : gN) (hm : mv < 3) (hk : k < 7) : f_X1_bodyOf (nI mv) (nI k) ν = some (bdT mv k, ν) := by
  rw [f_X1_bodyOf]
  obtain ⟨n, hn⟩ : ∃ n, FU = n + 4 := ⟨99996, rfl⟩
  rw [hn]
  show f_X1_bodyOf_L4 (nI mv) _ (n + 4) (nI k) (nI 0) ν = _
  have hm' : mv = 0 ∨ mv = 1 ∨ mv = 2 := by omega
  have hk' : k = 0 ∨ k = 1 ∨ k = 2 ∨ k = 3 ∨ k = 4 ∨ k = 5 ∨ k = 6 := by omega
  rcases hm' with rfl | rfl | rfl <;> rcases hk' with rfl | rfl | rfl | rfl | rfl | rfl | rfl
  · rw [bd_1 (by decide) (by decide) (by decide), if_neg (by decide)]
    rfl
  · rw [bd_1 (by decide) (by decide) (by decide), if_neg (by decide)]
    rfl
  · rw [bd_1 (by decide) (by decide) (by decide), if_pos (by decide)]
    show f_X1_bodyOf_L4 (nI 0) _ (n + 3) (nI 0) (nI 1) ν = _
    rw [bd_1 (by decide) (by decide) (by decide), if_neg (by decide)]
    rfl
  · rw [bd_1 (by decide) (by decide) (by decide), if_neg (by decide)]
    rfl
  · rw [bd_1 (by decide) (by decide) (by decide), if_neg (by decide)]
    rfl
  · rw [bd_1 (by decide) (by decide) (by decide), if_pos (by decide)]
    show f_X1_bodyOf_L4 (nI 0) _ (n + 3) (nI 2) (nI 1) ν = _
    rw [bd_1 (by decide) (by decide) (by decide), if_pos (by decide)]
    show f_X1_bodyOf_L4 (nI 0) _ (n + 2) (nI 0) (nI 2) ν = _
    rw [bd_1 (by decide) (by decide) (by decide), if_neg (by decide)]
    rfl
  · rw [bd_1 (by decide) (by decide) (by decide), if_neg (by decide)]
    rfl
  · rw [bd_1 (by decide) (by decide) (by decide), if_neg (by decide)]
    rfl
  · rw [bd_1 (by decide) (by decide) (by decide), if_pos (by decide)]
    show f_X1_bodyOf_L4 (nI 1) _ (n + 3) (nI 0) (nI 1) ν = _
    rw [bd_1 (by decide) (by decide) (by decide), if_neg (by decide)]
    rfl
  · rw [bd_1 (by decide) (by decide) (by decide), if_neg (by decide)]
    rfl
  · rw [bd_1 (by decide) (by decide) (by decide), if_pos (by decide)]
    show f_X1_bodyOf_L4 (nI 1) _ (n + 3) (nI 1) (nI 1) ν = _
    rw [bd_1 (by decide) (by decide) (by decide), if_pos (by decide)]
    show f_X1_bodyOf_L4 (nI 1) _ (n + 2) (nI 0) (nI 2) ν = _
    rw [bd_1 (by decide) (by decide) (by decide), if_neg (by decide)]
    rfl
  · rw [bd_1 (by decide) (by decide) (by decide), if_pos (by decide)]
    show f_X1_bodyOf_L4 (nI 1) _ (n + 3) (nI 0) (nI 1) ν = _
    rw [bd_1 (by decide) (by decide) (by decide), if_neg (by decide)]
    rfl
  · rw [bd_1 (by decide) (by decide) (by decide), if_pos (by decide)]
    show f_X1_bodyOf_L4 (nI 1) _ (n + 3) (nI 2) (nI 1) ν = _
    rw [bd_1 (by decide) (by decide) (by decide), if_neg (by decide)]
    rfl
  · rw [bd_1 (by decide) (by decide) (by decide), if_neg (by decide)]
    rfl
  · rw [bd_1 (by decide) (by decide) (by decide), if_neg (by decide)]
    rfl
  · rw [bd_1 (by decide) (by decide) (by decide), if_pos (by decide)]
    show f_X1_bodyOf_L4 (nI 2) _ (n + 3) (nI 0) (nI 1) ν = _
    rw [bd_1 (by decide) (by decide) (by decide), if_neg (by decide)]
    rfl
  · rw [bd_1 (by decide) (by decide) (by decide), if_pos (by decide)]
    show f_X1_bodyOf_L4 (nI 2) _ (n + 3) (nI 0) (nI 1) ν = _
    rw [bd_1 (by decide) (by decide) (by decide), if_neg (by decide)]
    rfl
  · rw [bd_1 (by decide) (by decide) (by decide), if_pos (by decide)]
    show f_X1_bodyOf_L4 (nI 2) _ (n + 3) (nI 1) (nI 1) ν = _
    rw [bd_1 (by decide) (by decide) (by decide), if_pos (by decide)]
    show f_X1_bodyOf_L4 (nI 2) _ (n + 2) (nI 0) (nI 2) ν = _
    rw [bd_1 (by decide) (by decide) (by decide), if_neg (by decide)]
    rfl
  · rw [bd_1 (by decide) (by decide) (by decide), if_neg (by decide)]
    rfl
  · rw [bd_1 (by decide) (by decide) (by decide), if_neg (by decide)]
    rfl
  · rw [bd_1 (by decide) (by decide) (by decide), if_pos (by decide)]
    show f_X1_bodyOf_L4 (nI 2) _ (n + 3) (nI 3) (nI 1) ν = _
    rw [bd_1 (by decide) (by decide) (by decide), if_pos (by decide)]
    show f_X1_bodyOf_L4 (nI 2) _ (n + 2) (nI 1) (nI 2) ν = _
    rw [bd_1 (by decide) (by decide) (by decide), if_pos (by decide)]
    show f_X1_bodyOf_L4 (nI 2) _ (n + 1) (nI 0) (nI 3) ν = _
    rw [bd_1 (by decide) (by decide) (by decide), if_neg (by decide)]
    rfl
/-! the class -/
def D8 (me a : Int32) (K : Nat) (T : Nat × (Nat → Int32)) (ν : gN) : Prop := ν.1 35 1 = nI T.1 ∧ (∀ i, i < 20 → i < T.1 → ν.1 36 i = T.2 i) ∧ ν.1 35 2 = me ∧ ν.1 35 3 = a ∧ ν.1 35 4 = nI K
theorem note8 {me a t : Int32} {K : Nat} {T : Nat × (Nat → Int32)} {ν : gN} (h : D8 me a K T ν) (hT : T.1 < 1000) : ∃ ν', f_X1_note t ν = some ν' ∧ D8 me a K (psh t T) ν' ∧ nEq (fun q => q = 35 ∨ q = 36) ν ν' := by
  obtain ⟨h1, h2, h3, h4, h5⟩ := h
  by_cases z : 20 ≤ T.1
  · refine ⟨nWI ν 35 1 (nI (T.1 + 1)), ?_, ⟨wi_eq _ _ _ _, fun i hi hi2 => ?_, ?_, ?_, ?_⟩, nEq.rf.wi (Or.inl rfl)⟩
    · rw [f_X1_note, h1, if_pos (show (20 : Int32) ≤ nI T.1 from nI_le (a := 20) z (by omega)), ql, nI_1]
    · rw [wi_ne (by omega)]
      show _ = if i = T.1 then t else T.2 i
      rw [if_neg (by omega)]
      exact h2 i hi (by omega)
    · rw [wi_ne (by omega)]; exact h3
    · rw [wi_ne (by omega)]; exact h4
    · rw [wi_ne (by omega)]; exact h5
  · refine ⟨nWI (nWI ν 36 T.1 t) 35 1 (nI (T.1 + 1)), ?_, ⟨wi_eq _ _ _ _, fun i hi hi2 => ?_, ?_, ?_, ?_⟩, (nEq.rf.wi (P := fun q => q = 35 ∨ q = 36) (Or.inr rfl)).wi (Or.inl rfl)⟩
    · rw [f_X1_note, h1, if_neg (show ¬ (20 : Int32) ≤ nI T.1 from nI_ge (b := 20) (by omega) (by decide)), if_pos (ib_in (by omega) (by decide)), nI_clamp (by omega), ql, ql, wi_ne (by omega), h1, nI_1]
    · rw [wi_ne (by omega)]
      show _ = if i = T.1 then t else T.2 i
      by_cases e : i = T.1
      · rw [if_pos e, e, wi_eq]
      · rw [if_neg e, wi_ne (by omega)]
        have : (psh t T).1 = T.1 + 1 := rfl
        exact h2 i hi (by omega)
    · rw [wi_ne (by omega), wi_ne (by omega)]; exact h3
    · rw [wi_ne (by omega), wi_ne (by omega)]; exact h4
    · rw [wi_ne (by omega), wi_ne (by omega)]; exact h5
theorem bg_10 {me a v : Int32} {K mv k n dd : Nat} {T : Nat × (Nat → Int32)} {ν : gN} (hm : mv < 3) (hk : k < 7) (hb : bdT mv k = 10) (hd : dd ≤ 20) (h : D8 me a K T ν) (hT : T.1 < 1000) : ∃ ν1, f_X1_begin (n + 1) (nI mv) (nI k) v (nI dd) ν = some (v + me, ν1) ∧ D8 me a K (psh 10 T) ν1 ∧ nEq (fun q => q = 35 ∨ q = 36) ν ν1 := by
  obtain ⟨ν1, e1, e2, e3⟩ := note8 (t := 10) h hT
  refine ⟨ν1, ?_, e2, e3⟩
  rw [f_X1_begin, if_pos (show nI dd ≤ (20 : Int32) from nI_le (b := 20) hd (by decide)), bd_of ν hm hk, hb]
  simp only [Option.bind_some, e1, ↓reduceIte, nI_1, e2.2.2.1, show ((10 : Int32) = 10) = True from by decide]
theorem bg_11 {me a v : Int32} {K mv k n dd : Nat} {T : Nat × (Nat → Int32)} {ν : gN} (hm : mv < 3) (hk : k < 7) (hb : bdT mv k = 11) (hd : dd ≤ 20) (h : D8 me a K T ν) (hT : T.1 < 1000) : ∃ ν1, f_X1_begin (n + 1) (nI mv) (nI k) v (nI dd) ν = (f_X1_begin n 0 (nI K) v (nI (dd + 1)) ν1).bind (fun r => some (r.1 * 2, r.2)) ∧ D8 me a K (psh 11 T) ν1 ∧ nEq (fun q => q = 35 ∨ q = 36) ν ν1 := by
  obtain ⟨ν1, e1, e2, e3⟩ := note8 (t := 11) h hT
  refine ⟨ν1, ?_, e2, e3⟩
  rw [f_X1_begin, if_pos (show nI dd ≤ (20 : Int32) from nI_le (b := 20) hd (by decide)), bd_of ν hm hk, hb]
  simp only [Option.bind_some, e1, ↓reduceIte, nI_1, h.2.2.2.2, show ((11 : Int32) = 10) = False from by decide, show ((11 : Int32) = 11) = True from by decide]
theorem bg_12 {me a v : Int32} {K mv k n dd : Nat} {T : Nat × (Nat → Int32)} {ν : gN} (hm : mv < 3) (hk : k < 7) (hb : bdT mv k = 12) (hd : dd ≤ 20) (h : D8 me a K T ν) (hT : T.1 < 1000) : ∃ ν1, f_X1_begin (n + 1) (nI mv) (nI k) v (nI dd) ν = (f_X1_begin n 1 (nI K) v (nI (dd + 1)) ν1).bind (fun r => (f_X1_begin n 0 (nI K) (v - (r.2.1 35 3)) (nI (dd + 1)) r.2).bind (fun r2 => some (r.1 ^^^ r2.1, r2.2))) ∧ D8 me a K (psh 12 T) ν1 ∧ nEq (fun q => q = 35 ∨ q = 36) ν ν1 := by
  obtain ⟨ν1, e1, e2, e3⟩ := note8 (t := 12) h hT
  refine ⟨ν1, ?_, e2, e3⟩
  rw [f_X1_begin, if_pos (show nI dd ≤ (20 : Int32) from nI_le (b := 20) hd (by decide)), bd_of ν hm hk, hb]
  simp only [Option.bind_some, e1, ↓reduceIte, nI_1, h.2.2.2.2, show ((12 : Int32) = 10) = False from by decide, show ((12 : Int32) = 11) = False from by decide, show ((12 : Int32) = 12) = True from by decide]
theorem bg_20 {me a v : Int32} {K mv k n dd : Nat} {T : Nat × (Nat → Int32)} {ν : gN} (hm : mv < 3) (hk : k < 7) (hb : bdT mv k = 20) (hd : dd ≤ 20) (h : D8 me a K T ν) (hT : T.1 < 1000) : ∃ ν1, f_X1_begin (n + 1) (nI mv) (nI k) v (nI dd) ν = (f_X1_begin n 0 0 v (nI (dd + 1)) ν1).bind (fun r => some (r.1 + (r.2.1 35 3), r.2)) ∧ D8 me a K (psh 20 T) ν1 ∧ nEq (fun q => q = 35 ∨ q = 36) ν ν1 := by
  obtain ⟨ν1, e1, e2, e3⟩ := note8 (t := 20) h hT
  refine ⟨ν1, ?_, e2, e3⟩
  rw [f_X1_begin, if_pos (show nI dd ≤ (20 : Int32) from nI_le (b := 20) hd (by decide)), bd_of ν hm hk, hb]
  simp only [Option.bind_some, e1, ↓reduceIte, nI_1, show ((20 : Int32) = 10) = False from by decide, show ((20 : Int32) = 11) = False from by decide, show ((20 : Int32) = 12) = False from by decide, show ((20 : Int32) = 20) = True from by decide]
theorem bg_30 {me a v : Int32} {K mv k n dd : Nat} {T : Nat × (Nat → Int32)} {ν : gN} (hm : mv < 3) (hk : k < 7) (hb : bdT mv k = 30) (hd : dd ≤ 20) (h : D8 me a K T ν) (hT : T.1 < 1000) : ∃ ν1, f_X1_begin (n + 1) (nI mv) (nI k) v (nI dd) ν = (f_X1_begin n 1 0 v (nI (dd + 1)) ν1).bind (fun r => some (r.1 * 3, r.2)) ∧ D8 me a K (psh 30 T) ν1 ∧ nEq (fun q => q = 35 ∨ q = 36) ν ν1 := by
  obtain ⟨ν1, e1, e2, e3⟩ := note8 (t := 30) h hT
  refine ⟨ν1, ?_, e2, e3⟩
  rw [f_X1_begin, if_pos (show nI dd ≤ (20 : Int32) from nI_le (b := 20) hd (by decide)), bd_of ν hm hk, hb]
  simp only [Option.bind_some, e1, ↓reduceIte, nI_1, show ((30 : Int32) = 10) = False from by decide, show ((30 : Int32) = 11) = False from by decide, show ((30 : Int32) = 12) = False from by decide, show ((30 : Int32) = 20) = False from by decide, show ((30 : Int32) = 30) = True from by decide]
theorem bg_40 {me a v : Int32} {K mv k n dd : Nat} {T : Nat × (Nat → Int32)} {ν : gN} (hm : mv < 3) (hk : k < 7) (hb : bdT mv k = 40) (hd : dd ≤ 20) (h : D8 me a K T ν) (hT : T.1 < 1000) : ∃ ν1, f_X1_begin (n + 1) (nI mv) (nI k) v (nI dd) ν = (f_X1_begin n 0 1 (v + 1) (nI (dd + 1)) ν1).bind (fun r => some (r.1, r.2)) ∧ D8 me a K (psh 40 T) ν1 ∧ nEq (fun q => q = 35 ∨ q = 36) ν ν1 := by
  obtain ⟨ν1, e1, e2, e3⟩ := note8 (t := 40) h hT
  refine ⟨ν1, ?_, e2, e3⟩
  rw [f_X1_begin, if_pos (show nI dd ≤ (20 : Int32) from nI_le (b := 20) hd (by decide)), bd_of ν hm hk, hb]
  simp only [Option.bind_some, e1, ↓reduceIte, nI_1, show ((40 : Int32) = 10) = False from by decide, show ((40 : Int32) = 11) = False from by decide, show ((40 : Int32) = 12) = False from by decide, show ((40 : Int32) = 20) = False from by decide, show ((40 : Int32) = 30) = False from by decide, show ((40 : Int32) = 40) = True from by decide]
theorem bg_50 {me a v : Int32} {K mv k n dd : Nat} {T : Nat × (Nat → Int32)} {ν : gN} (hm : mv < 3) (hk : k < 7) (hb : bdT mv k = 50) (hd : dd ≤ 20) (h : D8 me a K T ν) (hT : T.1 < 1000) : ∃ ν1, f_X1_begin (n + 1) (nI mv) (nI k) v (nI dd) ν = (f_X1_begin n 2 0 v (nI (dd + 1)) ν1).bind (fun r => some (-r.1, r.2)) ∧ D8 me a K (psh 50 T) ν1 ∧ nEq (fun q => q = 35 ∨ q = 36) ν ν1 := by
  obtain ⟨ν1, e1, e2, e3⟩ := note8 (t := 50) h hT
  refine ⟨ν1, ?_, e2, e3⟩
  rw [f_X1_begin, if_pos (show nI dd ≤ (20 : Int32) from nI_le (b := 20) hd (by decide)), bd_of ν hm hk, hb]
  simp only [Option.bind_some, e1, ↓reduceIte, nI_1, show ((50 : Int32) = 10) = False from by decide, show ((50 : Int32) = 11) = False from by decide, show ((50 : Int32) = 12) = False from by decide, show ((50 : Int32) = 20) = False from by decide, show ((50 : Int32) = 30) = False from by decide, show ((50 : Int32) = 40) = False from by decide, show ((50 : Int32) = 50) = True from by decide]
theorem bg_51 {me a v : Int32} {K mv k n dd : Nat} {T : Nat × (Nat → Int32)} {ν : gN} (hm : mv < 3) (hk : k < 7) (hb : bdT mv k = 51) (hd : dd ≤ 20) (h : D8 me a K T ν) (hT : T.1 < 1000) : ∃ ν1, f_X1_begin (n + 1) (nI mv) (nI k) v (nI dd) ν = (f_X1_begin n 0 0 v (nI (dd + 1)) ν1).bind (fun r => some (r.1 - (r.2.1 35 2), r.2)) ∧ D8 me a K (psh 51 T) ν1 ∧ nEq (fun q => q = 35 ∨ q = 36) ν ν1 := by
  obtain ⟨ν1, e1, e2, e3⟩ := note8 (t := 51) h hT
  refine ⟨ν1, ?_, e2, e3⟩
  rw [f_X1_begin, if_pos (show nI dd ≤ (20 : Int32) from nI_le (b := 20) hd (by decide)), bd_of ν hm hk, hb]
  simp only [Option.bind_some, e1, ↓reduceIte, nI_1, show ((51 : Int32) = 10) = False from by decide, show ((51 : Int32) = 11) = False from by decide, show ((51 : Int32) = 12) = False from by decide, show ((51 : Int32) = 20) = False from by decide, show ((51 : Int32) = 30) = False from by decide, show ((51 : Int32) = 40) = False from by decide, show ((51 : Int32) = 50) = False from by decide, show ((51 : Int32) = 51) = True from by decide]
theorem bg_60 {me a v : Int32} {K mv k n dd : Nat} {T : Nat × (Nat → Int32)} {ν : gN} (hm : mv < 3) (hk : k < 7) (hb : bdT mv k = 60) (hd : dd ≤ 20) (h : D8 me a K T ν) (hT : T.1 < 1000) : ∃ ν1, f_X1_begin (n + 1) (nI mv) (nI k) v (nI dd) ν = (f_X1_begin n 2 2 v (nI (dd + 1)) ν1).bind (fun r => some (r.1 ^^^ 5, r.2)) ∧ D8 me a K (psh 60 T) ν1 ∧ nEq (fun q => q = 35 ∨ q = 36) ν ν1 := by
  obtain ⟨ν1, e1, e2, e3⟩ := note8 (t := 60) h hT
  refine ⟨ν1, ?_, e2, e3⟩
  rw [f_X1_begin, if_pos (show nI dd ≤ (20 : Int32) from nI_le (b := 20) hd (by decide)), bd_of ν hm hk, hb]
  simp only [Option.bind_some, e1, ↓reduceIte, nI_1, show ((60 : Int32) = 10) = False from by decide, show ((60 : Int32) = 11) = False from by decide, show ((60 : Int32) = 12) = False from by decide, show ((60 : Int32) = 20) = False from by decide, show ((60 : Int32) = 30) = False from by decide, show ((60 : Int32) = 40) = False from by decide, show ((60 : Int32) = 50) = False from by decide, show ((60 : Int32) = 51) = False from by decide, show ((60 : Int32) = 60) = True from by decide]
theorem bg_70 {me a v : Int32} {K mv k n dd : Nat} {T : Nat × (Nat → Int32)} {ν : gN} (hm : mv < 3) (hk : k < 7) (hb : bdT mv k = 70) (hd : dd ≤ 20) (h : D8 me a K T ν) (hT : T.1 < 1000) : ∃ ν1, f_X1_begin (n + 1) (nI mv) (nI k) v (nI dd) ν = (f_X1_begin n 0 3 v (nI (dd + 1)) ν1).bind (fun r => some (r.1 * 2, r.2)) ∧ D8 me a K (psh 70 T) ν1 ∧ nEq (fun q => q = 35 ∨ q = 36) ν ν1 := by
  obtain ⟨ν1, e1, e2, e3⟩ := note8 (t := 70) h hT
  refine ⟨ν1, ?_, e2, e3⟩
  rw [f_X1_begin, if_pos (show nI dd ≤ (20 : Int32) from nI_le (b := 20) hd (by decide)), bd_of ν hm hk, hb]
  simp only [Option.bind_some, e1, ↓reduceIte, nI_1, show ((70 : Int32) = 10) = False from by decide, show ((70 : Int32) = 11) = False from by decide, show ((70 : Int32) = 12) = False from by decide, show ((70 : Int32) = 20) = False from by decide, show ((70 : Int32) = 30) = False from by decide, show ((70 : Int32) = 40) = False from by decide, show ((70 : Int32) = 50) = False from by decide, show ((70 : Int32) = 51) = False from by decide, show ((70 : Int32) = 60) = False from by decide, show ((70 : Int32) = 70) = True from by decide]
theorem bg_71 {me a v : Int32} {K mv k n dd : Nat} {T : Nat × (Nat → Int32)} {ν : gN} (hm : mv < 3) (hk : k < 7) (hb : bdT mv k = 71) (hd : dd ≤ 20) (h : D8 me a K T ν) (hT : T.1 < 1000) : ∃ ν1, f_X1_begin (n + 1) (nI mv) (nI k) v (nI dd) ν = (f_X1_begin n 1 3 (v - a) (nI (dd + 1)) ν1).bind (fun r => some (r.1, r.2)) ∧ D8 me a K (psh 71 T) ν1 ∧ nEq (fun q => q = 35 ∨ q = 36) ν ν1 := by
  obtain ⟨ν1, e1, e2, e3⟩ := note8 (t := 71) h hT
  refine ⟨ν1, ?_, e2, e3⟩
  rw [f_X1_begin, if_pos (show nI dd ≤ (20 : Int32) from nI_le (b := 20) hd (by decide)), bd_of ν hm hk, hb]
  simp only [Option.bind_some, e1, ↓reduceIte, nI_1, e2.2.2.2.1, show ((71 : Int32) = 10) = False from by decide, show ((71 : Int32) = 11) = False from by decide, show ((71 : Int32) = 12) = False from by decide, show ((71 : Int32) = 20) = False from by decide, show ((71 : Int32) = 30) = False from by decide, show ((71 : Int32) = 40) = False from by decide, show ((71 : Int32) = 50) = False from by decide, show ((71 : Int32) = 51) = False from by decide, show ((71 : Int32) = 60) = False from by decide, show ((71 : Int32) = 70) = False from by decide, show ((71 : Int32) = 71) = True from by decide]
theorem b8_r0 {me a v : Int32} {K n dd : Nat} {T : Nat × (Nat → Int32)} {ν : gN} (hK : K < 7) (hd : dd ≤ 16) (h : D8 me a K T ν) (hT : T.1 < 995) : ∃ ν', f_X1_begin (n + 1) 0 (nI 0) v (nI dd) ν = some (ruV me a 0 v, ν') ∧ D8 me a K (psl (ruL 0) T) ν' ∧ nEq (fun q => q = 35 ∨ q = 36) ν ν' := by
  obtain ⟨ν1, e1, e2, e3⟩ := bg_10 (mv := 0) (k := 0) (n := n) (v := v) (dd := dd) (by decide) (by decide) rfl (by omega) h (by omega)
  exact ⟨ν1, e1, e2, e3⟩
theorem b8_r2 {me a v : Int32} {K n dd : Nat} {T : Nat × (Nat → Int32)} {ν : gN} (hK : K < 7) (hd : dd ≤ 16) (h : D8 me a K T ν) (hT : T.1 < 995) : ∃ ν', f_X1_begin (n + 1) 0 (nI 2) v (nI dd) ν = some (ruV me a 2 v, ν') ∧ D8 me a K (psl (ruL 2) T) ν' ∧ nEq (fun q => q = 35 ∨ q = 36) ν ν' := by
  obtain ⟨ν1, e1, e2, e3⟩ := bg_10 (mv := 0) (k := 2) (n := n) (v := v) (dd := dd) (by decide) (by decide) rfl (by omega) h (by omega)
  exact ⟨ν1, e1, e2, e3⟩
theorem b8_r5 {me a v : Int32} {K n dd : Nat} {T : Nat × (Nat → Int32)} {ν : gN} (hK : K < 7) (hd : dd ≤ 16) (h : D8 me a K T ν) (hT : T.1 < 995) : ∃ ν', f_X1_begin (n + 1) 0 (nI 5) v (nI dd) ν = some (ruV me a 5 v, ν') ∧ D8 me a K (psl (ruL 5) T) ν' ∧ nEq (fun q => q = 35 ∨ q = 36) ν ν' := by
  obtain ⟨ν1, e1, e2, e3⟩ := bg_10 (mv := 0) (k := 5) (n := n) (v := v) (dd := dd) (by decide) (by decide) rfl (by omega) h (by omega)
  exact ⟨ν1, e1, e2, e3⟩
theorem b8_r1 {me a v : Int32} {K n dd : Nat} {T : Nat × (Nat → Int32)} {ν : gN} (hK : K < 7) (hd : dd ≤ 15) (h : D8 me a K T ν) (hT : T.1 < 994) : ∃ ν', f_X1_begin (n + 2) 0 (nI 1) v (nI dd) ν = some (ruV me a 1 v, ν') ∧ D8 me a K (psl (ruL 1) T) ν' ∧ nEq (fun q => q = 35 ∨ q = 36) ν ν' := by
  obtain ⟨ν1, e1, e2, e3⟩ := bg_20 (mv := 0) (k := 1) (n := n + 1) (v := v) (dd := dd) (by decide) (by decide) rfl (by omega) h (by omega)
  have hT1 : (psh 20 T).1 = T.1 + 1 := rfl
  obtain ⟨ν2, f1, f2, f3⟩ := b8_r0 (n := n) (v := v) (dd := dd + 1) hK (by omega) e2 (by omega)
  refine ⟨ν2, ?_, f2, e3.tr f3⟩
  refine Eq.trans e1 (Eq.trans (congrArg (fun o => Option.bind o _) f1) ?_)
  rw [Option.bind_some, f2.2.2.2.1]; rfl
theorem b8_r4 {me a v : Int32} {K n dd : Nat} {T : Nat × (Nat → Int32)} {ν : gN} (hK : K < 7) (hd : dd ≤ 15) (h : D8 me a K T ν) (hT : T.1 < 994) : ∃ ν', f_X1_begin (n + 2) 0 (nI 4) v (nI dd) ν = some (ruV me a 4 v, ν') ∧ D8 me a K (psl (ruL 4) T) ν' ∧ nEq (fun q => q = 35 ∨ q = 36) ν ν' := by
  obtain ⟨ν1, e1, e2, e3⟩ := bg_51 (mv := 0) (k := 4) (n := n + 1) (v := v) (dd := dd) (by decide) (by decide) rfl (by omega) h (by omega)
  have hT1 : (psh 51 T).1 = T.1 + 1 := rfl
  obtain ⟨ν2, f1, f2, f3⟩ := b8_r0 (n := n) (v := v) (dd := dd + 1) hK (by omega) e2 (by omega)
  refine ⟨ν2, ?_, f2, e3.tr f3⟩
  refine Eq.trans e1 (Eq.trans (congrArg (fun o => Option.bind o _) f1) ?_)
  rw [Option.bind_some, f2.2.2.1]; rfl
theorem b8_r3 {me a v : Int32} {K n dd : Nat} {T : Nat × (Nat → Int32)} {ν : gN} (hK : K < 7) (hd : dd ≤ 14) (h : D8 me a K T ν) (hT : T.1 < 993) : ∃ ν', f_X1_begin (n + 3) 0 (nI 3) v (nI dd) ν = some (ruV me a 3 v, ν') ∧ D8 me a K (psl (ruL 3) T) ν' ∧ nEq (fun q => q = 35 ∨ q = 36) ν ν' := by
  obtain ⟨ν1, e1, e2, e3⟩ := bg_40 (mv := 0) (k := 3) (n := n + 2) (v := v) (dd := dd) (by decide) (by decide) rfl (by omega) h (by omega)
  have hT1 : (psh 40 T).1 = T.1 + 1 := rfl
  obtain ⟨ν2, f1, f2, f3⟩ := b8_r1 (n := n) (v := v + 1) (dd := dd + 1) hK (by omega) e2 (by omega)
  refine ⟨ν2, ?_, f2, e3.tr f3⟩
  refine Eq.trans e1 (Eq.trans (congrArg (fun o => Option.bind o _) f1) ?_)
  rfl
theorem b8_r6 {me a v : Int32} {K n dd : Nat} {T : Nat × (Nat → Int32)} {ν : gN} (hK : K < 7) (hd : dd ≤ 13) (h : D8 me a K T ν) (hT : T.1 < 992) : ∃ ν', f_X1_begin (n + 4) 0 (nI 6) v (nI dd) ν = some (ruV me a 6 v, ν') ∧ D8 me a K (psl (ruL 6) T) ν' ∧ nEq (fun q => q = 35 ∨ q = 36) ν ν' := by
  obtain ⟨ν1, e1, e2, e3⟩ := bg_70 (mv := 0) (k := 6) (n := n + 3) (v := v) (dd := dd) (by decide) (by decide) rfl (by omega) h (by omega)
  have hT1 : (psh 70 T).1 = T.1 + 1 := rfl
  obtain ⟨ν2, f1, f2, f3⟩ := b8_r3 (n := n) (v := v) (dd := dd + 1) hK (by omega) e2 (by omega)
  refine ⟨ν2, ?_, f2, e3.tr f3⟩
  refine Eq.trans e1 (Eq.trans (congrArg (fun o => Option.bind o _) f1) ?_)
  rfl
theorem b8_r {me a v : Int32} {K n dd k : Nat} {T : Nat × (Nat → Int32)} {ν : gN} (hk : k < 7) (hK : K < 7) (hd : dd ≤ 13) (h : D8 me a K T ν) (hT : T.1 < 992) : ∃ ν', f_X1_begin (n + 4) 0 (nI k) v (nI dd) ν = some (ruV me a k v, ν') ∧ D8 me a K (psl (ruL k) T) ν' ∧ nEq (fun q => q = 35 ∨ q = 36) ν ν' := by
  have hk' : k = 0 ∨ k = 1 ∨ k = 2 ∨ k = 3 ∨ k = 4 ∨ k = 5 ∨ k = 6 := by omega
  rcases hk' with rfl | rfl | rfl | rfl | rfl | rfl | rfl
  · exact b8_r0 (n := n + 3) hK (by omega) h (by omega)
  · exact b8_r1 (n := n + 2) hK (by omega) h (by omega)
  · exact b8_r2 (n := n + 3) hK (by omega) h (by omega)
  · exact b8_r3 (n := n + 1) hK (by omega) h (by omega)
  · exact b8_r4 (n := n + 2) hK (by omega) h (by omega)
  · exact b8_r5 (n := n + 3) hK (by omega) h (by omega)
  · exact b8_r6 (n := n) hK (by omega) h (by omega)
theorem b8_h0 {me a v : Int32} {K n dd : Nat} {T : Nat × (Nat → Int32)} {ν : gN} (hK : K < 7) (hd : dd ≤ 12) (h : D8 me a K T ν) (hT : T.1 < 991) : ∃ ν', f_X1_begin (n + 5) 1 (nI 0) v (nI dd) ν = some (hiV me a K 0 v, ν') ∧ D8 me a K (psl (hiL K 0) T) ν' ∧ nEq (fun q => q = 35 ∨ q = 36) ν ν' := by
  obtain ⟨ν1, e1, e2, e3⟩ := bg_11 (mv := 1) (k := 0) (n := n + 4) (v := v) (dd := dd) (by decide) (by decide) rfl (by omega) h (by omega)
  have hT1 : (psh 11 T).1 = T.1 + 1 := rfl
  obtain ⟨ν2, f1, f2, f3⟩ := b8_r (n := n) (v := v) (dd := dd + 1) hK hK (by omega) e2 (by omega)
  refine ⟨ν2, ?_, f2, e3.tr f3⟩
  refine Eq.trans e1 (Eq.trans (congrArg (fun o => Option.bind o _) f1) ?_)
  rfl
theorem b8_h1 {me a v : Int32} {K n dd : Nat} {T : Nat × (Nat → Int32)} {ν : gN} (hK : K < 7) (hd : dd ≤ 12) (h : D8 me a K T ν) (hT : T.1 < 991) : ∃ ν', f_X1_begin (n + 5) 1 (nI 1) v (nI dd) ν = some (hiV me a K 1 v, ν') ∧ D8 me a K (psl (hiL K 1) T) ν' ∧ nEq (fun q => q = 35 ∨ q = 36) ν ν' := by
  obtain ⟨ν1, e1, e2, e3⟩ := bg_11 (mv := 1) (k := 1) (n := n + 4) (v := v) (dd := dd) (by decide) (by decide) rfl (by omega) h (by omega)
  have hT1 : (psh 11 T).1 = T.1 + 1 := rfl
  obtain ⟨ν2, f1, f2, f3⟩ := b8_r (n := n) (v := v) (dd := dd + 1) hK hK (by omega) e2 (by omega)
  refine ⟨ν2, ?_, f2, e3.tr f3⟩
  refine Eq.trans e1 (Eq.trans (congrArg (fun o => Option.bind o _) f1) ?_)
  rfl
theorem b8_h3 {me a v : Int32} {K n dd : Nat} {T : Nat × (Nat → Int32)} {ν : gN} (hK : K < 7) (hd : dd ≤ 12) (h : D8 me a K T ν) (hT : T.1 < 991) : ∃ ν', f_X1_begin (n + 5) 1 (nI 3) v (nI dd) ν = some (hiV me a K 3 v, ν') ∧ D8 me a K (psl (hiL K 3) T) ν' ∧ nEq (fun q => q = 35 ∨ q = 36) ν ν' := by
  obtain ⟨ν1, e1, e2, e3⟩ := bg_11 (mv := 1) (k := 3) (n := n + 4) (v := v) (dd := dd) (by decide) (by decide) rfl (by omega) h (by omega)
  have hT1 : (psh 11 T).1 = T.1 + 1 := rfl
  obtain ⟨ν2, f1, f2, f3⟩ := b8_r (n := n) (v := v) (dd := dd + 1) hK hK (by omega) e2 (by omega)
  refine ⟨ν2, ?_, f2, e3.tr f3⟩
  refine Eq.trans e1 (Eq.trans (congrArg (fun o => Option.bind o _) f1) ?_)
  rfl
theorem b8_h4 {me a v : Int32} {K n dd : Nat} {T : Nat × (Nat → Int32)} {ν : gN} (hK : K < 7) (hd : dd ≤ 12) (h : D8 me a K T ν) (hT : T.1 < 991) : ∃ ν', f_X1_begin (n + 5) 1 (nI 4) v (nI dd) ν = some (hiV me a K 4 v, ν') ∧ D8 me a K (psl (hiL K 4) T) ν' ∧ nEq (fun q => q = 35 ∨ q = 36) ν ν' := by
  obtain ⟨ν1, e1, e2, e3⟩ := bg_11 (mv := 1) (k := 4) (n := n + 4) (v := v) (dd := dd) (by decide) (by decide) rfl (by omega) h (by omega)
  have hT1 : (psh 11 T).1 = T.1 + 1 := rfl
  obtain ⟨ν2, f1, f2, f3⟩ := b8_r (n := n) (v := v) (dd := dd + 1) hK hK (by omega) e2 (by omega)
  refine ⟨ν2, ?_, f2, e3.tr f3⟩
  refine Eq.trans e1 (Eq.trans (congrArg (fun o => Option.bind o _) f1) ?_)
  rfl
theorem b8_h2 {me a v : Int32} {K n dd : Nat} {T : Nat × (Nat → Int32)} {ν : gN} (hK : K < 7) (hd : dd ≤ 11) (h : D8 me a K T ν) (hT : T.1 < 990) : ∃ ν', f_X1_begin (n + 6) 1 (nI 2) v (nI dd) ν = some (hiV me a K 2 v, ν') ∧ D8 me a K (psl (hiL K 2) T) ν' ∧ nEq (fun q => q = 35 ∨ q = 36) ν ν' := by
  obtain ⟨ν1, e1, e2, e3⟩ := bg_30 (mv := 1) (k := 2) (n := n + 5) (v := v) (dd := dd) (by decide) (by decide) rfl (by omega) h (by omega)
  have hT1 : (psh 30 T).1 = T.1 + 1 := rfl
  obtain ⟨ν2, f1, f2, f3⟩ := b8_h0 (n := n) (v := v) (dd := dd + 1) hK (by omega) e2 (by omega)
  refine ⟨ν2, ?_, f2, e3.tr f3⟩
  refine Eq.trans e1 (Eq.trans (congrArg (fun o => Option.bind o _) f1) ?_)
  rfl
theorem b8_h5 {me a v : Int32} {K n dd : Nat} {T : Nat × (Nat → Int32)} {ν : gN} (hK : K < 7) (hd : dd ≤ 11) (h : D8 me a K T ν) (hT : T.1 < 990) : ∃ ν', f_X1_begin (n + 6) 1 (nI 5) v (nI dd) ν = some (hiV me a K 5 v, ν') ∧ D8 me a K (psl (hiL K 5) T) ν' ∧ nEq (fun q => q = 35 ∨ q = 36) ν ν' := by
  obtain ⟨ν1, e1, e2, e3⟩ := bg_30 (mv := 1) (k := 5) (n := n + 5) (v := v) (dd := dd) (by decide) (by decide) rfl (by omega) h (by omega)
  have hT1 : (psh 30 T).1 = T.1 + 1 := rfl
  obtain ⟨ν2, f1, f2, f3⟩ := b8_h0 (n := n) (v := v) (dd := dd + 1) hK (by omega) e2 (by omega)
  refine ⟨ν2, ?_, f2, e3.tr f3⟩
  refine Eq.trans e1 (Eq.trans (congrArg (fun o => Option.bind o _) f1) ?_)
  rfl
theorem b8_h6 {me a v : Int32} {K n dd : Nat} {T : Nat × (Nat → Int32)} {ν : gN} (hK : K < 7) (hd : dd ≤ 11) (h : D8 me a K T ν) (hT : T.1 < 990) : ∃ ν', f_X1_begin (n + 6) 1 (nI 6) v (nI dd) ν = some (hiV me a K 6 v, ν') ∧ D8 me a K (psl (hiL K 6) T) ν' ∧ nEq (fun q => q = 35 ∨ q = 36) ν ν' := by
  obtain ⟨ν1, e1, e2, e3⟩ := bg_71 (mv := 1) (k := 6) (n := n + 5) (v := v) (dd := dd) (by decide) (by decide) rfl (by omega) h (by omega)
  have hT1 : (psh 71 T).1 = T.1 + 1 := rfl
  obtain ⟨ν2, f1, f2, f3⟩ := b8_h3 (n := n) (v := v - a) (dd := dd + 1) hK (by omega) e2 (by omega)
  refine ⟨ν2, ?_, f2, e3.tr f3⟩
  refine Eq.trans e1 (Eq.trans (congrArg (fun o => Option.bind o _) f1) ?_)
  rfl
theorem b8_h {me a v : Int32} {K n dd k : Nat} {T : Nat × (Nat → Int32)} {ν : gN} (hk : k < 7) (hK : K < 7) (hd : dd ≤ 11) (h : D8 me a K T ν) (hT : T.1 < 990) : ∃ ν', f_X1_begin (n + 6) 1 (nI k) v (nI dd) ν = some (hiV me a K k v, ν') ∧ D8 me a K (psl (hiL K k) T) ν' ∧ nEq (fun q => q = 35 ∨ q = 36) ν ν' := by
  have hk' : k = 0 ∨ k = 1 ∨ k = 2 ∨ k = 3 ∨ k = 4 ∨ k = 5 ∨ k = 6 := by omega
  rcases hk' with rfl | rfl | rfl | rfl | rfl | rfl | rfl
  · exact b8_h0 (n := n + 1) hK (by omega) h (by omega)
  · exact b8_h1 (n := n + 1) hK (by omega) h (by omega)
  · exact b8_h2 (n := n) hK (by omega) h (by omega)
  · exact b8_h3 (n := n + 1) hK (by omega) h (by omega)
  · exact b8_h4 (n := n + 1) hK (by omega) h (by omega)
  · exact b8_h5 (n := n) hK (by omega) h (by omega)
  · exact b8_h6 (n := n) hK (by omega) h (by omega)
theorem b8_s0 {me a v : Int32} {K n dd : Nat} {T : Nat × (Nat → Int32)} {ν : gN} (hK : K < 7) (hd : dd ≤ 10) (h : D8 me a K T ν) (hT : T.1 < 970) : ∃ ν', f_X1_begin (n + 7) 2 (nI 0) v (nI dd) ν = some (siV me a K 0 v, ν') ∧ D8 me a K (psl (siL K 0) T) ν' ∧ nEq (fun q => q = 35 ∨ q = 36) ν ν' := by
  obtain ⟨ν1, e1, e2, e3⟩ := bg_12 (mv := 2) (k := 0) (n := n + 6) (v := v) (dd := dd) (by decide) (by decide) rfl (by omega) h (by omega)
  have hT1 : (psh 12 T).1 = T.1 + 1 := rfl
  obtain ⟨ν2, f1, f2, f3⟩ := b8_h (n := n) (v := v) (dd := dd + 1) hK hK (by omega) e2 (by omega)
  have hT2 : (psl (hiL K K) (psh 12 T)).1 = _ := psl_n (hiL K K) (psh 12 T)
  have hn := hiL_n K hK K hK
  obtain ⟨ν3, g1, g2, g3⟩ := b8_r (n := n + 2) (v := v - a) (dd := dd + 1) hK hK (by omega) f2 (by omega)
  refine ⟨ν3, ?_, ?_, (e3.tr f3).tr g3⟩
  · refine Eq.trans e1 (Eq.trans (congrArg (fun o => Option.bind o _) f1) ?_)
    rw [Option.bind_some, f2.2.2.2.1]
    refine Eq.trans (congrArg (fun o => Option.bind o _) g1) ?_
    rfl
  · rw [← psl_app] at g2
    exact g2
theorem b8_s1 {me a v : Int32} {K n dd : Nat} {T : Nat × (Nat → Int32)} {ν : gN} (hK : K < 7) (hd : dd ≤ 10) (h : D8 me a K T ν) (hT : T.1 < 970) : ∃ ν', f_X1_begin (n + 7) 2 (nI 1) v (nI dd) ν = some (siV me a K 1 v, ν') ∧ D8 me a K (psl (siL K 1) T) ν' ∧ nEq (fun q => q = 35 ∨ q = 36) ν ν' := by
  obtain ⟨ν1, e1, e2, e3⟩ := bg_12 (mv := 2) (k := 1) (n := n + 6) (v := v) (dd := dd) (by decide) (by decide) rfl (by omega) h (by omega)
  have hT1 : (psh 12 T).1 = T.1 + 1 := rfl
  obtain ⟨ν2, f1, f2, f3⟩ := b8_h (n := n) (v := v) (dd := dd + 1) hK hK (by omega) e2 (by omega)
  have hT2 : (psl (hiL K K) (psh 12 T)).1 = _ := psl_n (hiL K K) (psh 12 T)
  have hn := hiL_n K hK K hK
  obtain ⟨ν3, g1, g2, g3⟩ := b8_r (n := n + 2) (v := v - a) (dd := dd + 1) hK hK (by omega) f2 (by omega)
  refine ⟨ν3, ?_, ?_, (e3.tr f3).tr g3⟩
  · refine Eq.trans e1 (Eq.trans (congrArg (fun o => Option.bind o _) f1) ?_)
    rw [Option.bind_some, f2.2.2.2.1]
    refine Eq.trans (congrArg (fun o => Option.bind o _) g1) ?_
    rfl
  · rw [← psl_app] at g2
    exact g2
theorem b8_s2 {me a v : Int32} {K n dd : Nat} {T : Nat × (Nat → Int32)} {ν : gN} (hK : K < 7) (hd : dd ≤ 10) (h : D8 me a K T ν) (hT : T.1 < 970) : ∃ ν', f_X1_begin (n + 7) 2 (nI 2) v (nI dd) ν = some (siV me a K 2 v, ν') ∧ D8 me a K (psl (siL K 2) T) ν' ∧ nEq (fun q => q = 35 ∨ q = 36) ν ν' := by
  obtain ⟨ν1, e1, e2, e3⟩ := bg_12 (mv := 2) (k := 2) (n := n + 6) (v := v) (dd := dd) (by decide) (by decide) rfl (by omega) h (by omega)
  have hT1 : (psh 12 T).1 = T.1 + 1 := rfl
  obtain ⟨ν2, f1, f2, f3⟩ := b8_h (n := n) (v := v) (dd := dd + 1) hK hK (by omega) e2 (by omega)
  have hT2 : (psl (hiL K K) (psh 12 T)).1 = _ := psl_n (hiL K K) (psh 12 T)
  have hn := hiL_n K hK K hK
  obtain ⟨ν3, g1, g2, g3⟩ := b8_r (n := n + 2) (v := v - a) (dd := dd + 1) hK hK (by omega) f2 (by omega)
  refine ⟨ν3, ?_, ?_, (e3.tr f3).tr g3⟩
  · refine Eq.trans e1 (Eq.trans (congrArg (fun o => Option.bind o _) f1) ?_)
    rw [Option.bind_some, f2.2.2.2.1]
    refine Eq.trans (congrArg (fun o => Option.bind o _) g1) ?_
    rfl
  · rw [← psl_app] at g2
    exact g2
theorem b8_s3 {me a v : Int32} {K n dd : Nat} {T : Nat × (Nat → Int32)} {ν : gN} (hK : K < 7) (hd : dd ≤ 10) (h : D8 me a K T ν) (hT : T.1 < 970) : ∃ ν', f_X1_begin (n + 7) 2 (nI 3) v (nI dd) ν = some (siV me a K 3 v, ν') ∧ D8 me a K (psl (siL K 3) T) ν' ∧ nEq (fun q => q = 35 ∨ q = 36) ν ν' := by
  obtain ⟨ν1, e1, e2, e3⟩ := bg_12 (mv := 2) (k := 3) (n := n + 6) (v := v) (dd := dd) (by decide) (by decide) rfl (by omega) h (by omega)
  have hT1 : (psh 12 T).1 = T.1 + 1 := rfl
  obtain ⟨ν2, f1, f2, f3⟩ := b8_h (n := n) (v := v) (dd := dd + 1) hK hK (by omega) e2 (by omega)
  have hT2 : (psl (hiL K K) (psh 12 T)).1 = _ := psl_n (hiL K K) (psh 12 T)
  have hn := hiL_n K hK K hK
  obtain ⟨ν3, g1, g2, g3⟩ := b8_r (n := n + 2) (v := v - a) (dd := dd + 1) hK hK (by omega) f2 (by omega)
  refine ⟨ν3, ?_, ?_, (e3.tr f3).tr g3⟩
  · refine Eq.trans e1 (Eq.trans (congrArg (fun o => Option.bind o _) f1) ?_)
    rw [Option.bind_some, f2.2.2.2.1]
    refine Eq.trans (congrArg (fun o => Option.bind o _) g1) ?_
    rfl
  · rw [← psl_app] at g2
    exact g2
theorem b8_s6 {me a v : Int32} {K n dd : Nat} {T : Nat × (Nat → Int32)} {ν : gN} (hK : K < 7) (hd : dd ≤ 10) (h : D8 me a K T ν) (hT : T.1 < 970) : ∃ ν', f_X1_begin (n + 7) 2 (nI 6) v (nI dd) ν = some (siV me a K 6 v, ν') ∧ D8 me a K (psl (siL K 6) T) ν' ∧ nEq (fun q => q = 35 ∨ q = 36) ν ν' := by
  obtain ⟨ν1, e1, e2, e3⟩ := bg_12 (mv := 2) (k := 6) (n := n + 6) (v := v) (dd := dd) (by decide) (by decide) rfl (by omega) h (by omega)
  have hT1 : (psh 12 T).1 = T.1 + 1 := rfl
  obtain ⟨ν2, f1, f2, f3⟩ := b8_h (n := n) (v := v) (dd := dd + 1) hK hK (by omega) e2 (by omega)
  have hT2 : (psl (hiL K K) (psh 12 T)).1 = _ := psl_n (hiL K K) (psh 12 T)
  have hn := hiL_n K hK K hK
  obtain ⟨ν3, g1, g2, g3⟩ := b8_r (n := n + 2) (v := v - a) (dd := dd + 1) hK hK (by omega) f2 (by omega)
  refine ⟨ν3, ?_, ?_, (e3.tr f3).tr g3⟩
  · refine Eq.trans e1 (Eq.trans (congrArg (fun o => Option.bind o _) f1) ?_)
    rw [Option.bind_some, f2.2.2.2.1]
    refine Eq.trans (congrArg (fun o => Option.bind o _) g1) ?_
    rfl
  · rw [← psl_app] at g2
    exact g2
theorem b8_s4 {me a v : Int32} {K n dd : Nat} {T : Nat × (Nat → Int32)} {ν : gN} (hK : K < 7) (hd : dd ≤ 9) (h : D8 me a K T ν) (hT : T.1 < 969) : ∃ ν', f_X1_begin (n + 8) 2 (nI 4) v (nI dd) ν = some (siV me a K 4 v, ν') ∧ D8 me a K (psl (siL K 4) T) ν' ∧ nEq (fun q => q = 35 ∨ q = 36) ν ν' := by
  obtain ⟨ν1, e1, e2, e3⟩ := bg_50 (mv := 2) (k := 4) (n := n + 7) (v := v) (dd := dd) (by decide) (by decide) rfl (by omega) h (by omega)
  have hT1 : (psh 50 T).1 = T.1 + 1 := rfl
  obtain ⟨ν2, f1, f2, f3⟩ := b8_s0 (n := n) (v := v) (dd := dd + 1) hK (by omega) e2 (by omega)
  refine ⟨ν2, ?_, f2, e3.tr f3⟩
  refine Eq.trans e1 (Eq.trans (congrArg (fun o => Option.bind o _) f1) ?_)
  rfl
theorem b8_s5 {me a v : Int32} {K n dd : Nat} {T : Nat × (Nat → Int32)} {ν : gN} (hK : K < 7) (hd : dd ≤ 9) (h : D8 me a K T ν) (hT : T.1 < 969) : ∃ ν', f_X1_begin (n + 8) 2 (nI 5) v (nI dd) ν = some (siV me a K 5 v, ν') ∧ D8 me a K (psl (siL K 5) T) ν' ∧ nEq (fun q => q = 35 ∨ q = 36) ν ν' := by
  obtain ⟨ν1, e1, e2, e3⟩ := bg_60 (mv := 2) (k := 5) (n := n + 7) (v := v) (dd := dd) (by decide) (by decide) rfl (by omega) h (by omega)
  have hT1 : (psh 60 T).1 = T.1 + 1 := rfl
  obtain ⟨ν2, f1, f2, f3⟩ := b8_s2 (n := n) (v := v) (dd := dd + 1) hK (by omega) e2 (by omega)
  refine ⟨ν2, ?_, f2, e3.tr f3⟩
  refine Eq.trans e1 (Eq.trans (congrArg (fun o => Option.bind o _) f1) ?_)
  rfl
theorem b8_s {me a v : Int32} {K n dd k : Nat} {T : Nat × (Nat → Int32)} {ν : gN} (hk : k < 7) (hK : K < 7) (hd : dd ≤ 9) (h : D8 me a K T ν) (hT : T.1 < 969) : ∃ ν', f_X1_begin (n + 8) 2 (nI k) v (nI dd) ν = some (siV me a K k v, ν') ∧ D8 me a K (psl (siL K k) T) ν' ∧ nEq (fun q => q = 35 ∨ q = 36) ν ν' := by
  have hk' : k = 0 ∨ k = 1 ∨ k = 2 ∨ k = 3 ∨ k = 4 ∨ k = 5 ∨ k = 6 := by omega
  rcases hk' with rfl | rfl | rfl | rfl | rfl | rfl | rfl
  · exact b8_s0 (n := n + 1) hK (by omega) h (by omega)
  · exact b8_s1 (n := n + 1) hK (by omega) h (by omega)
  · exact b8_s2 (n := n + 1) hK (by omega) h (by omega)
  · exact b8_s3 (n := n + 1) hK (by omega) h (by omega)
  · exact b8_s4 (n := n) hK (by omega) h (by omega)
  · exact b8_s5 (n := n) hK (by omega) h (by omega)
  · exact b8_s6 (n := n + 1) hK (by omega) h (by omega)
/-! the reference -/
def eP (a b : Nat) : Prop := a = 67 ∨ (a = 53 ∧ b = 18)
def D9 (x : Nat) (a : Int32) (K : Nat) (T : Nat × (Nat → Int32)) (ν : gN) : Prop := ν.1 53 18 = nI T.1 ∧ (∀ i, i < 20 → i < T.1 → ν.1 67 i = T.2 i) ∧ ν.1 54 x = nI K ∧ ν.1 55 x = a
theorem note9 {a t : Int32} {x K : Nat} {T : Nat × (Nat → Int32)} {ν : gN} (h : D9 x a K T ν) (hT : T.1 < 1000) : ∃ ν', f_X9_ran t ν = some ν' ∧ D9 x a K (psh t T) ν' ∧ mEq eP ν ν' := by
  obtain ⟨h1, h2, h3, h4⟩ := h
  by_cases z : 20 ≤ T.1
  · refine ⟨nWI ν 53 18 (nI (T.1 + 1)), ?_, ⟨wi_eq _ _ _ _, fun i hi hi2 => ?_, ?_, ?_⟩, mEq.rf.wi (Or.inr ⟨rfl, rfl⟩)⟩
    · rw [f_X9_ran, h1, if_pos (show (20 : Int32) ≤ nI T.1 from nI_le (a := 20) z (by omega)), ql, nI_1]
    · rw [wi_ne (by omega)]
      show _ = if i = T.1 then t else T.2 i
      rw [if_neg (by omega)]
      exact h2 i hi (by omega)
    · rw [wi_ne (by omega)]; exact h3
    · rw [wi_ne (by omega)]; exact h4
  · refine ⟨nWI (nWI ν 67 T.1 t) 53 18 (nI (T.1 + 1)), ?_, ⟨wi_eq _ _ _ _, fun i hi hi2 => ?_, ?_, ?_⟩, (mEq.rf.wi (P := eP) (Or.inl rfl)).wi (Or.inr ⟨rfl, rfl⟩)⟩
    · rw [f_X9_ran, h1, if_neg (show ¬ (20 : Int32) ≤ nI T.1 from nI_ge (b := 20) (by omega) (by decide)), if_pos (ib_in (by omega) (by decide)), nI_clamp (by omega), ql, ql, wi_ne (by omega), h1, nI_1]
    · rw [wi_ne (by omega)]
      show _ = if i = T.1 then t else T.2 i
      by_cases e : i = T.1
      · rw [if_pos e, e, wi_eq]
      · rw [if_neg e, wi_ne (by omega)]
        have : (psh t T).1 = T.1 + 1 := rfl
        exact h2 i hi (by omega)
    · rw [wi_ne (by omega), wi_ne (by omega)]; exact h3
    · rw [wi_ne (by omega), wi_ne (by omega)]; exact h4
theorem b9_r0 {a v : Int32} {x K n : Nat} {T : Nat × (Nat → Int32)} {ν : gN} (hx : x < 7) (hK : K < 7) (h : D9 x a K T ν) (hT : T.1 < 995) : ∃ ν', f_X9_runsBy (n + 1) (nI x) (nI 0) v ν = some (ruV (nI x) a 0 v, ν') ∧ D9 x a K (psl (ruL 0) T) ν' ∧ mEq eP ν ν' := by
  obtain ⟨ν1, e1, e2, e3⟩ := note9 (t := 10) h (by omega)
  refine ⟨ν1, ?_, e2, e3⟩
  rw [f_X9_runsBy]
  simp only [show (nI 0 = (0 : Int32)) = True from by decide, show (nI 0 = (1 : Int32)) = False from by decide, show (nI 0 = (2 : Int32)) = False from by decide, show (nI 0 = (3 : Int32)) = False from by decide, show (nI 0 = (4 : Int32)) = False from by decide, show (nI 0 = (5 : Int32)) = False from by decide, show (nI 0 = (6 : Int32)) = False from by decide, ↓reduceIte, e1, Option.bind_some]
  rfl
theorem b9_r1 {a v : Int32} {x K n : Nat} {T : Nat × (Nat → Int32)} {ν : gN} (hx : x < 7) (hK : K < 7) (h : D9 x a K T ν) (hT : T.1 < 994) : ∃ ν', f_X9_runsBy (n + 2) (nI x) (nI 1) v ν = some (ruV (nI x) a 1 v, ν') ∧ D9 x a K (psl (ruL 1) T) ν' ∧ mEq eP ν ν' := by
  obtain ⟨ν1, e1, e2, e3⟩ := note9 (t := 20) h (by omega)
  have hT1 : (psh 20 T).1 = T.1 + 1 := rfl
  obtain ⟨ν2, f1, f2, f3⟩ := b9_r0 (n := n) (v := v) hx hK e2 (by omega)
  refine ⟨ν2, ?_, f2, e3.tr f3⟩
  rw [f_X9_runsBy]
  simp only [show (nI 1 = (0 : Int32)) = False from by decide, show (nI 1 = (1 : Int32)) = True from by decide, show (nI 1 = (2 : Int32)) = False from by decide, show (nI 1 = (3 : Int32)) = False from by decide, show (nI 1 = (4 : Int32)) = False from by decide, show (nI 1 = (5 : Int32)) = False from by decide, show (nI 1 = (6 : Int32)) = False from by decide, ↓reduceIte, e1, Option.bind_some, ib_in hx (show 7 < 2 ^ 31 by decide), nI_clamp (show x < 2 ^ 31 by omega)]
  refine Eq.trans (congrArg (fun o => Option.bind o _) f1) ?_
  rw [Option.bind_some, f2.2.2.2]; rfl
theorem b9_r2 {a v : Int32} {x K n : Nat} {T : Nat × (Nat → Int32)} {ν : gN} (hx : x < 7) (hK : K < 7) (h : D9 x a K T ν) (hT : T.1 < 994) : ∃ ν', f_X9_runsBy (n + 2) (nI x) (nI 2) v ν = some (ruV (nI x) a 2 v, ν') ∧ D9 x a K (psl (ruL 2) T) ν' ∧ mEq eP ν ν' := by
  obtain ⟨ν2, f1, f2, f3⟩ := b9_r0 (n := n) (v := v) hx hK h (by omega)
  refine ⟨ν2, ?_, f2, f3⟩
  rw [f_X9_runsBy]
  simp only [show (nI 2 = (0 : Int32)) = False from by decide, show (nI 2 = (1 : Int32)) = False from by decide, show (nI 2 = (2 : Int32)) = True from by decide, show (nI 2 = (3 : Int32)) = False from by decide, show (nI 2 = (4 : Int32)) = False from by decide, show (nI 2 = (5 : Int32)) = False from by decide, show (nI 2 = (6 : Int32)) = False from by decide, ↓reduceIte, f_X9_above, show (nI 2 = (3 : Int32)) = False from by decide, show (nI 2 = (5 : Int32)) = False from by decide, show (nI 2 = (6 : Int32)) = False from by decide, Option.bind_some]
  refine Eq.trans (congrArg (fun o => Option.bind o _) f1) ?_
  rfl
theorem b9_r4 {a v : Int32} {x K n : Nat} {T : Nat × (Nat → Int32)} {ν : gN} (hx : x < 7) (hK : K < 7) (h : D9 x a K T ν) (hT : T.1 < 994) : ∃ ν', f_X9_runsBy (n + 2) (nI x) (nI 4) v ν = some (ruV (nI x) a 4 v, ν') ∧ D9 x a K (psl (ruL 4) T) ν' ∧ mEq eP ν ν' := by
  obtain ⟨ν1, e1, e2, e3⟩ := note9 (t := 51) h (by omega)
  have hT1 : (psh 51 T).1 = T.1 + 1 := rfl
  obtain ⟨ν2, f1, f2, f3⟩ := b9_r0 (n := n) (v := v) hx hK e2 (by omega)
  refine ⟨ν2, ?_, f2, e3.tr f3⟩
  rw [f_X9_runsBy]
  simp only [show (nI 4 = (0 : Int32)) = False from by decide, show (nI 4 = (1 : Int32)) = False from by decide, show (nI 4 = (2 : Int32)) = False from by decide, show (nI 4 = (3 : Int32)) = False from by decide, show (nI 4 = (4 : Int32)) = True from by decide, show (nI 4 = (5 : Int32)) = False from by decide, show (nI 4 = (6 : Int32)) = False from by decide, ↓reduceIte, e1, Option.bind_some, ib_in hx (show 7 < 2 ^ 31 by decide), nI_clamp (show x < 2 ^ 31 by omega)]
  refine Eq.trans (congrArg (fun o => Option.bind o _) f1) ?_
  rfl
theorem b9_r3 {a v : Int32} {x K n : Nat} {T : Nat × (Nat → Int32)} {ν : gN} (hx : x < 7) (hK : K < 7) (h : D9 x a K T ν) (hT : T.1 < 993) : ∃ ν', f_X9_runsBy (n + 3) (nI x) (nI 3) v ν = some (ruV (nI x) a 3 v, ν') ∧ D9 x a K (psl (ruL 3) T) ν' ∧ mEq eP ν ν' := by
  obtain ⟨ν1, e1, e2, e3⟩ := note9 (t := 40) h (by omega)
  have hT1 : (psh 40 T).1 = T.1 + 1 := rfl
  obtain ⟨ν2, f1, f2, f3⟩ := b9_r1 (n := n) (v := v + 1) hx hK e2 (by omega)
  refine ⟨ν2, ?_, f2, e3.tr f3⟩
  rw [f_X9_runsBy]
  simp only [show (nI 3 = (0 : Int32)) = False from by decide, show (nI 3 = (1 : Int32)) = False from by decide, show (nI 3 = (2 : Int32)) = False from by decide, show (nI 3 = (3 : Int32)) = True from by decide, show (nI 3 = (4 : Int32)) = False from by decide, show (nI 3 = (5 : Int32)) = False from by decide, show (nI 3 = (6 : Int32)) = False from by decide, ↓reduceIte, e1, Option.bind_some, ib_in hx (show 7 < 2 ^ 31 by decide), nI_clamp (show x < 2 ^ 31 by omega)]
  refine Eq.trans (congrArg (fun o => Option.bind o _) f1) ?_
  rfl
theorem b9_r5 {a v : Int32} {x K n : Nat} {T : Nat × (Nat → Int32)} {ν : gN} (hx : x < 7) (hK : K < 7) (h : D9 x a K T ν) (hT : T.1 < 993) : ∃ ν', f_X9_runsBy (n + 3) (nI x) (nI 5) v ν = some (ruV (nI x) a 5 v, ν') ∧ D9 x a K (psl (ruL 5) T) ν' ∧ mEq eP ν ν' := by
  obtain ⟨ν2, f1, f2, f3⟩ := b9_r2 (n := n) (v := v) hx hK h (by omega)
  refine ⟨ν2, ?_, f2, f3⟩
  rw [f_X9_runsBy]
  simp only [show (nI 5 = (0 : Int32)) = False from by decide, show (nI 5 = (1 : Int32)) = False from by decide, show (nI 5 = (2 : Int32)) = False from by decide, show (nI 5 = (3 : Int32)) = False from by decide, show (nI 5 = (4 : Int32)) = False from by decide, show (nI 5 = (5 : Int32)) = True from by decide, show (nI 5 = (6 : Int32)) = False from by decide, ↓reduceIte, f_X9_above, show (nI 5 = (3 : Int32)) = False from by decide, show (nI 5 = (5 : Int32)) = True from by decide, show (nI 5 = (6 : Int32)) = False from by decide, Option.bind_some]
  refine Eq.trans (congrArg (fun o => Option.bind o _) f1) ?_
  rfl
theorem b9_r6 {a v : Int32} {x K n : Nat} {T : Nat × (Nat → Int32)} {ν : gN} (hx : x < 7) (hK : K < 7) (h : D9 x a K T ν) (hT : T.1 < 992) : ∃ ν', f_X9_runsBy (n + 4) (nI x) (nI 6) v ν = some (ruV (nI x) a 6 v, ν') ∧ D9 x a K (psl (ruL 6) T) ν' ∧ mEq eP ν ν' := by
  obtain ⟨ν1, e1, e2, e3⟩ := note9 (t := 70) h (by omega)
  have hT1 : (psh 70 T).1 = T.1 + 1 := rfl
  obtain ⟨ν2, f1, f2, f3⟩ := b9_r3 (n := n) (v := v) hx hK e2 (by omega)
  refine ⟨ν2, ?_, f2, e3.tr f3⟩
  rw [f_X9_runsBy]
  simp only [show (nI 6 = (0 : Int32)) = False from by decide, show (nI 6 = (1 : Int32)) = False from by decide, show (nI 6 = (2 : Int32)) = False from by decide, show (nI 6 = (3 : Int32)) = False from by decide, show (nI 6 = (4 : Int32)) = False from by decide, show (nI 6 = (5 : Int32)) = False from by decide, show (nI 6 = (6 : Int32)) = True from by decide, ↓reduceIte, e1, Option.bind_some, ib_in hx (show 7 < 2 ^ 31 by decide), nI_clamp (show x < 2 ^ 31 by omega)]
  refine Eq.trans (congrArg (fun o => Option.bind o _) f1) ?_
  rfl
theorem b9_r {a v : Int32} {x K n k : Nat} {T : Nat × (Nat → Int32)} {ν : gN} (hk : k < 7) (hx : x < 7) (hK : K < 7) (h : D9 x a K T ν) (hT : T.1 < 992) : ∃ ν', f_X9_runsBy (n + 4) (nI x) (nI k) v ν = some (ruV (nI x) a k v, ν') ∧ D9 x a K (psl (ruL k) T) ν' ∧ mEq eP ν ν' := by
  have hk' : k = 0 ∨ k = 1 ∨ k = 2 ∨ k = 3 ∨ k = 4 ∨ k = 5 ∨ k = 6 := by omega
  rcases hk' with rfl | rfl | rfl | rfl | rfl | rfl | rfl
  · exact b9_r0 (n := n + 3) hx hK h (by omega)
  · exact b9_r1 (n := n + 2) hx hK h (by omega)
  · exact b9_r2 (n := n + 2) hx hK h (by omega)
  · exact b9_r3 (n := n + 1) hx hK h (by omega)
  · exact b9_r4 (n := n + 2) hx hK h (by omega)
  · exact b9_r5 (n := n + 1) hx hK h (by omega)
  · exact b9_r6 (n := n + 0) hx hK h (by omega)
theorem b9_h0 {a v : Int32} {x K n : Nat} {T : Nat × (Nat → Int32)} {ν : gN} (hx : x < 7) (hK : K < 7) (h : D9 x a K T ν) (hT : T.1 < 991) : ∃ ν', f_X9_hidesBy (n + 1) (nI x) (nI 0) v ν = some (hiV (nI x) a K 0 v, ν') ∧ D9 x a K (psl (hiL K 0) T) ν' ∧ mEq eP ν ν' := by
  obtain ⟨ν1, e1, e2, e3⟩ := note9 (t := 11) h (by omega)
  have hT1 : (psh 11 T).1 = T.1 + 1 := rfl
  obtain ⟨ν2, f1, f2, f3⟩ := b9_r (n := 6) (v := v) hK hx hK e2 (by omega)
  refine ⟨ν2, ?_, f2, e3.tr f3⟩
  rw [f_X9_hidesBy]
  simp only [show (nI 0 = (0 : Int32)) = True from by decide, ↓reduceIte, e1, Option.bind_some, ib_in hx (show 7 < 2 ^ 31 by decide), nI_clamp (show x < 2 ^ 31 by omega), e2.2.2.1]
  refine Eq.trans (congrArg (fun o => Option.bind o _) f1) ?_
  rfl
theorem b9_h1 {a v : Int32} {x K n : Nat} {T : Nat × (Nat → Int32)} {ν : gN} (hx : x < 7) (hK : K < 7) (h : D9 x a K T ν) (hT : T.1 < 990) : ∃ ν', f_X9_hidesBy (n + 2) (nI x) (nI 1) v ν = some (hiV (nI x) a K 1 v, ν') ∧ D9 x a K (psl (hiL K 1) T) ν' ∧ mEq eP ν ν' := by
  obtain ⟨ν2, f1, f2, f3⟩ := b9_h0 (n := n) (v := v) hx hK h (by omega)
  refine ⟨ν2, ?_, f2, f3⟩
  rw [f_X9_hidesBy]
  simp only [show (nI 1 = (0 : Int32)) = False from by decide, show (nI 1 = (2 : Int32)) = False from by decide, show (nI 1 = (6 : Int32)) = False from by decide, ↓reduceIte, f_X9_above, show (nI 1 = (3 : Int32)) = False from by decide, show (nI 1 = (5 : Int32)) = False from by decide, show (nI 1 = (6 : Int32)) = False from by decide, Option.bind_some]
  refine Eq.trans (congrArg (fun o => Option.bind o _) f1) ?_
  rfl
theorem b9_h2 {a v : Int32} {x K n : Nat} {T : Nat × (Nat → Int32)} {ν : gN} (hx : x < 7) (hK : K < 7) (h : D9 x a K T ν) (hT : T.1 < 990) : ∃ ν', f_X9_hidesBy (n + 2) (nI x) (nI 2) v ν = some (hiV (nI x) a K 2 v, ν') ∧ D9 x a K (psl (hiL K 2) T) ν' ∧ mEq eP ν ν' := by
  obtain ⟨ν1, e1, e2, e3⟩ := note9 (t := 30) h (by omega)
  have hT1 : (psh 30 T).1 = T.1 + 1 := rfl
  obtain ⟨ν2, f1, f2, f3⟩ := b9_h0 (n := n) (v := v) hx hK e2 (by omega)
  refine ⟨ν2, ?_, f2, e3.tr f3⟩
  rw [f_X9_hidesBy]
  simp only [show (nI 2 = (0 : Int32)) = False from by decide, show (nI 2 = (2 : Int32)) = True from by decide, show (nI 2 = (6 : Int32)) = False from by decide, ↓reduceIte, e1, Option.bind_some, ib_in hx (show 7 < 2 ^ 31 by decide), nI_clamp (show x < 2 ^ 31 by omega)]
  refine Eq.trans (congrArg (fun o => Option.bind o _) f1) ?_
  rfl
theorem b9_h3 {a v : Int32} {x K n : Nat} {T : Nat × (Nat → Int32)} {ν : gN} (hx : x < 7) (hK : K < 7) (h : D9 x a K T ν) (hT : T.1 < 990) : ∃ ν', f_X9_hidesBy (n + 3) (nI x) (nI 3) v ν = some (hiV (nI x) a K 3 v, ν') ∧ D9 x a K (psl (hiL K 3) T) ν' ∧ mEq eP ν ν' := by
  obtain ⟨ν2, f1, f2, f3⟩ := b9_h1 (n := n) (v := v) hx hK h (by omega)
  refine ⟨ν2, ?_, f2, f3⟩
  rw [f_X9_hidesBy]
  simp only [show (nI 3 = (0 : Int32)) = False from by decide, show (nI 3 = (2 : Int32)) = False from by decide, show (nI 3 = (6 : Int32)) = False from by decide, ↓reduceIte, f_X9_above, show (nI 3 = (3 : Int32)) = True from by decide, show (nI 3 = (5 : Int32)) = False from by decide, show (nI 3 = (6 : Int32)) = False from by decide, Option.bind_some]
  refine Eq.trans (congrArg (fun o => Option.bind o _) f1) ?_
  rfl
theorem b9_h4 {a v : Int32} {x K n : Nat} {T : Nat × (Nat → Int32)} {ν : gN} (hx : x < 7) (hK : K < 7) (h : D9 x a K T ν) (hT : T.1 < 990) : ∃ ν', f_X9_hidesBy (n + 2) (nI x) (nI 4) v ν = some (hiV (nI x) a K 4 v, ν') ∧ D9 x a K (psl (hiL K 4) T) ν' ∧ mEq eP ν ν' := by
  obtain ⟨ν2, f1, f2, f3⟩ := b9_h0 (n := n) (v := v) hx hK h (by omega)
  refine ⟨ν2, ?_, f2, f3⟩
  rw [f_X9_hidesBy]
  simp only [show (nI 4 = (0 : Int32)) = False from by decide, show (nI 4 = (2 : Int32)) = False from by decide, show (nI 4 = (6 : Int32)) = False from by decide, ↓reduceIte, f_X9_above, show (nI 4 = (3 : Int32)) = False from by decide, show (nI 4 = (5 : Int32)) = False from by decide, show (nI 4 = (6 : Int32)) = False from by decide, Option.bind_some]
  refine Eq.trans (congrArg (fun o => Option.bind o _) f1) ?_
  rfl
theorem b9_h5 {a v : Int32} {x K n : Nat} {T : Nat × (Nat → Int32)} {ν : gN} (hx : x < 7) (hK : K < 7) (h : D9 x a K T ν) (hT : T.1 < 990) : ∃ ν', f_X9_hidesBy (n + 3) (nI x) (nI 5) v ν = some (hiV (nI x) a K 5 v, ν') ∧ D9 x a K (psl (hiL K 5) T) ν' ∧ mEq eP ν ν' := by
  obtain ⟨ν2, f1, f2, f3⟩ := b9_h2 (n := n) (v := v) hx hK h (by omega)
  refine ⟨ν2, ?_, f2, f3⟩
  rw [f_X9_hidesBy]
  simp only [show (nI 5 = (0 : Int32)) = False from by decide, show (nI 5 = (2 : Int32)) = False from by decide, show (nI 5 = (6 : Int32)) = False from by decide, ↓reduceIte, f_X9_above, show (nI 5 = (3 : Int32)) = False from by decide, show (nI 5 = (5 : Int32)) = True from by decide, show (nI 5 = (6 : Int32)) = False from by decide, Option.bind_some]
  refine Eq.trans (congrArg (fun o => Option.bind o _) f1) ?_
  rfl
theorem b9_h6 {a v : Int32} {x K n : Nat} {T : Nat × (Nat → Int32)} {ν : gN} (hx : x < 7) (hK : K < 7) (h : D9 x a K T ν) (hT : T.1 < 989) : ∃ ν', f_X9_hidesBy (n + 4) (nI x) (nI 6) v ν = some (hiV (nI x) a K 6 v, ν') ∧ D9 x a K (psl (hiL K 6) T) ν' ∧ mEq eP ν ν' := by
  obtain ⟨ν1, e1, e2, e3⟩ := note9 (t := 71) h (by omega)
  have hT1 : (psh 71 T).1 = T.1 + 1 := rfl
  obtain ⟨ν2, f1, f2, f3⟩ := b9_h3 (n := n) (v := v - a) hx hK e2 (by omega)
  refine ⟨ν2, ?_, f2, e3.tr f3⟩
  rw [f_X9_hidesBy]
  simp only [show (nI 6 = (0 : Int32)) = False from by decide, show (nI 6 = (2 : Int32)) = False from by decide, show (nI 6 = (6 : Int32)) = True from by decide, ↓reduceIte, e1, Option.bind_some, ib_in hx (show 7 < 2 ^ 31 by decide), nI_clamp (show x < 2 ^ 31 by omega), e2.2.2.2]
  refine Eq.trans (congrArg (fun o => Option.bind o _) f1) ?_
  rfl
theorem b9_h {a v : Int32} {x K n k : Nat} {T : Nat × (Nat → Int32)} {ν : gN} (hk : k < 7) (hx : x < 7) (hK : K < 7) (h : D9 x a K T ν) (hT : T.1 < 989) : ∃ ν', f_X9_hidesBy (n + 4) (nI x) (nI k) v ν = some (hiV (nI x) a K k v, ν') ∧ D9 x a K (psl (hiL K k) T) ν' ∧ mEq eP ν ν' := by
  have hk' : k = 0 ∨ k = 1 ∨ k = 2 ∨ k = 3 ∨ k = 4 ∨ k = 5 ∨ k = 6 := by omega
  rcases hk' with rfl | rfl | rfl | rfl | rfl | rfl | rfl
  · exact b9_h0 (n := n + 3) hx hK h (by omega)
  · exact b9_h1 (n := n + 2) hx hK h (by omega)
  · exact b9_h2 (n := n + 2) hx hK h (by omega)
  · exact b9_h3 (n := n + 1) hx hK h (by omega)
  · exact b9_h4 (n := n + 2) hx hK h (by omega)
  · exact b9_h5 (n := n + 1) hx hK h (by omega)
  · exact b9_h6 (n := n + 0) hx hK h (by omega)
theorem b9_s0 {a v : Int32} {x K n : Nat} {T : Nat × (Nat → Int32)} {ν : gN} (hx : x < 7) (hK : K < 7) (h : D9 x a K T ν) (hT : T.1 < 970) : ∃ ν', f_X9_sitsBy (n + 1) (nI x) (nI 0) v ν = some (siV (nI x) a K 0 v, ν') ∧ D9 x a K (psl (siL K 0) T) ν' ∧ mEq eP ν ν' := by
  obtain ⟨ν1, e1, e2, e3⟩ := note9 (t := 12) h (by omega)
  have hT1 : (psh 12 T).1 = T.1 + 1 := rfl
  obtain ⟨ν2, f1, f2, f3⟩ := b9_h (n := 6) (v := v) hK hx hK e2 (by omega)
  have hT2 : (psl (hiL K K) (psh 12 T)).1 = _ := psl_n (hiL K K) (psh 12 T)
  have hn := hiL_n K hK K hK
  obtain ⟨ν3, g1, g2, g3⟩ := b9_r (n := 6) (v := v - a) hK hx hK f2 (by omega)
  refine ⟨ν3, ?_, ?_, (e3.tr f3).tr g3⟩
  · rw [f_X9_sitsBy]
    simp only [show (nI 0 = (0 : Int32)) = True from by decide, ↓reduceIte, e1, Option.bind_some, ib_in hx (show 7 < 2 ^ 31 by decide), nI_clamp (show x < 2 ^ 31 by omega), e2.2.2.1]
    refine Eq.trans (congrArg (fun o => Option.bind o _) f1) ?_
    rw [Option.bind_some, f2.2.2.1, f2.2.2.2]
    refine Eq.trans (congrArg (fun o => Option.bind o _) g1) ?_
    rfl
  · rw [← psl_app] at g2
    exact g2
theorem b9_s1 {a v : Int32} {x K n : Nat} {T : Nat × (Nat → Int32)} {ν : gN} (hx : x < 7) (hK : K < 7) (h : D9 x a K T ν) (hT : T.1 < 969) : ∃ ν', f_X9_sitsBy (n + 2) (nI x) (nI 1) v ν = some (siV (nI x) a K 1 v, ν') ∧ D9 x a K (psl (siL K 1) T) ν' ∧ mEq eP ν ν' := by
  obtain ⟨ν2, f1, f2, f3⟩ := b9_s0 (n := n) (v := v) hx hK h (by omega)
  refine ⟨ν2, ?_, f2, f3⟩
  rw [f_X9_sitsBy]
  simp only [show (nI 1 = (0 : Int32)) = False from by decide, show (nI 1 = (4 : Int32)) = False from by decide, show (nI 1 = (5 : Int32)) = False from by decide, ↓reduceIte, f_X9_above, show (nI 1 = (3 : Int32)) = False from by decide, show (nI 1 = (5 : Int32)) = False from by decide, show (nI 1 = (6 : Int32)) = False from by decide, Option.bind_some]
  refine Eq.trans (congrArg (fun o => Option.bind o _) f1) ?_
  rfl
theorem b9_s2 {a v : Int32} {x K n : Nat} {T : Nat × (Nat → Int32)} {ν : gN} (hx : x < 7) (hK : K < 7) (h : D9 x a K T ν) (hT : T.1 < 969) : ∃ ν', f_X9_sitsBy (n + 2) (nI x) (nI 2) v ν = some (siV (nI x) a K 2 v, ν') ∧ D9 x a K (psl (siL K 2) T) ν' ∧ mEq eP ν ν' := by
  obtain ⟨ν2, f1, f2, f3⟩ := b9_s0 (n := n) (v := v) hx hK h (by omega)
  refine ⟨ν2, ?_, f2, f3⟩
  rw [f_X9_sitsBy]
  simp only [show (nI 2 = (0 : Int32)) = False from by decide, show (nI 2 = (4 : Int32)) = False from by decide, show (nI 2 = (5 : Int32)) = False from by decide, ↓reduceIte, f_X9_above, show (nI 2 = (3 : Int32)) = False from by decide, show (nI 2 = (5 : Int32)) = False from by decide, show (nI 2 = (6 : Int32)) = False from by decide, Option.bind_some]
  refine Eq.trans (congrArg (fun o => Option.bind o _) f1) ?_
  rfl
theorem b9_s3 {a v : Int32} {x K n : Nat} {T : Nat × (Nat → Int32)} {ν : gN} (hx : x < 7) (hK : K < 7) (h : D9 x a K T ν) (hT : T.1 < 969) : ∃ ν', f_X9_sitsBy (n + 3) (nI x) (nI 3) v ν = some (siV (nI x) a K 3 v, ν') ∧ D9 x a K (psl (siL K 3) T) ν' ∧ mEq eP ν ν' := by
  obtain ⟨ν2, f1, f2, f3⟩ := b9_s1 (n := n) (v := v) hx hK h (by omega)
  refine ⟨ν2, ?_, f2, f3⟩
  rw [f_X9_sitsBy]
  simp only [show (nI 3 = (0 : Int32)) = False from by decide, show (nI 3 = (4 : Int32)) = False from by decide, show (nI 3 = (5 : Int32)) = False from by decide, ↓reduceIte, f_X9_above, show (nI 3 = (3 : Int32)) = True from by decide, show (nI 3 = (5 : Int32)) = False from by decide, show (nI 3 = (6 : Int32)) = False from by decide, Option.bind_some]
  refine Eq.trans (congrArg (fun o => Option.bind o _) f1) ?_
  rfl
theorem b9_s4 {a v : Int32} {x K n : Nat} {T : Nat × (Nat → Int32)} {ν : gN} (hx : x < 7) (hK : K < 7) (h : D9 x a K T ν) (hT : T.1 < 969) : ∃ ν', f_X9_sitsBy (n + 2) (nI x) (nI 4) v ν = some (siV (nI x) a K 4 v, ν') ∧ D9 x a K (psl (siL K 4) T) ν' ∧ mEq eP ν ν' := by
  obtain ⟨ν1, e1, e2, e3⟩ := note9 (t := 50) h (by omega)
  have hT1 : (psh 50 T).1 = T.1 + 1 := rfl
  obtain ⟨ν2, f1, f2, f3⟩ := b9_s0 (n := n) (v := v) hx hK e2 (by omega)
  refine ⟨ν2, ?_, f2, e3.tr f3⟩
  rw [f_X9_sitsBy]
  simp only [show (nI 4 = (0 : Int32)) = False from by decide, show (nI 4 = (4 : Int32)) = True from by decide, show (nI 4 = (5 : Int32)) = False from by decide, ↓reduceIte, e1, Option.bind_some, ib_in hx (show 7 < 2 ^ 31 by decide), nI_clamp (show x < 2 ^ 31 by omega)]
  refine Eq.trans (congrArg (fun o => Option.bind o _) f1) ?_
  rfl
theorem b9_s5 {a v : Int32} {x K n : Nat} {T : Nat × (Nat → Int32)} {ν : gN} (hx : x < 7) (hK : K < 7) (h : D9 x a K T ν) (hT : T.1 < 968) : ∃ ν', f_X9_sitsBy (n + 3) (nI x) (nI 5) v ν = some (siV (nI x) a K 5 v, ν') ∧ D9 x a K (psl (siL K 5) T) ν' ∧ mEq eP ν ν' := by
  obtain ⟨ν1, e1, e2, e3⟩ := note9 (t := 60) h (by omega)
  have hT1 : (psh 60 T).1 = T.1 + 1 := rfl
  obtain ⟨ν2, f1, f2, f3⟩ := b9_s2 (n := n) (v := v) hx hK e2 (by omega)
  refine ⟨ν2, ?_, f2, e3.tr f3⟩
  rw [f_X9_sitsBy]
  simp only [show (nI 5 = (0 : Int32)) = False from by decide, show (nI 5 = (4 : Int32)) = False from by decide, show (nI 5 = (5 : Int32)) = True from by decide, ↓reduceIte, e1, Option.bind_some, ib_in hx (show 7 < 2 ^ 31 by decide), nI_clamp (show x < 2 ^ 31 by omega)]
  refine Eq.trans (congrArg (fun o => Option.bind o _) f1) ?_
  rfl
theorem b9_s6 {a v : Int32} {x K n : Nat} {T : Nat × (Nat → Int32)} {ν : gN} (hx : x < 7) (hK : K < 7) (h : D9 x a K T ν) (hT : T.1 < 968) : ∃ ν', f_X9_sitsBy (n + 4) (nI x) (nI 6) v ν = some (siV (nI x) a K 6 v, ν') ∧ D9 x a K (psl (siL K 6) T) ν' ∧ mEq eP ν ν' := by
  obtain ⟨ν2, f1, f2, f3⟩ := b9_s3 (n := n) (v := v) hx hK h (by omega)
  refine ⟨ν2, ?_, f2, f3⟩
  rw [f_X9_sitsBy]
  simp only [show (nI 6 = (0 : Int32)) = False from by decide, show (nI 6 = (4 : Int32)) = False from by decide, show (nI 6 = (5 : Int32)) = False from by decide, ↓reduceIte, f_X9_above, show (nI 6 = (3 : Int32)) = False from by decide, show (nI 6 = (5 : Int32)) = False from by decide, show (nI 6 = (6 : Int32)) = True from by decide, Option.bind_some]
  refine Eq.trans (congrArg (fun o => Option.bind o _) f1) ?_
  rfl
theorem b9_s {a v : Int32} {x K n k : Nat} {T : Nat × (Nat → Int32)} {ν : gN} (hk : k < 7) (hx : x < 7) (hK : K < 7) (h : D9 x a K T ν) (hT : T.1 < 968) : ∃ ν', f_X9_sitsBy (n + 4) (nI x) (nI k) v ν = some (siV (nI x) a K k v, ν') ∧ D9 x a K (psl (siL K k) T) ν' ∧ mEq eP ν ν' := by
  have hk' : k = 0 ∨ k = 1 ∨ k = 2 ∨ k = 3 ∨ k = 4 ∨ k = 5 ∨ k = 6 := by omega
  rcases hk' with rfl | rfl | rfl | rfl | rfl | rfl | rfl
  · exact b9_s0 (n := n + 3) hx hK h (by omega)
  · exact b9_s1 (n := n + 2) hx hK h (by omega)
  · exact b9_s2 (n := n + 2) hx hK h (by omega)
  · exact b9_s3 (n := n + 1) hx hK h (by omega)
  · exact b9_s4 (n := n + 2) hx hK h (by omega)
  · exact b9_s5 (n := n + 1) hx hK h (by omega)
  · exact b9_s6 (n := n + 0) hx hK h (by omega)
/-! the call -/
theorem IC.tr {Z : zS} {T : Nat × (Nat → Int32)} {ν ν' : gN} (h : IC Z ν) (he : nEq (fun q => q = 35 ∨ q = 36) ν ν') (t1 : ν'.1 35 1 = nI T.1) (t2 : ∀ i, i < 20 → i < T.1 → ν'.1 36 i = T.2 i) : IC (Z.1, Z.2.1, Z.2.2.1, Z.2.2.2.1, T, Z.2.2.2.2.2) ν' := by
  obtain ⟨h1, h2, h3, h4, h5, h6⟩ := h
  refine ⟨h1.eq he (fun a _ _ => by omega), fun s hs => ?_, fun k hk => ((he 23 (by omega)).1 k).trans (h3 k hk), ((he 0 (by omega)).1 10).trans h4, ⟨t1, t2⟩, ?_⟩
  · have a1 := he (37 + 2 * s) (by omega)
    have a2 := he (37 + 2 * s + 1) (by omega)
    obtain ⟨b1, b2⟩ := h2 s hs
    exact ⟨(a1.1 1).trans b1, fun z => ⟨(a1.1 2).trans (b2 z).1, fun i hi => (a2.2 i).trans ((b2 z).2 i hi)⟩⟩
  · show (match Z.2.2.2.2.2 with | none => _ | some S => _)
    cases hz : Z.2.2.2.2.2 with
    | none => simp only [hz] at h6 ⊢; exact ((he 0 (by omega)).1 9).trans h6
    | some S => simp only [hz] at h6 ⊢; exact ⟨((he 0 (by omega)).1 9).trans h6.1, h6.2.eq he (fun a h1 h2 => by omega)⟩
theorem IM.tr {Z : zS} {T : Nat × (Nat → Int32)} {ν ν' : gN} (h : IM Z ν) (he : mEq eP ν ν') (t1 : ν'.1 53 18 = nI T.1) (t2 : ∀ i, i < 20 → i < T.1 → ν'.1 67 i = T.2 i) : IM (Z.1, Z.2.1, Z.2.2.1, Z.2.2.2.1, T, Z.2.2.2.2.2) ν' := by
  obtain ⟨h1, h2, h3, h4, h5, h6, h7, h8⟩ := h
  have n : nEq (fun q => q = 53 ∨ q = 67) ν ν' := he.n (fun a b z => by unfold eP at z; omega)
  have n53 : ∀ b, b ≠ 18 → ν'.1 53 b = ν.1 53 b := fun b hb => (he 53 b (by unfold eP; omega)).1
  refine ⟨h1.meq he (fun a b _ _ => by unfold eP; omega) (by unfold eP; omega) (by unfold eP; omega), fun s hs => ?_, fun q hq => ((n 68 (by omega)).1 q).trans (h3 q hq), (n53 16 (by omega)).trans h4, ⟨t1, t2⟩, ?_, ?_, (n53 28 (by omega)).trans h8⟩
  · obtain ⟨b1, b2⟩ := h2 s hs
    exact ⟨((n 62 (by omega)).1 s).trans b1, fun z => ⟨((n 63 (by omega)).1 s).trans (b2 z).1, fun i hi => ((n 64 (by omega)).2 _).trans ((b2 z).2 i hi)⟩⟩
  · show (match Z.2.2.2.2.2 with | none => _ | some S => _)
    cases hz : Z.2.2.2.2.2 with
    | none => simp only [hz] at h6 ⊢; exact (n53 21 (by omega)).trans h6
    | some S => simp only [hz] at h6 ⊢; exact ⟨(n53 21 (by omega)).trans h6.1, h6.2.1.eq n (by omega), (n53 23 (by omega)).trans h6.2.2⟩
  · show _ ∨ _
    rcases h7 with h7 | ⟨h7, h7'⟩
    · exact Or.inl ((n53 24 (by omega)).trans h7)
    · exact Or.inr ⟨(n53 24 (by omega)).trans h7, fun t ht => ((n 70 (by omega)).1 t).trans (h7' t ht)⟩
def zT (T : Nat × (Nat → Int32)) (Z : zS) : zS := (Z.1, Z.2.1, Z.2.2.1, Z.2.2.2.1, T, Z.2.2.2.2.2)
theorem okZ.t {Z : zS} (h : okZ Z) {T : Nat × (Nat → Int32)} (hT : T.1 ≤ 100) : okZ (zT T Z) := ⟨h.1, h.2.1, h.2.2.1, hT⟩
def T00 : Nat × (Nat → Int32) := (0, fun _ => 0)
theorem IC.fg {Z : zS} {ν : gN} (h : IC Z ν) : IC (zT T00 Z) (nWI ν 35 1 0) := h.tr (T := T00) (nEq.rf.wi (Or.inl rfl)) (wi_eq _ _ _ _) (fun i _ hi => absurd hi (Nat.not_lt_zero _))
theorem IM.fg {Z : zS} {ν : gN} (h : IM Z ν) : IM (zT T00 Z) (nWI ν 53 18 0) := h.tr (T := T00) (mEq.rf.wi (Or.inr ⟨rfl, rfl⟩)) (wi_eq _ _ _ _) (fun i _ hi => absurd hi (Nat.not_lt_zero _))
theorem act_no {x y w : Int32} {Z : zS} (hZ : okZ Z) (hf : ∀ ν, IC (zT T00 Z) (nWI ν 35 1 0) → f_X8_act x y w ν = some (0, nWI ν 35 1 0)) (hg : ∀ ν, IM (zT T00 Z) (nWI ν 53 18 0) → f_X9_act x y w ν = some (0, nWI ν 53 18 0)) : both (f_X8_act x y w) (f_X9_act x y w) Z :=
  ⟨0, zT T00 Z, hZ.t (Nat.zero_le _), fun ν h => ⟨_, hf ν h.fg, h.fg, nEq.rf.wi (by decide)⟩, fun ν h => ⟨_, hg ν h.fg, h.fg, nEq.rf.wi (by decide)⟩⟩
theorem act_go {i K : Nat} {mv : Nat} {w a V : Int32} {L : List Int32} {Z : zS} (hZ : okZ Z) (hi : i < Z.1.1) (hm : mv < 3) (hK : K < 7) (hk0 : Z.1.2.1 0 i = nI K) (hk1 : Z.1.2.1 1 i = a) (hL : L.length ≤ 12)
    (g8 : ∀ ν, D8 (nI i) a K T00 ν → ∃ ν', f_X1_begin 24 (nI mv) (nI K) w 0 ν = some (V, ν') ∧ D8 (nI i) a K (psl L T00) ν' ∧ nEq (fun q => q = 35 ∨ q = 36) ν ν')
    (g9 : ∀ ν, D9 i a K T00 ν → ∃ ν', (if nI mv = 0 then f_X9_runsBy 10 (nI i) (nI K) w ν else if nI mv = 1 then f_X9_hidesBy 10 (nI i) (nI K) w ν else f_X9_sitsBy 10 (nI i) (nI K) w ν) = some (V, ν') ∧ D9 i a K (psl L T00) ν' ∧ mEq eP ν ν') : both (f_X8_act (nI i) (nI mv) w) (f_X9_act (nI i) (nI mv) w) Z := by
  have hc := hZ.1.1
  have hi7 : i < 7 := by omega
  have hb : bt (nI mv) 0 2 = true := decide_eq_true ⟨nI_pos (by omega), by rw [lt_cn (c := 2) (k := 2) rfl (by omega) (by decide)]; omega⟩
  have hT : (psl L T00).1 ≤ 100 := by rw [psl_n]; show 0 + L.length ≤ 100; omega
  refine ⟨V, zT (psl L T00) Z, hZ.t hT, fun ν h => ?_, fun ν h => ?_⟩
  · have h1 := h.fg
    have k0 : (nWI ν 35 1 0).1 2 i = nI K := (h1.1.c0 hi7).trans hk0
    have k1 : (nWI ν 35 1 0).1 3 i = a := (h1.1.c1 hi7).trans hk1
    obtain ⟨μ, hμ⟩ : ∃ μ, μ = nWI (nWI (nWI (nWI ν 35 1 0) 35 2 (nI i)) 35 3 a) 35 4 (nI K) := ⟨_, rfl⟩
    have hn : nEq (fun q => q = 35 ∨ q = 36) (nWI ν 35 1 0) μ := by rw [hμ]; exact ((nEq.rf.wi (Or.inl rfl)).wi (Or.inl rfl)).wi (Or.inl rfl)
    have hD : D8 (nI i) a K T00 μ := by
      rw [hμ]
      refine ⟨?_, fun i _ hi => absurd hi (Nat.not_lt_zero _), ?_, ?_, wi_eq _ _ _ _⟩
      · rw [wi_ne (by omega), wi_ne (by omega), wi_ne (by omega), wi_eq]; rfl
      · rw [wi_ne (by omega), wi_ne (by omega), wi_eq]
      · rw [wi_ne (by omega), wi_eq]
    obtain ⟨ν', e1, e2, e3⟩ := g8 μ hD
    have hall : nEq (fun q => q = 35 ∨ q = 36) (nWI ν 35 1 0) ν' := hn.tr e3
    refine ⟨ν', ?_, h1.tr (T := psl L T00) hall e2.1 e2.2.1, ((nEq.rf.wi (P := fun q => q < 53) (by decide)).tr (hall.mono (fun a z => by omega)))⟩
    rw [f_X8_act, f_X1_forget, ql, Option.bind_some]
    show (f_X4_isPerson 1 (nI i) (nWI ν 35 1 0)).bind _ = _
    rw [per_in h1.1 hc hi, Option.bind_some, if_neg (show ¬ (1 : Int32) = 0 by decide)]
    show (f_X8_isBetween (nI mv) 0 2 (nWI ν 35 1 0)).bind _ = _
    rw [bw8, hb, Option.bind_some, if_neg (show ¬ i01 true = 0 by decide)]
    show (f_X1_perform 1 (nI i) (nI mv) w (nWI ν 35 1 0)).bind _ = _
    have ep : f_X1_perform 1 (nI i) (nI mv) w (nWI ν 35 1 0) = some (V, ν') := by
      rw [f_X1_perform, ql, if_pos (ib_in hi7 (by decide)), nI_clamp (by omega)]
      show qL (nWI (nWI (nWI ν 35 1 0) 35 2 (nI i)) 35 3 ((nWI (nWI ν 35 1 0) 35 2 (nI i)).1 3 i)) _ = _
      rw [wi_ne (by omega), k1, ql, if_pos (ib_in hi7 (by decide))]
      show qL (nWI (nWI (nWI (nWI ν 35 1 0) 35 2 (nI i)) 35 3 a) 35 4 ((nWI (nWI (nWI ν 35 1 0) 35 2 (nI i)) 35 3 a).1 2 i)) _ = _
      rw [wi_ne (by omega), wi_ne (by omega), k0, ← hμ, ql, show μ.1 35 4 = nI K from hD.2.2.2.2]
      refine Eq.trans (congrArg (fun o => Option.bind o _) e1) ?_
      rfl
    rw [ep]; rfl
  · have h1 := h.fg
    have k0 : (nWI ν 53 18 0).1 54 i = nI K := (h1.1.c0 hi7).trans hk0
    have k1 : (nWI ν 53 18 0).1 55 i = a := (h1.1.c1 hi7).trans hk1
    have hD : D9 i a K T00 (nWI ν 53 18 0) := ⟨wi_eq _ _ _ _, fun i _ hi => absurd hi (Nat.not_lt_zero _), k0, k1⟩
    obtain ⟨ν', e1, e2, e3⟩ := g9 _ hD
    refine ⟨ν', ?_, h1.tr (T := psl L T00) e3 e2.1 e2.2.1, ((nEq.rf.wi (P := fun q => 53 ≤ q) (by decide)).tr (e3.n (fun a b z => by unfold eP at z; omega)))⟩
    rw [f_X9_act, ql, one_in h1.1 hc hi, Option.bind_some, if_neg (show ¬ (1 : Int32) = 0 by decide)]
    show (f_X9_within (nI mv) 0 2 (nWI ν 53 18 0)).bind _ = _
    rw [bw9, hb, Option.bind_some, if_neg (show ¬ i01 true = 0 by decide), if_pos (ib_in hi7 (by decide)), nI_clamp (by omega)]
    show (if nI mv = 0 then (f_X9_runsBy 10 (nI i) ((nWI ν 53 18 0).1 54 i) w (nWI ν 53 18 0)).bind _ else if nI mv = 1 then (f_X9_hidesBy 10 (nI i) ((nWI ν 53 18 0).1 54 i) w (nWI ν 53 18 0)).bind _ else (f_X9_sitsBy 10 (nI i) ((nWI ν 53 18 0).1 54 i) w (nWI ν 53 18 0)).bind _) = _
    rw [k0]
    by_cases c0 : nI mv = 0
    · rw [if_pos c0] at e1 ⊢; rw [e1]; rfl
    · rw [if_neg c0] at e1 ⊢
      by_cases c1 : nI mv = 1
      · rw [if_pos c1] at e1 ⊢; rw [e1]; rfl
      · rw [if_neg c1] at e1 ⊢; rw [e1]; rfl
theorem op_act (x y w : Int32) {Z : zS} (hZ : okZ Z) : both (f_X8_act x y w) (f_X9_act x y w) Z := by
  have hc := hZ.1.1
  rcases (rng x Z.1.1 (by omega)).symm with hx | ⟨i, hi, rfl⟩
  · refine act_no hZ (fun ν h => ?_) (fun ν h => ?_)
    · rw [f_X8_act, f_X1_forget, ql, Option.bind_some]
      show (f_X4_isPerson 1 x (nWI ν 35 1 0)).bind _ = _
      rw [per_out h.1 hx, Option.bind_some, if_pos rfl]
    · rw [f_X9_act, ql, one_out h.1 hc hx, Option.bind_some, if_pos rfl]
  cases hb : bt y 0 2 with
  | false =>
    refine act_no hZ (fun ν h => ?_) (fun ν h => ?_)
    · rw [f_X8_act, f_X1_forget, ql, Option.bind_some]
      show (f_X4_isPerson 1 (nI i) (nWI ν 35 1 0)).bind _ = _
      rw [per_in h.1 hc hi, Option.bind_some, if_neg (show ¬ (1 : Int32) = 0 by decide)]
      show (f_X8_isBetween y 0 2 (nWI ν 35 1 0)).bind _ = _
      rw [bw8, hb, Option.bind_some, if_pos (show (i01 false, nWI ν 35 1 0).1 = 0 from rfl)]
    · rw [f_X9_act, ql, one_in h.1 hc hi, Option.bind_some, if_neg (show ¬ (1 : Int32) = 0 by decide)]
      show (f_X9_within y 0 2 (nWI ν 53 18 0)).bind _ = _
      rw [bw9, hb, Option.bind_some, if_pos (show (i01 false, nWI ν 53 18 0).1 = 0 from rfl)]
  | true =>
    obtain ⟨mv, _, hm, rfl⟩ := bt_of (a := 0) (b := 2) (by decide) (by decide) hb
    obtain ⟨⟨K, hK, hk0⟩, _⟩ := hZ.1.2.1 i hi
    have hi7 : i < 7 := by omega
    have hm' : mv = 0 ∨ mv = 1 ∨ mv = 2 := by omega
    rcases hm' with rfl | rfl | rfl
    · exact act_go (K := K) (a := Z.1.2.1 1 i) (V := ruV (nI i) (Z.1.2.1 1 i) K w) (L := ruL K) hZ hi (by decide) (by omega) hk0 rfl (by have := ruL_n K (by omega); omega) (fun ν h => b8_r (n := 20) (dd := 0) (by omega) (by omega) (by decide) h (by decide)) (fun ν h => by rw [if_pos (show nI 0 = 0 from rfl)]; exact b9_r (n := 6) (by omega) hi7 (by omega) h (by decide))
    · exact act_go (K := K) (a := Z.1.2.1 1 i) (V := hiV (nI i) (Z.1.2.1 1 i) K K w) (L := hiL K K) hZ hi (by decide) (by omega) hk0 rfl (by have := hiL_n K (by omega) K (by omega); omega) (fun ν h => b8_h (n := 18) (dd := 0) (by omega) (by omega) (by decide) h (by decide)) (fun ν h => by rw [if_neg (show ¬ nI 1 = 0 by decide), if_pos (show nI 1 = 1 from rfl)]; exact b9_h (n := 6) (by omega) hi7 (by omega) h (by decide))
    · exact act_go (K := K) (a := Z.1.2.1 1 i) (V := siV (nI i) (Z.1.2.1 1 i) K K w) (L := siL K K) hZ hi (by decide) (by omega) hk0 rfl (siL_n K (by omega) K (by omega)) (fun ν h => b8_s (n := 16) (dd := 0) (by omega) (by omega) (by decide) h (by decide)) (fun ν h => by rw [if_neg (show ¬ nI 2 = 0 by decide), if_neg (show ¬ nI 2 = 1 by decide)]; exact b9_s (n := 6) (by omega) hi7 (by omega) h (by decide))
