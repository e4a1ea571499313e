/-! THE CLASS'S SPREADING, by a queue -/
theorem lev_uniq {F : Nat → Bool} {s : Nat} {T : Nat → Nat} (A : T s = 0) (B : ∀ t, t < 49 → T t ≠ 99 → t ≠ s → F t = false ∧ ∃ u, u < 49 ∧ nbr u t ∧ T u + 1 = T t) (C : ∀ u, u < 49 → T u ≠ 99 → ∀ t, t < 49 → nbr u t → F t = false → T t ≤ T u + 1) (D : ∀ t, t < 49 → T t < 49 ∨ T t = 99) : ∀ t, t < 49 → T t = dst F s t := by
  have key : ∀ n, n ≤ 49 → ∀ t, t < 49 → lev F s n t = if T t ≤ n then T t else 99 := by
    intro n
    induction n with
    | zero =>
      intro _ t ht
      rw [lev]
      by_cases z : t = s
      · rw [if_pos z, z, A, if_pos (Nat.le_refl _)]
      · rw [if_neg z, if_neg]
        intro q
        obtain ⟨_, u, _, _, h⟩ := B t ht (by omega) z
        omega
    | succ n ih =>
      intro hn t ht
      have ih := ih (by omega)
      rw [lev, ih t ht]
      by_cases z : T t ≤ n
      · rw [if_pos z, if_pos (by omega), if_pos (by omega)]
      · rw [if_neg z, if_neg (by omega)]
        by_cases g : F t = false ∧ ∃ u, u < 49 ∧ nbr u t ∧ lev F s n u = n
        · rw [if_pos g]
          obtain ⟨g1, u, g2, g3, g4⟩ := g
          rw [ih u g2] at g4
          have hu : T u = n := by
            by_cases q : T u ≤ n
            · rw [if_pos q] at g4; exact g4
            · rw [if_neg q] at g4; omega
          have := C u g2 (by omega) t ht g3 g1
          rw [if_pos (by omega)]; omega
        · rw [if_neg g]
          by_cases q : T t ≤ n + 1
          · exfalso
            have hts : t ≠ s := fun e => by rw [e, A] at z; omega
            obtain ⟨b1, u, b2, b3, b4⟩ := B t ht (by omega) hts
            exact g ⟨b1, u, b2, b3, by rw [ih u b2, if_pos (by omega)]; omega⟩
          · rw [if_neg q]
  intro t ht
  rw [dst, key 49 (Nat.le_refl _) t ht]
  rcases D t ht with q | q
  · rw [if_pos (by omega)]
  · rw [if_neg (by omega), q]
/-- how many below n are reached -/
def cn (T : Nat → Nat) : Nat → Nat
  | 0 => 0
  | n + 1 => if T n ≠ 99 then cn T n + 1 else cn T n
theorem cn_le (T : Nat → Nat) : ∀ n, cn T n ≤ n
  | 0 => Nat.le_refl _
  | n + 1 => by have := cn_le T n; rw [cn]; split <;> omega
theorem cn_lt {T : Nat → Nat} {t : Nat} (h : T t = 99) : ∀ n, t < n → cn T n < n
  | 0, h => by omega
  | n + 1, hn => by
    rw [cn]
    by_cases e : t = n
    · subst e
      have := cn_le T t
      rw [if_neg (by simp [h])]; omega
    · have := cn_lt h n (by omega)
      split <;> omega
def upn (T : Nat → Nat) (t v : Nat) : Nat → Nat := fun q => if q = t then v else T q
theorem upn_eq (T : Nat → Nat) (t v : Nat) : upn T t v t = v := if_pos rfl
theorem upn_ne {T : Nat → Nat} {t v q : Nat} (h : q ≠ t) : upn T t v q = T q := if_neg h
theorem cn_upd0 {T : Nat → Nat} {t v : Nat} : ∀ n, n ≤ t → cn (upn T t v) n = cn T n
  | 0, _ => rfl
  | n + 1, h => by rw [cn, cn, cn_upd0 n (by omega), upn_ne (by omega)]
theorem cn_upd {T : Nat → Nat} {t v : Nat} (h : T t = 99) (hv : v ≠ 99) : ∀ n, t < n → cn (upn T t v) n = cn T n + 1
  | 0, h => by omega
  | n + 1, hn => by
    rw [cn, cn]
    by_cases e : t = n
    · subst e
      rw [upn_eq, if_pos hv, cn_upd0 t (Nat.le_refl _), if_neg (by simp [h])]
    · rw [cn_upd h hv n (by omega), upn_ne (by omega)]
      split <;> rfl
def QI (F : Nat → Bool) (s : Nat) (T Q : Nat → Nat) (h tl : Nat) : Prop :=
  h ≤ tl ∧ cn T 49 = tl ∧ (∀ i, i < tl → Q i < 49 ∧ T (Q i) ≠ 99 ∧ T (Q i) ≤ i) ∧ (∀ t, t < 49 → T t ≠ 99 → ∃ i, i < tl ∧ Q i = t) ∧ T s = 0 ∧ (∀ t, t < 49 → T t ≠ 99 → t ≠ s → F t = false ∧ ∃ u, u < 49 ∧ nbr u t ∧ T u + 1 = T t) ∧ (∀ i j, i ≤ j → j < tl → T (Q i) ≤ T (Q j)) ∧ (h < tl → ∀ j, j < tl → T (Q j) ≤ T (Q h) + 1) ∧ (∀ i, i < h → ∀ t, t < 49 → nbr (Q i) t → F t = false → T t ≤ T (Q i) + 1)
theorem QI.tl {F : Nat → Bool} {s : Nat} {T Q : Nat → Nat} {h tl : Nat} (q : QI F s T Q h tl) : tl ≤ 49 := by
  have := cn_le T 49
  rw [q.2.1] at this
  exact this
theorem QI.push {F : Nat → Bool} {s : Nat} {T Q : Nat → Nat} {h tl t : Nat} (q : QI F s T Q h tl) (hh : h < tl) (ht : t < 49) (h99 : T t = 99) (hf : F t = false) (hn : nbr (Q h) t) : QI F s (upn T t (T (Q h) + 1)) (upn Q tl t) h (tl + 1) := by
  have htl := q.tl
  obtain ⟨q1, q2, q3, q4, q5, q6, q7, q8, q9⟩ := q
  have hQ : ∀ i, i < tl → Q i ≠ t := fun i hi e => (q3 i hi).2.1 (by rw [e]; exact h99)
  have hTh := (q3 h hh).2.2
  have hst : s ≠ t := fun e => by rw [e, h99] at q5; omega
  have eQ : ∀ i, i < tl → upn Q tl t i = Q i := fun i hi => upn_ne (by omega)
  have eT : ∀ i, i < tl → upn T t (T (Q h) + 1) (Q i) = T (Q i) := fun i hi => upn_ne (hQ i hi)
  refine ⟨by omega, by rw [cn_upd h99 (by omega) 49 ht, q2], fun i hi => ?_, fun t' ht' hT => ?_, by rw [upn_ne hst]; exact q5, fun t' ht' hT hs' => ?_, fun i j hij hj => ?_, fun _ j hj => ?_, fun i hi t' ht' hn' hf' => ?_⟩
  · by_cases e : i < tl
    · rw [eQ i e, eT i e]; exact q3 i e
    · have e' : i = tl := by omega
      rw [e', upn_eq, upn_eq]; exact ⟨ht, by omega, by omega⟩
  · by_cases e : t' = t
    · exact ⟨tl, by omega, by rw [upn_eq, e]⟩
    · rw [upn_ne e] at hT
      obtain ⟨i, hi, hi2⟩ := q4 t' ht' hT
      exact ⟨i, by omega, by rw [eQ i hi, hi2]⟩
  · by_cases e : t' = t
    · rw [e, upn_eq]
      exact ⟨hf, Q h, (q3 h hh).1, hn, by rw [eT h hh]⟩
    · rw [upn_ne e] at hT ⊢
      obtain ⟨b1, u, b2, b3, b4⟩ := q6 t' ht' hT hs'
      obtain ⟨i, hi, hi2⟩ := q4 t' ht' hT
      have hb := (q3 i hi).2.2
      rw [hi2] at hb
      have hut : u ≠ t := fun z => by rw [z, h99] at b4; omega
      exact ⟨b1, u, b2, b3, by rw [upn_ne hut]; exact b4⟩
  · by_cases e : j < tl
    · rw [eQ i (by omega), eQ j e, eT i (by omega), eT j e]; exact q7 i j hij e
    · have e' : j = tl := by omega
      rw [e', upn_eq, upn_eq]
      by_cases e2 : i < tl
      · rw [eQ i e2, eT i e2]; exact q8 hh i e2
      · have e2' : i = tl := by omega
        rw [e2', upn_eq, upn_eq]; exact Nat.le_refl _
  · rw [eQ h hh, eT h hh]
    by_cases e : j < tl
    · rw [eQ j e, eT j e]; exact q8 hh j e
    · have e' : j = tl := by omega
      rw [e', upn_eq, upn_eq]; exact Nat.le_refl _
  · have hi' : i < tl := by omega
    rw [eQ i hi'] at hn' ⊢
    rw [eT i hi']
    have := q9 i hi t' ht' hn' hf'
    have hb := (q3 i hi').2.2
    by_cases e : t' = t
    · rw [e, h99] at this; omega
    · rw [upn_ne e]; exact this
theorem QI.adv {F : Nat → Bool} {s : Nat} {T Q : Nat → Nat} {h tl : Nat} (q : QI F s T Q h tl) (hh : h < tl) (hc : ∀ t, t < 49 → nbr (Q h) t → F t = false → T t ≤ T (Q h) + 1) : QI F s T Q (h + 1) tl := by
  obtain ⟨q1, q2, q3, q4, q5, q6, q7, q8, q9⟩ := q
  refine ⟨hh, q2, q3, q4, q5, q6, q7, fun hh' j hj => ?_, fun i hi => ?_⟩
  · have := q8 hh j hj
    have := q7 h (h + 1) (by omega) hh'
    omega
  · by_cases e : i = h
    · rw [e]; exact hc
    · exact q9 i (by omega)
theorem QI.fin {F : Nat → Bool} {s : Nat} {T Q : Nat → Nat} {h tl : Nat} (q : QI F s T Q h tl) (hh : tl ≤ h) : ∀ t, t < 49 → T t = dst F s t := by
  have htl := q.tl
  obtain ⟨q1, q2, q3, q4, q5, q6, q7, q8, q9⟩ := q
  refine lev_uniq q5 q6 (fun u hu hT t ht hn hf => ?_) (fun t ht => ?_)
  · obtain ⟨i, hi, rfl⟩ := q4 u hu hT
    exact q9 i (by omega) t ht hn hf
  · by_cases e : T t = 99
    · exact Or.inr e
    · obtain ⟨i, hi, rfl⟩ := q4 t ht e
      have := (q3 i hi).2.2
      exact Or.inl (by omega)
theorem QI.in0 {F : Nat → Bool} {s : Nat} {T Q : Nat → Nat} (hs : s < 49) (h0 : ∀ t, t < 49 → T t = if t = s then 0 else 99) (hQ : Q 0 = s) : QI F s T Q 0 1 := by
  have hss : T s = 0 := by rw [h0 s hs, if_pos rfl]
  have hT : ∀ t, t < 49 → T t ≠ 99 → t = s := fun t ht h => by
    rw [h0 t ht] at h
    by_cases e : t = s
    · exact e
    · rw [if_neg e] at h; exact absurd rfl h
  have hc : ∀ n, n ≤ 49 → cn T n = if s < n then 1 else 0 := by
    intro n
    induction n with
    | zero => intro _; rfl
    | succ n ih =>
      intro hn
      rw [cn, ih (by omega), h0 n (by omega)]
      by_cases e : n = s
      · rw [if_pos e, if_pos (by omega), if_neg (by omega), if_pos (by omega)]
      · rw [if_neg e, if_neg (by omega)]
        by_cases g : s < n
        · rw [if_pos g, if_pos (by omega)]
        · rw [if_neg g, if_neg (by omega)]
  refine ⟨by omega, by rw [hc 49 (Nat.le_refl _), if_pos hs], fun i hi => ?_, fun t ht h => ⟨0, by omega, by rw [hQ, hT t ht h]⟩, hss, fun t ht h hn => absurd (hT t ht h) hn, fun i j hij hj => ?_, fun _ j hj => ?_, fun i hi => by omega⟩
  · have : i = 0 := by omega
    rw [this, hQ, hss]; exact ⟨hs, by omega, by omega⟩
  · have : i = 0 := by omega
    have : j = 0 := by omega
    subst_vars; exact Nat.le_refl _
  · have : j = 0 := by omega
    rw [this]; omega
def QQ (tl : Nat) (Q : Nat → Nat) (ν : gN) : Prop := ∀ i, i < tl → ν.1 29 i = nI (Q i)
def MK (F : Nat → Bool) (m : Int64) : Prop := ∀ i, i < 64 → m.toBitVec.getLsbD i = F i
theorem qd_L {a h u s : Nat} {F : Nat → Bool} {m : Int64} {k : Int32 → gN → Option gN} (ha : a = 25 ∨ a = 28) (hm : MK F m) (hu : u < 49) : ∀ j n d ν T Q tl, d + j = 4 → j < n → QI F s T Q h tl → h < tl → Q h = u → TT a T ν → QQ tl Q ν → (∀ d', d' < d → bsd u d' < 49 → F (bsd u d') = false → T (bsd u d') ≤ T u + 1) → ∃ ν' T' Q' tl', f_X7_spread_L51 m a (nI h) (nI u) k n (nI tl) (nI d) ν = k (nI tl') ν' ∧ QI F s T' Q' (h + 1) tl' ∧ TT a T' ν' ∧ QQ tl' Q' ν' ∧ nEq (fun q => q = a ∨ q = 29) ν ν' := by
  intro j
  induction j with
  | zero =>
    intro n d ν T Q tl hd hn hq hh hQ hT hQQ hc
    obtain ⟨n, rfl⟩ : ∃ m, n = m + 1 := ⟨n - 1, by omega⟩
    have e : d = 4 := by omega
    subst e
    refine ⟨ν, T, Q, tl, by rw [f_X7_spread_L51, if_pos (by decide)], hq.adv hh (fun t ht hn hf => ?_), hT, hQQ, nEq.rf⟩
    obtain ⟨d', h1, h2⟩ := hn
    rw [hQ] at h2 ⊢
    rw [← h2] at ht hf ⊢
    exact hc d' h1 ht hf
  | succ j ih =>
    intro n d ν T Q tl hd hn hq hh hQ hT hQQ hc
    obtain ⟨n, rfl⟩ : ∃ m, n = m + 1 := ⟨n - 1, by omega⟩
    have hd4 : d < 4 := by omega
    have htl := hq.tl
    have g0 : ¬ (4 : Int32) ≤ nI d := by rw [le_cn (c := 4) (k := 4) rfl (by omega) (by decide)]; omega
    rw [f_X7_spread_L51, if_neg g0]
    have same : (bsd u d < 49 → F (bsd u d) = false → T (bsd u d) ≤ T u + 1) → ∃ ν' T' Q' tl', f_X7_spread_L51 m a (nI h) (nI u) k n (nI tl) (nI d + 1) ν = k (nI tl') ν' ∧ QI F s T' Q' (h + 1) tl' ∧ TT a T' ν' ∧ QQ tl' Q' ν' ∧ nEq (fun q => q = a ∨ q = 29) ν ν' := fun hno => by
      rw [nI_1]
      refine ih n (d + 1) ν T Q tl (by omega) (by omega) hq hh hQ hT hQQ (fun d' h1 h2 h3 => ?_)
      by_cases e : d' = d
      · subst e; exact hno h2 h3
      · exact hc d' (by omega) h2 h3
    rcases (bs_t u hu d hd4).2 with hb | hb
    · rw [be8_no ν hu hd4 hb, Option.bind_some, if_pos rfl, if_pos rfl]
      exact same (fun q => by omega)
    · rw [be8_at ν hu hd4 hb, Option.bind_some, if_neg (show ¬ nI (bsd u d) = -1 from fun q => nI_pos (show bsd u d < 2 ^ 31 by omega) (by rw [q]; decide))]
      have hbit : (lg_cmp (j_lushr m (nI (bsd u d)) &&& 1) 0 = 0) = (F (bsd u d) = false) := by
        rw [lcz, bit_get (by omega), hm _ (by omega)]
      by_cases hf : F (bsd u d) = false
      · rw [if_pos (hbit.mpr hf), if_pos (ib_in hb (by decide)), nI_clamp (by omega), hT _ hb]
        by_cases h99 : T (bsd u d) = 99
        · have hl : cn T 49 < 49 := cn_lt h99 49 hb
          rw [hq.2.1] at hl
          have hQu := hq.2.2.1 h hh
          rw [hQ] at hQu
          have e9 : (49 : Int32) ≤ nI tl ↔ 49 ≤ tl := le_cn (c := 49) (k := 49) rfl (by omega) (by decide)
          rw [if_pos (by rw [h99]; rfl), if_neg (show ¬ (1 : Int32) = 0 by decide), if_neg (by rw [e9]; omega), if_pos (ib_in hu (by decide)), if_pos (ib_in hb (by decide)), ql, if_pos (ib_in hl (by decide)), ql, nI_clamp (show u < 2 ^ 31 by omega), nI_clamp (show tl < 2 ^ 31 by omega), hT _ hu, nI_1, nI_1, nI_1]
          have hpush := hq.push hh hb h99 hf ⟨d, hd4, by rw [hQ]⟩
          rw [hQ] at hpush
          have hub : u ≠ bsd u d := fun e => hQu.2.1 (by rw [e]; exact h99)
          obtain ⟨ν', T', Q', tl', e1, e2, e3, e4, e5⟩ := ih n (d + 1) (nWI (nWI ν a (bsd u d) (nI (T u + 1))) 29 tl (nI (bsd u d))) _ _ (tl + 1) (by omega) (by omega) hpush (by omega) (by rw [upn_ne (by omega)]; exact hQ) (fun t ht => by
            rw [wi_ne (by omega)]
            by_cases e : t = bsd u d
            · rw [e, wi_eq, upn_eq]
            · rw [wi_ne (by omega), upn_ne e]; exact hT t ht) (fun i hi => by
            by_cases e : i = tl
            · rw [e, wi_eq, upn_eq]
            · rw [wi_ne (by omega), wi_ne (by omega), upn_ne e]; exact hQQ i (by omega)) (fun d' h1 h2 h3 => by
            rw [upn_ne hub]
            by_cases e : bsd u d' = bsd u d
            · rw [e, upn_eq]; exact Nat.le_refl _
            · rw [upn_ne e]
              by_cases e' : d' = d
              · exact absurd (by rw [e']) e
              · exact hc d' (by omega) h2 h3)
          exact ⟨ν', T', Q', tl', e1, e2, e3, e4, ((nEq.rf.wi (P := fun q => q = a ∨ q = 29) (Or.inl rfl)).wi (Or.inr rfl)).tr e5⟩
        · have hT9 : T (bsd u d) ≤ T u + 1 := by
            obtain ⟨i, hi, hi2⟩ := hq.2.2.2.1 _ hb h99
            have := hq.2.2.2.2.2.2.2.1 hh i hi
            rw [hi2, hQ] at this
            exact this
          have hb9 : T (bsd u d) < 2 ^ 31 := by
            obtain ⟨i, hi, hi2⟩ := hq.2.2.2.1 _ hb h99
            have := (hq.2.2.1 i hi).2.2
            rw [hi2] at this
            omega
          have e9 : nI (T (bsd u d)) = 99 ↔ T (bsd u d) = 99 := eq_nc (c := 99) (k := 99) rfl hb9 (by decide)
          rw [if_neg (by rw [e9]; exact h99), if_pos rfl]
          exact same (fun _ _ => hT9)
      · rw [if_neg (fun q => hf (hbit.mp q)), if_pos rfl]
        exact same (fun _ q => absurd q hf)
theorem qh_L {a s : Nat} {F : Nat → Bool} {m : Int64} {k : gN → Option gN} (ha : a = 25 ∨ a = 28) (hm : MK F m) : ∀ j n h ν T Q tl, h + j = 50 → j < n → QI F s T Q h tl → TT a T ν → QQ tl Q ν → ∃ ν', f_X7_spread_L25 m a k n (nI tl) (nI h) ν = k ν' ∧ TT a (dst F s) ν' ∧ nEq (fun q => q = a ∨ q = 29) ν ν' := by
  intro j
  induction j with
  | zero =>
    intro n h ν T Q tl hd hn hq
    have := hq.tl
    have := hq.1
    omega
  | succ j ih =>
    intro n h ν T Q tl hd hn hq hT hQQ
    obtain ⟨n, rfl⟩ : ∃ m, n = m + 1 := ⟨n - 1, by omega⟩
    have htl := hq.tl
    have h1 := hq.1
    by_cases hh : tl ≤ h
    · refine ⟨ν, by rw [f_X7_spread_L25, if_pos (nI_le hh (by omega))], hT.cong (hq.fin hh), nEq.rf⟩
    · have hh' : h < tl := by omega
      have h49 : ¬ (49 : Int32) ≤ nI h := by rw [le_cn (c := 49) (k := 49) rfl (by omega) (by decide)]; omega
      rw [f_X7_spread_L25, if_neg (nI_ge hh' (by omega)), if_neg h49, if_pos (ib_in (by omega) (by decide)), nI_clamp (by omega), hQQ h hh', show (0 : Int32) = nI 0 from rfl]
      obtain ⟨ν1, T', Q', tl', e1, e2, e3, e4, e5⟩ := qd_L (k := fun z5_41 ν_42 => f_X7_spread_L25 m a k n z5_41 (nI h + 1) ν_42) ha hm (hq.2.2.1 h hh').1 4 FU 0 ν T Q tl rfl (by decide) hq hh' rfl hT hQQ (fun d' q => by omega)
      obtain ⟨ν', f1, f2, f3⟩ := ih n (h + 1) ν1 T' Q' tl' (by omega) (by omega) e2 e3 e4
      exact ⟨ν', by rw [e1, nI_1]; exact f1, f2, e5.tr f3⟩
theorem filli_L {b N : Nat} {x : Int32} {k : gN → Option gN} (hN : N < 2 ^ 31) : ∀ j n i ν, i + j = N → j < n → ∃ ν', f_J7_fill_53178_L5 b N x (nI N) k n (nI i) ν = k ν' ∧ (∀ q, i ≤ q → q < N → ν'.1 b q = x) ∧ (∀ q, q < i → ν'.1 b q = ν.1 b q) ∧ nEq (fun q => q = b) ν ν' := by
  intro j
  induction j with
  | zero =>
    intro n i ν hi hn
    obtain ⟨n, rfl⟩ : ∃ m, n = m + 1 := ⟨n - 1, by omega⟩
    exact ⟨ν, by rw [f_J7_fill_53178_L5, if_pos (nI_le (by omega) (by omega))], fun q _ _ => by omega, fun _ _ => rfl, nEq.rf⟩
  | succ j ih =>
    intro n i ν hi hn
    obtain ⟨n, rfl⟩ : ∃ m, n = m + 1 := ⟨n - 1, by omega⟩
    obtain ⟨ν', e1, e2, e3, e4⟩ := ih n (i + 1) (nWI ν b i x) (by omega) (by omega)
    refine ⟨ν', ?_, fun q h1 h2 => ?_, fun q h1 => ?_, (nEq.rf.wi (P := fun q => q = b) rfl).tr e4⟩
    · rw [f_J7_fill_53178_L5, if_neg (nI_ge (by omega) (by omega)), if_pos (ib_in (by omega) hN), nI_clamp (by omega), ql, nI_1, e1]
    · by_cases z : q = i
      · rw [z, e3 i (by omega), wi_eq]
      · exact e2 q (by omega) h2
    · rw [e3 q (by omega), wi_ne (by omega)]
theorem sp8 {a s : Nat} {F : Nat → Bool} {m : Int64} (ν : gN) (ha : a = 25 ∨ a = 28) (hm : MK F m) (hs : s < 49) : ∃ ν', f_X7_spread m (nI s) a ν = some ν' ∧ TT a (dst F s) ν' ∧ nEq (fun q => q = a ∨ q = 29) ν ν' := by
  obtain ⟨ν1, e1, e2, _, e4⟩ := filli_L (b := a) (N := 49) (x := 99) (k := fun ν_4 => some ν_4) (by decide) 49 FU 0 ν rfl (by decide)
  have hT : TT a (fun t => if t = s then 0 else 99) (nWI (nWI ν1 a s 0) 29 0 (nI s)) := fun t ht => by
    show _ = nI (if t = s then 0 else 99)
    rw [wi_ne (by omega)]
    by_cases z : t = s
    · rw [z, wi_eq, if_pos rfl]; rfl
    · rw [wi_ne (by omega), e2 t (Nat.zero_le _) ht, if_neg z]; rfl
  obtain ⟨ν', f1, f2, f3⟩ := qh_L (k := fun ν_43 => some ν_43) (F := F) (s := s) ha hm 50 FU 0 (nWI (nWI ν1 a s 0) 29 0 (nI s)) _ (fun _ => s) 1 rfl (by decide) (QI.in0 hs (fun t _ => rfl) rfl) hT (fun i hi => by
    have : i = 0 := by omega
    rw [this, wi_eq])
  refine ⟨ν', ?_, f2, (((e4.mono (Q := fun q => q = a ∨ q = 29) (fun q z => Or.inl z)).wi (Or.inl rfl)).wi (Or.inr rfl)).tr f3⟩
  rw [f_X7_spread, f_J7_fill_53178]
  rw [show f_J7_fill_53178_L5 a 49 99 (nI 49) (fun ν_4 => some ν_4) FU 0 ν = some ν1 from e1, Option.bind_some, if_pos (ib_in hs (by decide)), ql, if_pos (show inb 0 49 = true from rfl), ql, nI_clamp (by omega)]
  exact f1
