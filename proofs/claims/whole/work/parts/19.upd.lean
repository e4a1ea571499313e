/-! WRITES into the port, and what they make of the state -/
def pA (j i : Nat) (x : Int32) (S : pS) : pS := (S.1, fun a b => if a = j ∧ b = i then x else S.2.1 a b, S.2.2)
def pW (k : Nat) (x : Int32) (S : pS) : pS := (S.1, S.2.1, S.2.2.1, fun q => if q = k then x else S.2.2.2.1 q, S.2.2.2.2)
def pN (n : Nat) (S : pS) : pS := (n, S.2)
def pF (c : Nat) (b : Bool) (S : pS) : pS := (S.1, S.2.1, fun q => if q = c then b else S.2.2.1 q, S.2.2.2)
def pD (x : Int32) (S : pS) : pS := (S.1, S.2.1, S.2.2.1, S.2.2.2.1, x)
def zP (f : pS → pS) (Z : zS) : zS := (f Z.1, Z.2)
theorem RP.a {p j i : Nat} {x : Int32} {S : pS} {ν : gN} (h : RP p S ν) (hj : j < 6) (hi : i < 7) : RP p (pA j i x S) (nWI ν (p + 1 + j) i x) := by
  obtain ⟨h1, h2, h3, h4, h5⟩ := h
  refine ⟨by rw [wi_ne (by omega)]; exact h1, fun a ha b hb => ?_, h3, fun k hk => by rw [wi_ne (by omega)]; exact h4 k hk, by rw [wi_ne (by omega)]; exact h5⟩
  show _ = if a = j ∧ b = i then x else S.2.1 a b
  by_cases e : a = j ∧ b = i
  · rw [if_pos e, e.1, e.2, wi_eq]
  · rw [if_neg e, wi_ne (by omega)]; exact h2 a ha b hb
theorem RM.a {j i : Nat} {x : Int32} {S : pS} {ν : gN} (h : RM S ν) (hj : j < 6) (hi : i < 7) : RM (pA j i x S) (nWI ν (54 + j) i x) := by
  obtain ⟨h1, h2, h3, h4, h5⟩ := h
  refine ⟨by rw [wi_ne (by omega)]; exact h1, fun a ha b hb => ?_, fun i hi => by rw [wi_ne (by omega)]; exact h3 i hi, fun k hk => by rw [wi_ne (by omega)]; exact h4 k hk, by rw [wi_ne (by omega)]; exact h5⟩
  show _ = if a = j ∧ b = i then x else S.2.1 a b
  by_cases e : a = j ∧ b = i
  · rw [if_pos e, e.1, e.2, wi_eq]
  · rw [if_neg e, wi_ne (by omega)]; exact h2 a ha b hb
theorem RP.w {p k : Nat} {x : Int32} {S : pS} {ν : gN} (h : RP p S ν) (hk : k < 4) : RP p (pW k x S) (nWI ν p (8 + k) x) := by
  obtain ⟨h1, h2, h3, h4, h5⟩ := h
  refine ⟨by rw [wi_ne (by omega)]; exact h1, fun a ha b hb => by rw [wi_ne (by omega)]; exact h2 a ha b hb, h3, fun q hq => ?_, by rw [wi_ne (by omega)]; exact h5⟩
  show _ = if q = k then x else S.2.2.2.1 q
  by_cases e : q = k
  · rw [if_pos e, e, wi_eq]
  · rw [if_neg e, wi_ne (by omega)]; exact h4 q hq
theorem RM.w {k : Nat} {x : Int32} {S : pS} {ν : gN} (h : RM S ν) (hk : k < 4) : RM (pW k x S) (nWI ν 61 k x) := by
  obtain ⟨h1, h2, h3, h4, h5⟩ := h
  refine ⟨by rw [wi_ne (by omega)]; exact h1, fun a ha b hb => by rw [wi_ne (by omega)]; exact h2 a ha b hb, fun i hi => by rw [wi_ne (by omega)]; exact h3 i hi, fun q hq => ?_, by rw [wi_ne (by omega)]; exact h5⟩
  show _ = if q = k then x else S.2.2.2.1 q
  by_cases e : q = k
  · rw [if_pos e, e, wi_eq]
  · rw [if_neg e, wi_ne (by omega)]; exact h4 q hq
theorem RP.n {p n : Nat} {S : pS} {ν : gN} (h : RP p S ν) : RP p (pN n S) (nWI ν p 6 (nI n)) := by
  obtain ⟨h1, h2, h3, h4, h5⟩ := h
  exact ⟨wi_eq _ _ _ _, fun a ha b hb => by rw [wi_ne (by omega)]; exact h2 a ha b hb, h3, fun q hq => by rw [wi_ne (by omega)]; exact h4 q hq, by rw [wi_ne (by omega)]; exact h5⟩
theorem RM.n {n : Nat} {S : pS} {ν : gN} (h : RM S ν) : RM (pN n S) (nWI ν 53 0 (nI n)) := by
  obtain ⟨h1, h2, h3, h4, h5⟩ := h
  exact ⟨wi_eq _ _ _ _, fun a ha b hb => by rw [wi_ne (by omega)]; exact h2 a ha b hb, fun i hi => by rw [wi_ne (by omega)]; exact h3 i hi, fun q hq => by rw [wi_ne (by omega)]; exact h4 q hq, by rw [wi_ne (by omega)]; exact h5⟩
theorem RP.d {p : Nat} {x : Int32} {S : pS} {ν : gN} (h : RP p S ν) : RP p (pD x S) (nWI ν p 12 x) := by
  obtain ⟨h1, h2, h3, h4, h5⟩ := h
  exact ⟨by rw [wi_ne (by omega)]; exact h1, fun a ha b hb => by rw [wi_ne (by omega)]; exact h2 a ha b hb, h3, fun q hq => by rw [wi_ne (by omega)]; exact h4 q hq, wi_eq _ _ _ _⟩
theorem RM.d {x : Int32} {S : pS} {ν : gN} (h : RM S ν) : RM (pD x S) (nWI ν 53 9 x) := by
  obtain ⟨h1, h2, h3, h4, h5⟩ := h
  exact ⟨by rw [wi_ne (by omega)]; exact h1, fun a ha b hb => by rw [wi_ne (by omega)]; exact h2 a ha b hb, fun i hi => by rw [wi_ne (by omega)]; exact h3 i hi, fun q hq => by rw [wi_ne (by omega)]; exact h4 q hq, wi_eq _ _ _ _⟩
theorem RP.f {p c : Nat} {b : Bool} {m : Int64} {S : pS} {ν : gN} (h : RP p S ν) (hm : ∀ i, i < 64 → m.toBitVec.getLsbD i = (pF c b S).2.2.1 i) : RP p (pF c b S) (nWL ν p 7 m) := by
  obtain ⟨h1, h2, h3, h4, h5⟩ := h
  exact ⟨h1, h2, fun i hi => by rw [wl_eq]; exact hm i hi, h4, h5⟩
theorem RM.f {c : Nat} {b : Bool} {S : pS} {ν : gN} (h : RM S ν) (hc : c < 49) : RM (pF c b S) (nWI ν 60 c (if b then 1 else 0)) := by
  obtain ⟨h1, h2, h3, h4, h5⟩ := h
  refine ⟨by rw [wi_ne (by omega)]; exact h1, fun a ha b hb => by rw [wi_ne (by omega)]; exact h2 a ha b hb, fun i hi => ?_, fun q hq => by rw [wi_ne (by omega)]; exact h4 q hq, by rw [wi_ne (by omega)]; exact h5⟩
  show _ = if (if i = c then b else S.2.2.1 i) then _ else _
  by_cases e : i = c
  · rw [if_pos e, e, wi_eq]
  · rw [if_neg e, wi_ne (by omega)]; exact h3 i hi
theorem IC.a {j i : Nat} {x : Int32} {Z : zS} {ν : gN} (h : IC Z ν) (hj : j < 6) (hi : i < 7) : IC (zP (pA j i x) Z) (nWI ν (2 + j) i x) := h.port (h.1.a hj hi) (nEq.rf.wi (by omega))
theorem IM.a {j i : Nat} {x : Int32} {Z : zS} {ν : gN} (h : IM Z ν) (hj : j < 6) (hi : i < 7) : IM (zP (pA j i x) Z) (nWI ν (54 + j) i x) := by
  refine h.port (h.1.a hj hi) (nEq.rf.wi (by omega)) (fun b _ _ _ _ _ => wi_ne (by omega)) ?_
  rw [wi_ne (by omega)]
  exact h.2.2.2.2.2.2.1.imp id (fun q => ⟨q.1, fun t ht => by rw [wi_ne (by omega)]; exact q.2 t ht⟩)
theorem IC.w {k : Nat} {x : Int32} {Z : zS} {ν : gN} (h : IC Z ν) (hk : k < 4) : IC (zP (pW k x) Z) (nWI ν 1 (8 + k) x) := h.port (h.1.w hk) (nEq.rf.wi (by omega))
theorem IM.w {k : Nat} {x : Int32} {Z : zS} {ν : gN} (h : IM Z ν) (hk : k < 4) : IM (zP (pW k x) Z) (nWI ν 61 k x) := by
  refine h.port (h.1.w hk) (nEq.rf.wi (by omega)) (fun b _ _ _ _ _ => wi_ne (by omega)) ?_
  rw [wi_ne (by omega)]
  exact h.2.2.2.2.2.2.1.imp id (fun q => ⟨q.1, fun t ht => by rw [wi_ne (by omega)]; exact q.2 t ht⟩)
theorem IC.n {n : Nat} {Z : zS} {ν : gN} (h : IC Z ν) : IC (zP (pN n) Z) (nWI ν 1 6 (nI n)) := h.port h.1.n (nEq.rf.wi (by omega))
theorem IM.n {n : Nat} {Z : zS} {ν : gN} (h : IM Z ν) : IM (zP (pN n) Z) (nWI ν 53 0 (nI n)) := by
  refine h.port h.1.n (nEq.rf.wi (by omega)) (fun b _ _ _ _ _ => wi_ne (by omega)) ?_
  rw [wi_ne (by omega)]
  exact h.2.2.2.2.2.2.1.imp id (fun q => ⟨q.1, fun t ht => by rw [wi_ne (by omega)]; exact q.2 t ht⟩)
theorem IC.d {x : Int32} {Z : zS} {ν : gN} (h : IC Z ν) : IC (zP (pD x) Z) (nWI ν 1 12 x) := h.port h.1.d (nEq.rf.wi (by omega))
theorem IM.d {x : Int32} {Z : zS} {ν : gN} (h : IM Z ν) : IM (zP (pD x) Z) (nWI ν 53 9 x) := by
  refine h.port h.1.d (nEq.rf.wi (by omega)) (fun b _ _ _ _ _ => wi_ne (by omega)) ?_
  rw [wi_ne (by omega)]
  exact h.2.2.2.2.2.2.1.imp id (fun q => ⟨q.1, fun t ht => by rw [wi_ne (by omega)]; exact q.2 t ht⟩)
/-- putting or taking a fence -/
theorem pf_8 {c : Nat} {b : Bool} {Z : zS} {ν : gN} (h : IC Z ν) (hc : c < 49) : ∃ ν', f_X4_putFence 1 (nI c) (i01 b) ν = some ν' ∧ IC (zP (pF c b) Z) ν' ∧ nEq (fun q => q = 1) ν ν' := by
  have h3 := h.1.2.2.1
  cases b with
  | false =>
    refine ⟨_, by rw [f_X4_putFence, if_pos (show i01 false = 0 from rfl), ql], h.port (h.1.f (fun i hi => ?_)) (nEq.rf.wl (by omega)), nEq.rf.wl rfl⟩
    rw [bit_cl (by omega) hi, h3 i hi]
    show _ = if i = c then false else Z.1.2.2.1 i
    by_cases e : i = c <;> simp [e]
  | true =>
    refine ⟨_, by rw [f_X4_putFence, if_neg (show ¬ i01 true = 0 by decide), ql], h.port (h.1.f (fun i hi => ?_)) (nEq.rf.wl (by omega)), nEq.rf.wl rfl⟩
    rw [bit_or (by omega) hi, h3 i hi]
    show _ = if i = c then true else Z.1.2.2.1 i
    by_cases e : i = c <;> simp [e]
theorem RM.o {b : Nat} {x : Int32} {S : pS} {ν : gN} (h : RM S ν) (hb : b ≠ 0 ∧ b ≠ 9) : RM S (nWI ν 53 b x) := by
  obtain ⟨h1, h2, h3, h4, h5⟩ := h
  exact ⟨by rw [wi_ne (by omega)]; exact h1, fun a ha b hb => by rw [wi_ne (by omega)]; exact h2 a ha b hb, fun i hi => by rw [wi_ne (by omega)]; exact h3 i hi, fun q hq => by rw [wi_ne (by omega)]; exact h4 q hq, by rw [wi_ne (by omega)]; exact h5⟩
theorem pf_9 {c : Nat} {b : Bool} {Z : zS} {ν : gN} (h : IM Z ν) (hc : c < 49) : ∃ ν', f_X9_fenced (nI c) (i01 b) ν = some ν' ∧ IM (zP (pF c b) Z) ν' ∧ nEq (fun q => q = 60 ∨ q = 53) ν ν' := by
  refine ⟨_, by rw [f_X9_fenced, if_pos (ib_in hc (by decide)), if_pos (zb_i01 b), ql, ql, nI_clamp (by omega)]; exact rfl, h.port (S' := pF c b Z.1) ((h.1.f hc).o (by omega)) ((nEq.rf.wi (by omega)).wi (by omega)) (fun b _ _ _ _ _ => by rw [wi_ne (by omega), wi_ne (by omega)]) (Or.inl (wi_eq _ _ _ _)), (nEq.rf.wi (by omega)).wi (by omega)⟩
/-! shelves -/
theorem IC.shelf {Z : zS} {V' : (Nat → Int32) × (Nat → Nat) × (Nat → Nat → Int64)} {ν ν' : gN} (h : IC Z ν) (s : Nat) (hs : s < 8) (he : nEq (fun q => q = 37 + 2 * s ∨ q = 37 + 2 * s + 1) ν ν') (ho : ∀ q, q ≠ s → V'.1 q = Z.2.1.1 q ∧ V'.2.1 q = Z.2.1.2.1 q ∧ ∀ i, V'.2.2 q i = Z.2.1.2.2 q i) (hn : ν'.1 (37 + 2 * s) 1 = V'.1 s ∧ (nI 100 ≤ V'.1 s → ν'.1 (37 + 2 * s) 2 = nI (V'.2.1 s) ∧ ∀ i, i < 160 → ν'.2 (37 + 2 * s + 1) i = V'.2.2 s i)) : IC (Z.1, V', Z.2.2) ν' := by
  obtain ⟨h1, h2, h3, h4, h5, h6⟩ := h
  refine ⟨h1.eq he (fun a _ _ => by omega), fun q hq => ?_, fun k hk => ((he 23 (by omega)).1 k).trans (h3 k hk), ((he 0 (by omega)).1 10).trans h4, ⟨((he 35 (by omega)).1 1).trans h5.1, fun i hi ht => ((he 36 (by omega)).1 i).trans (h5.2 i hi ht)⟩, ?_⟩
  · by_cases e : q = s
    · subst e; exact hn
    · have a1 := he (37 + 2 * q) (by omega)
      have a2 := he (37 + 2 * q + 1) (by omega)
      obtain ⟨b1, b2⟩ := h2 q hq
      obtain ⟨o1, o2, o3⟩ := ho q e
      refine ⟨((a1.1 1).trans b1).trans o1.symm, fun z => ?_⟩
      have z' : nI 100 ≤ Z.2.1.1 q := by rw [← o1]; exact z
      exact ⟨((a1.1 2).trans (b2 z').1).trans (by rw [show V'.2.1 q = _ from o2]), fun i hi => ((a2.2 i).trans ((b2 z').2 i hi)).trans (o3 i).symm⟩
  · show (match Z.2.2.2.2.2 with | none => _ | some S => _)
    cases hz : Z.2.2.2.2.2 with
    | none => simp only [hz] at h6 ⊢; exact ((he 0 (by omega)).1 9).trans h6
    | some S => simp only [hz] at h6 ⊢; exact ⟨((he 0 (by omega)).1 9).trans h6.1, h6.2.eq he (fun a h1 h2 => by omega)⟩
theorem IM.shelf {Z : zS} {V' : (Nat → Int32) × (Nat → Nat) × (Nat → Nat → Int64)} {ν ν' : gN} (h : IM Z ν) (he : nEq (fun q => 62 ≤ q ∧ q ≤ 64) ν ν') (hn : ∀ s, s < 8 → ν'.1 62 s = V'.1 s ∧ (nI 100 ≤ V'.1 s → ν'.1 63 s = nI (V'.2.1 s) ∧ ∀ i, i < 160 → ν'.2 64 (160 * s + i) = V'.2.2 s i)) : IM (Z.1, V', Z.2.2) ν' := by
  obtain ⟨h1, h2, h3, h4, h5, h6, h7, h8⟩ := h
  have n53 := he 53 (by omega)
  refine ⟨h1.eq he (fun a _ _ => by omega), hn, fun k hk => ((he 68 (by omega)).1 k).trans (h3 k hk), (n53.1 16).trans h4, ⟨(n53.1 18).trans h5.1, fun i hi ht => ((he 67 (by omega)).1 i).trans (h5.2 i hi ht)⟩, ?_, ?_, (n53.1 28).trans h8⟩
  · show (match Z.2.2.2.2.2 with | none => _ | some S => _)
    cases hz : Z.2.2.2.2.2 with
    | none => simp only [hz] at h6 ⊢; exact (n53.1 21).trans h6
    | some S => simp only [hz] at h6 ⊢; exact ⟨(n53.1 21).trans h6.1, h6.2.1.eq he (by omega), (n53.1 23).trans h6.2.2⟩
  · rcases h7 with h7 | ⟨h7, h7'⟩
    · exact Or.inl ((n53.1 24).trans h7)
    · exact Or.inr ⟨(n53.1 24).trans h7, fun t ht => ((he 70 (by omega)).1 t).trans (h7' t ht)⟩
/-! between, as a truth -/
def bt (x c d : Int32) : Bool := decide (¬ x < c ∧ ¬ d < x)
theorem bw8 (x c d : Int32) (ν : gN) : f_X8_isBetween x c d ν = some (i01 (bt x c d), ν) := by
  rw [f_X8_isBetween]
  by_cases h1 : x < c <;> by_cases h2 : d < x <;> simp [h1, h2, bt, i01]
theorem bw9 (x c d : Int32) (ν : gN) : f_X9_within x c d ν = some (i01 (bt x c d), ν) := by
  rw [f_X9_within]
  by_cases h1 : x < c <;> by_cases h2 : d < x <;> simp [h1, h2, bt, i01]
theorem i01_0 (b : Bool) : (i01 b = 0) = (b = false) := by cases b <;> decide
theorem i01_1 : i01 true = 1 := rfl
theorem i01_f : i01 false = 0 := rfl
theorem bt_of {x : Int32} {a b : Nat} (ha : a < 2 ^ 31) (hb : b < 2 ^ 31 - 1) (h : bt x (nI a) (nI b) = true) : ∃ k, a ≤ k ∧ k ≤ b ∧ x = nI k := by
  have h' := of_decide_eq_true h
  rcases rng x (b + 1) (by omega) with ⟨k, hk, rfl⟩ | hx
  · refine ⟨k, ?_, by omega, rfl⟩
    by_cases q : a ≤ k
    · exact q
    · exact absurd ((nI_ltI (by omega) (by omega)).2 (show k < a by omega)) h'.1
  · exfalso
    rcases out_of (by omega) hx with z | z
    · refine h'.1 ?_
      rw [Int32.lt_iff_toInt_lt] at z ⊢
      rw [nI_toInt ha]
      have : (0 : Int32).toInt = 0 := rfl
      omega
    · exact h'.2 z
