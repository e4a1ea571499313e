/-! WHAT A STATE IS: pS a port (count, six arrays, fences, seats scent yards votes, seed); zS all that both sides hold -/
abbrev pS : Type := Nat × (Nat → Nat → Int32) × (Nat → Bool) × (Nat → Int32) × Int32
abbrev zS : Type := pS × ((Nat → Int32) × (Nat → Nat) × (Nat → Nat → Int64)) × (Nat → Int32) × Int32 × (Nat × (Nat → Int32)) × Option pS
def vP (S : pS) (i : Nat) : Prop := (∃ k, k ≤ 6 ∧ S.2.1 0 i = nI k) ∧ (∃ k, k ≤ 9 ∧ S.2.1 1 i = nI k) ∧ (∃ k, k ≤ 20 ∧ S.2.1 2 i = nI k) ∧ (∃ k, 1 ≤ k ∧ k ≤ 4 ∧ S.2.1 3 i = nI k) ∧ (∃ k, k < 49 ∧ S.2.1 4 i = nI k ∧ S.2.2.1 k = false)
def okP (S : pS) : Prop := S.1 ≤ 7 ∧ (∀ i, i < S.1 → vP S i) ∧ S.2.2.1 24 = false ∧ (∀ i, 49 ≤ i → S.2.2.1 i = false) ∧ (∃ k, 1 ≤ k ∧ k ≤ 4 ∧ S.2.2.2.1 0 = nI k) ∧ (∃ k, k ≤ 40 ∧ S.2.2.2.1 1 = nI k)
def RP (p : Nat) (S : pS) (ν : gN) : Prop := ν.1 p 6 = nI S.1 ∧ (∀ j, j < 6 → ∀ i, i < 7 → ν.1 (p + 1 + j) i = S.2.1 j i) ∧ (∀ i, i < 64 → (ν.2 p 7).toBitVec.getLsbD i = S.2.2.1 i) ∧ (∀ k, k < 4 → ν.1 p (8 + k) = S.2.2.2.1 k) ∧ ν.1 p 12 = S.2.2.2.2
def RM (S : pS) (ν : gN) : Prop := ν.1 53 0 = nI S.1 ∧ (∀ j, j < 6 → ∀ i, i < 7 → ν.1 (54 + j) i = S.2.1 j i) ∧ (∀ i, i < 49 → ν.1 60 i = if S.2.2.1 i then 1 else 0) ∧ (∀ k, k < 4 → ν.1 61 k = S.2.2.2.1 k) ∧ ν.1 53 9 = S.2.2.2.2
def RK (b : Nat) (S : pS) (ν : gN) : Prop := (∀ j, j < 6 → ∀ i, i < 7 → ν.1 b (7 * j + i) = S.2.1 j i) ∧ (∀ i, i < 49 → ν.1 b (42 + i) = if S.2.2.1 i then 1 else 0) ∧ (∀ k, k < 4 → ν.1 b (91 + k) = S.2.2.2.1 k) ∧ ν.1 b 95 = nI S.1
/-! the ways -/
def bsd (u d : Nat) : Nat := if d = 0 then (if u < 7 then 99 else u - 7) else if d = 1 then (if u % 7 = 0 then 99 else u - 1) else if d = 2 then (if u % 7 = 6 then 99 else u + 1) else if 42 ≤ u then 99 else u + 7
def nbr (u t : Nat) : Prop := ∃ d, d < 4 ∧ bsd u d = t
noncomputable def lev (F : Nat → Bool) (s : Nat) : Nat → Nat → Nat
  | 0, t => if t = s then 0 else 99
  | n + 1, t => if lev F s n t ≠ 99 then lev F s n t else @ite Nat (F t = false ∧ ∃ u, u < 49 ∧ nbr u t ∧ lev F s n u = n) (Classical.propDecidable _) (n + 1) 99
noncomputable def dst (F : Nat → Bool) (s t : Nat) : Nat := lev F s 49 t
def shOK (Z : zS) (s : Nat) : Prop := Z.2.1.1 s = -1 ∨ (∃ q, q < Z.1.1 ∧ Z.2.1.1 s = nI q) ∨ (∃ t, t < 4 ∧ Z.2.1.1 s = nI (100 + t) ∧ Z.2.1.2.1 s ≤ 160)
def okZ (Z : zS) : Prop := okP Z.1 ∧ (∀ s, s < 8 → shOK Z s) ∧ (∀ S, Z.2.2.2.2.2 = some S → okP S) ∧ Z.2.2.2.2.1.1 ≤ 100
def IC (Z : zS) (ν : gN) : Prop := RP 1 Z.1 ν ∧ (∀ s, s < 8 → ν.1 (37 + 2 * s) 1 = Z.2.1.1 s ∧ (nI 100 ≤ Z.2.1.1 s → ν.1 (37 + 2 * s) 2 = nI (Z.2.1.2.1 s) ∧ ∀ i, i < 160 → ν.2 (37 + 2 * s + 1) i = Z.2.1.2.2 s i)) ∧ (∀ k, k < 8 → ν.1 23 k = Z.2.2.1 k) ∧ ν.1 0 10 = Z.2.2.2.1 ∧ (ν.1 35 1 = nI Z.2.2.2.2.1.1 ∧ ∀ i, i < 20 → i < Z.2.2.2.2.1.1 → ν.1 36 i = Z.2.2.2.2.1.2 i) ∧ (match Z.2.2.2.2.2 with | none => ν.1 0 9 = 0 | some S => ν.1 0 9 = 1 ∧ RP 15 S ν)
def IM (Z : zS) (ν : gN) : Prop := RM Z.1 ν ∧ (∀ s, s < 8 → ν.1 62 s = Z.2.1.1 s ∧ (nI 100 ≤ Z.2.1.1 s → ν.1 63 s = nI (Z.2.1.2.1 s) ∧ ∀ i, i < 160 → ν.2 64 (160 * s + i) = Z.2.1.2.2 s i)) ∧ (∀ k, k < 8 → ν.1 68 k = Z.2.2.1 k) ∧ ν.1 53 16 = Z.2.2.2.1 ∧ (ν.1 53 18 = nI Z.2.2.2.2.1.1 ∧ ∀ i, i < 20 → i < Z.2.2.2.2.1.1 → ν.1 67 i = Z.2.2.2.2.1.2 i) ∧ (match Z.2.2.2.2.2 with | none => ν.1 53 21 = 0 | some S => ν.1 53 21 = 1 ∧ RK 69 S ν ∧ ν.1 53 23 = S.2.2.2.2) ∧ (ν.1 53 24 = 0 ∨ (ν.1 53 24 = 1 ∧ ∀ t, t < 49 → ν.1 70 t = nI (dst Z.1.2.2.1 24 t))) ∧ ν.1 53 28 = -1
/-- the cells that hold nothing from call to call -/
def scC (a : Nat) : Prop := (8 ≤ a ∧ a < 15) ∨ (24 ≤ a ∧ a < 35) ∨ 53 ≤ a
def scM (a : Nat) : Prop := a < 53 ∨ a = 65 ∨ a = 66 ∨ a = 71 ∨ a = 72
theorem RP.eq {p : Nat} {S : pS} {ν ν' : gN} {P : Nat → Prop} (h : RP p S ν) (he : nEq P ν ν') (hp : ∀ a, p ≤ a → a < p + 7 → ¬ P a) : RP p S ν' := by
  obtain ⟨h1, h2, h3, h4, h5⟩ := h
  have e0 := he p (hp p (Nat.le_refl _) (by omega))
  refine ⟨(e0.1 6).trans h1, fun j hj i hi => ?_, fun i hi => ?_, fun k hk => (e0.1 _).trans (h4 k hk), (e0.1 12).trans h5⟩
  · exact ((he (p + 1 + j) (hp _ (by omega) (by omega))).1 i).trans (h2 j hj i hi)
  · rw [e0.2 7]; exact h3 i hi
theorem RM.eq {S : pS} {ν ν' : gN} {P : Nat → Prop} (h : RM S ν) (he : nEq P ν ν') (hp : ∀ a, 53 ≤ a → a < 62 → ¬ P a) : RM S ν' := by
  obtain ⟨h1, h2, h3, h4, h5⟩ := h
  have e0 := he 53 (hp 53 (by omega) (by omega))
  refine ⟨(e0.1 0).trans h1, fun j hj i hi => ?_, fun i hi => ?_, fun k hk => ?_, (e0.1 9).trans h5⟩
  · exact ((he (54 + j) (hp _ (by omega) (by omega))).1 i).trans (h2 j hj i hi)
  · exact ((he 60 (hp _ (by omega) (by omega))).1 i).trans (h3 i hi)
  · exact ((he 61 (hp _ (by omega) (by omega))).1 k).trans (h4 k hk)
theorem RK.eq {b : Nat} {S : pS} {ν ν' : gN} {P : Nat → Prop} (h : RK b S ν) (he : nEq P ν ν') (hp : ¬ P b) : RK b S ν' := by
  obtain ⟨h1, h2, h3, h4⟩ := h
  have e0 := he b hp
  exact ⟨fun j hj i hi => (e0.1 _).trans (h1 j hj i hi), fun i hi => (e0.1 _).trans (h2 i hi), fun k hk => (e0.1 _).trans (h3 k hk), (e0.1 _).trans h4⟩
theorem IC.eq {Z : zS} {ν ν' : gN} (h : IC Z ν) (he : nEq scC ν ν') : IC Z ν' := by
  obtain ⟨h1, h2, h3, h4, h5, h6⟩ := h
  have n0 := he 0 (by unfold scC; omega)
  have n23 := he 23 (by unfold scC; omega)
  have n35 := he 35 (by unfold scC; omega)
  have n36 := he 36 (by unfold scC; omega)
  refine ⟨h1.eq he (fun a _ _ => by unfold scC; omega), fun s hs => ?_, fun k hk => (n23.1 k).trans (h3 k hk), (n0.1 10).trans h4, ⟨(n35.1 1).trans h5.1, fun i hi ht => (n36.1 i).trans (h5.2 i hi ht)⟩, ?_⟩
  · have a1 := he (37 + 2 * s) (by unfold scC; omega)
    have a2 := he (37 + 2 * s + 1) (by unfold scC; omega)
    obtain ⟨b1, b2⟩ := h2 s hs
    exact ⟨(a1.1 1).trans b1, fun z => ⟨(a1.1 2).trans (b2 z).1, fun i hi => (a2.2 i).trans ((b2 z).2 i hi)⟩⟩
  · cases hz : Z.2.2.2.2.2 with
    | none => simp only [hz] at h6 ⊢; exact (n0.1 9).trans h6
    | some S => simp only [hz] at h6 ⊢; exact ⟨(n0.1 9).trans h6.1, h6.2.eq he (fun a _ _ => by unfold scC; omega)⟩
theorem IM.eq {Z : zS} {ν ν' : gN} (h : IM Z ν) (he : nEq scM ν ν') : IM Z ν' := by
  obtain ⟨h1, h2, h3, h4, h5, h6, h7, h8⟩ := h
  have n53 := he 53 (by unfold scM; omega)
  have n62 := he 62 (by unfold scM; omega)
  have n63 := he 63 (by unfold scM; omega)
  have n64 := he 64 (by unfold scM; omega)
  have n67 := he 67 (by unfold scM; omega)
  have n68 := he 68 (by unfold scM; omega)
  have n70 := he 70 (by unfold scM; omega)
  refine ⟨h1.eq he (fun a _ _ => by unfold scM; omega), fun s hs => ?_, fun k hk => (n68.1 k).trans (h3 k hk), (n53.1 16).trans h4, ⟨(n53.1 18).trans h5.1, fun i hi ht => (n67.1 i).trans (h5.2 i hi ht)⟩, ?_, ?_, (n53.1 28).trans h8⟩
  · obtain ⟨b1, b2⟩ := h2 s hs
    exact ⟨(n62.1 s).trans b1, fun z => ⟨(n63.1 s).trans (b2 z).1, fun i hi => (n64.2 _).trans ((b2 z).2 i hi)⟩⟩
  · cases hz : Z.2.2.2.2.2 with
    | none => simp only [hz] at h6 ⊢; exact (n53.1 21).trans h6
    | some S => simp only [hz] at h6 ⊢; exact ⟨(n53.1 21).trans h6.1, h6.2.1.eq he (by unfold scM; omega), (n53.1 23).trans h6.2.2⟩
  · rcases h7 with h7 | ⟨h7, h7'⟩
    · exact Or.inl ((n53.1 24).trans h7)
    · exact Or.inr ⟨(n53.1 24).trans h7, fun t ht => (n70.1 t).trans (h7' t ht)⟩
/-- a call answers a and makes Z' of Z -/
def dC (f : gN → Option (Int32 × gN)) (Z : zS) (a : Int32) (Z' : zS) : Prop := ∀ ν, IC Z ν → ∃ ν', f ν = some (a, ν') ∧ IC Z' ν' ∧ nEq (fun q => q < 53) ν ν'
def dM (f : gN → Option (Int32 × gN)) (Z : zS) (a : Int32) (Z' : zS) : Prop := ∀ ν, IM Z ν → ∃ ν', f ν = some (a, ν') ∧ IM Z' ν' ∧ nEq (fun q => 53 ≤ q) ν ν'
def both (f g : gN → Option (Int32 × gN)) (Z : zS) : Prop := ∃ a Z', okZ Z' ∧ dC f Z a Z' ∧ dM g Z a Z'
theorem IM.cls {Z : zS} {ν ν' : gN} (h : IM Z ν) (he : nEq (fun q => q < 53) ν ν') : IM Z ν' := h.eq (he.mono (fun a ha => Or.inl ha))
theorem IC.mdl {Z : zS} {ν ν' : gN} (h : IC Z ν) (he : nEq (fun q => 53 ≤ q) ν ν') : IC Z ν' := h.eq (he.mono (fun a ha => Or.inr (Or.inr ha)))
/-- the refusal k is counted -/
def zR (k : Nat) (Z : zS) : zS := (Z.1, Z.2.1, fun q => if q = k then Z.2.2.1 q + 1 else Z.2.2.1 q, Z.2.2.2)
theorem okZ.zR {Z : zS} (h : okZ Z) (k : Nat) : okZ (zR k Z) := h
theorem IC.r8 {Z : zS} {ν : gN} {k : Nat} (h : IC Z ν) (hk : k < 8) : IC (zR k Z) (R8 k ν) := by
  obtain ⟨h1, h2, h3, h4, h5, h6⟩ := h
  have he : nEq (fun q => q = 23) ν (R8 k ν) := nEq.rf.wi rfl
  have h0 : IC Z (nWI ν 23 k (ν.1 23 k)) := by
    have e : nWI ν 23 k (ν.1 23 k) = ν := by
      refine Prod.ext (funext fun a => funext fun b => ?_) rfl
      show (if a = 23 ∧ b = k then ν.1 23 k else ν.1 a b) = _
      split
      · next h => rw [h.1, h.2]
      · rfl
    rw [e]; exact ⟨h1, h2, h3, h4, h5, h6⟩
  refine ⟨h1.eq he (fun a h1 h2 => by omega), fun s hs => ?_, fun q hq => ?_, ((he 0 (by decide)).1 10).trans h4, ⟨((he 35 (by decide)).1 1).trans h5.1, fun i hi ht => ((he 36 (by decide)).1 i).trans (h5.2 i hi ht)⟩, ?_⟩
  · have a1 := he (37 + 2 * s) (by omega)
    have a2 := he (37 + 2 * s + 1) (by omega)
    obtain ⟨b1, b2⟩ := h2 s hs
    exact ⟨(a1.1 1).trans b1, fun z => ⟨(a1.1 2).trans (b2 z).1, fun i hi => (a2.2 i).trans ((b2 z).2 i hi)⟩⟩
  · show (nWI ν 23 k (ν.1 23 k + 1)).1 23 q = if q = k then Z.2.2.1 q + 1 else Z.2.2.1 q
    by_cases e : q = k
    · subst e
      rw [wi_eq, if_pos rfl, h3 q hq]
    · rw [wi_ne (Or.inr e), if_neg e, h3 q hq]
  · show (match Z.2.2.2.2.2 with | none => _ | some S => _)
    cases hz : Z.2.2.2.2.2 with
    | none => simp only [hz] at h6 ⊢; exact ((he 0 (by decide)).1 9).trans h6
    | some S => simp only [hz] at h6 ⊢; exact ⟨((he 0 (by decide)).1 9).trans h6.1, h6.2.eq he (fun a h1 h2 => by omega)⟩
theorem IM.r9 {Z : zS} {ν : gN} {k : Nat} (h : IM Z ν) (hk : k < 8) : IM (zR k Z) (R9 k ν) := by
  obtain ⟨h1, h2, h3, h4, h5, h6, h7, h8⟩ := h
  have he : nEq (fun q => q = 68) ν (R9 k ν) := nEq.rf.wi rfl
  have n53 := he 53 (by decide)
  refine ⟨h1.eq he (fun a h1 h2 => by omega), fun s hs => ?_, fun q hq => ?_, (n53.1 16).trans h4, ⟨(n53.1 18).trans h5.1, fun i hi ht => ((he 67 (by decide)).1 i).trans (h5.2 i hi ht)⟩, ?_, ?_, (n53.1 28).trans h8⟩
  · obtain ⟨b1, b2⟩ := h2 s hs
    exact ⟨((he 62 (by decide)).1 s).trans b1, fun z => ⟨((he 63 (by decide)).1 s).trans (b2 z).1, fun i hi => ((he 64 (by decide)).2 _).trans ((b2 z).2 i hi)⟩⟩
  · show (nWI ν 68 k (ν.1 68 k + 1)).1 68 q = if q = k then Z.2.2.1 q + 1 else Z.2.2.1 q
    by_cases e : q = k
    · subst e
      rw [wi_eq, if_pos rfl, h3 q hq]
    · rw [wi_ne (Or.inr e), if_neg e, h3 q hq]
  · show (match Z.2.2.2.2.2 with | none => _ | some S => _)
    cases hz : Z.2.2.2.2.2 with
    | none => simp only [hz] at h6 ⊢; exact (n53.1 21).trans h6
    | some S => simp only [hz] at h6 ⊢; exact ⟨(n53.1 21).trans h6.1, h6.2.1.eq he (by decide), (n53.1 23).trans h6.2.2⟩
  · show _ ∨ _
    rcases h7 with h7 | ⟨h7, h7'⟩
    · exact Or.inl ((n53.1 24).trans h7)
    · exact Or.inr ⟨(n53.1 24).trans h7, fun t ht => ((he 70 (by decide)).1 t).trans (h7' t ht)⟩
theorem both_no {f g : gN → Option (Int32 × gN)} {Z : zS} {a : Int32} (k : Nat) (hk : k < 8) (hZ : okZ Z) (hf : ∀ ν, IC Z ν → f ν = some (a, R8 k ν)) (hg : ∀ ν, IM Z ν → g ν = some (a, R9 k ν)) : both f g Z :=
  ⟨a, zR k Z, hZ.zR k, fun ν h => ⟨_, hf ν h, h.r8 hk, nEq.rf.wi (by decide)⟩, fun ν h => ⟨_, hg ν h, h.r9 hk, nEq.rf.wi (by decide)⟩⟩
theorem both_rd {f g : gN → Option (Int32 × gN)} {Z : zS} {a : Int32} (hZ : okZ Z) (hf : ∀ ν, IC Z ν → f ν = some (a, ν)) (hg : ∀ ν, IM Z ν → g ν = some (a, ν)) : both f g Z :=
  ⟨a, Z, hZ, fun ν h => ⟨_, hf ν h, h, nEq.rf⟩, fun ν h => ⟨_, hg ν h, h, nEq.rf⟩⟩
theorem IC.port {Z : zS} {S' : pS} {ν ν' : gN} (h : IC Z ν) (hS : RP 1 S' ν') (he : nEq (fun q => 1 ≤ q ∧ q < 15 ∨ 24 ≤ q ∧ q < 35 ∨ 53 ≤ q) ν ν') : IC (S', Z.2) ν' := by
  obtain ⟨h1, h2, h3, h4, h5, h6⟩ := h
  refine ⟨hS, fun s hs => ?_, fun k hk => ((he 23 (by omega)).1 k).trans (h3 k hk), ((he 0 (by omega)).1 10).trans h4, ⟨((he 35 (by omega)).1 1).trans h5.1, fun i hi ht => ((he 36 (by omega)).1 i).trans (h5.2 i hi ht)⟩, ?_⟩
  · have a1 := he (37 + 2 * s) (by omega)
    have a2 := he (37 + 2 * s + 1) (by omega)
    obtain ⟨b1, b2⟩ := h2 s hs
    exact ⟨(a1.1 1).trans b1, fun z => ⟨(a1.1 2).trans (b2 z).1, fun i hi => (a2.2 i).trans ((b2 z).2 i hi)⟩⟩
  · show (match Z.2.2.2.2.2 with | none => _ | some S => _)
    cases hz : Z.2.2.2.2.2 with
    | none => simp only [hz] at h6 ⊢; exact ((he 0 (by omega)).1 9).trans h6
    | some S => simp only [hz] at h6 ⊢; exact ⟨((he 0 (by omega)).1 9).trans h6.1, h6.2.eq he (fun a h1 h2 => by omega)⟩
theorem IM.port {Z : zS} {S' : pS} {ν ν' : gN} (h : IM Z ν) (hS : RM S' ν') (he : nEq (fun q => q < 62 ∨ q = 65 ∨ q = 66 ∨ 70 ≤ q) ν ν') (h53 : ∀ b, b ≠ 0 → b ≠ 9 → b ≠ 13 → b ≠ 14 → b ≠ 24 → ν'.1 53 b = ν.1 53 b) (hf : ν'.1 53 24 = 0 ∨ (ν'.1 53 24 = 1 ∧ ∀ t, t < 49 → ν'.1 70 t = nI (dst S'.2.2.1 24 t))) : IM (S', Z.2) ν' := by
  obtain ⟨h1, h2, h3, h4, h5, h6, h7, h8⟩ := h
  refine ⟨hS, fun s hs => ?_, fun q hq => ((he 68 (by omega)).1 q).trans (h3 q hq), (h53 16 (by omega) (by omega) (by omega) (by omega) (by omega)).trans h4, ⟨(h53 18 (by omega) (by omega) (by omega) (by omega) (by omega)).trans h5.1, fun i hi ht => ((he 67 (by omega)).1 i).trans (h5.2 i hi ht)⟩, ?_, hf, (h53 28 (by omega) (by omega) (by omega) (by omega) (by omega)).trans h8⟩
  · obtain ⟨b1, b2⟩ := h2 s hs
    exact ⟨((he 62 (by omega)).1 s).trans b1, fun z => ⟨((he 63 (by omega)).1 s).trans (b2 z).1, fun i hi => ((he 64 (by omega)).2 _).trans ((b2 z).2 i hi)⟩⟩
  · show (match Z.2.2.2.2.2 with | none => _ | some S => _)
    cases hz : Z.2.2.2.2.2 with
    | none => simp only [hz] at h6 ⊢; exact (h53 21 (by omega) (by omega) (by omega) (by omega) (by omega)).trans h6
    | some S => simp only [hz] at h6 ⊢; exact ⟨(h53 21 (by omega) (by omega) (by omega) (by omega) (by omega)).trans h6.1, h6.2.1.eq he (by omega), (h53 23 (by omega) (by omega) (by omega) (by omega) (by omega)).trans h6.2.2⟩
