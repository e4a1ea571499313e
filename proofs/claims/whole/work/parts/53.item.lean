/-! AN ITEM of a text, on both sides -/
theorem FC.meq {S : pS} {ν ν' : gN} {P : Nat → Nat → Prop} (h : FC S ν) (he : mEq P ν ν') (hp : ∀ a b, (54 ≤ a ∧ a < 62) ∨ a = 70 ∨ (a = 53 ∧ (b = 0 ∨ b = 9 ∨ b = 24)) → ¬ P a b) : FC S ν' := by
  refine ⟨h.1.meq he (fun a b h1 h2 => hp a b (Or.inl ⟨h1, h2⟩)) (hp 53 0 (by omega)) (hp 53 9 (by omega)), ?_⟩
  rw [(he 53 24 (hp 53 24 (by omega))).1]
  exact h.2.imp id (fun z => ⟨z.1, fun t ht => ((he 70 t (hp 70 t (by omega))).1).trans (z.2 t ht)⟩)
def iP (a b : Nat) : Prop := (54 ≤ a ∧ a < 62) ∨ a = 65 ∨ (a = 53 ∧ (b = 0 ∨ b = 14 ∨ b = 24))
def wE (a b : Nat) : Prop := a = 53 ∧ b = 14
theorem wE.i {a b : Nat} (h : wE a b) : iP a b := by unfold wE at h; unfold iP; omega
theorem nP.i {k a b : Nat} (h : nP k a b) : iP a b := by unfold nP at h; unfold iP; omega
theorem FC.w {S : pS} {ν ν' : gN} (h : FC S ν) (he : mEq wE ν ν') : FC S ν' := h.meq he (fun a b z q => by unfold wE at q; omega)
theorem FC.np {S : pS} {ν ν' : gN} {k : Nat} (h : FC S ν) (he : mEq (nP k) ν ν') : FC S ν' := h.meq he (fun a b z q => by unfold nP at q; omega)
/-- what an item comes to: whether it stands, the port then, the place or the fault -/
def IT (l : Nat) (v : Nat → Int32) (s : Nat) (S : pS) (p : Nat) (o : Bool × pS × Nat) : Prop :=
  (∀ ν, RP 8 S ν → RD l v p ν → ν.1 33 4 = -1 → ∃ ν', f_X5_readItem 8 ν = some ν' ∧ nEq (fun q => (8 ≤ q ∧ q < 15) ∨ q = 33) ν ν' ∧ (if o.1 = true then ν'.1 33 4 = -1 ∧ RP 8 o.2.1 ν' ∧ RD l v o.2.2 ν' else ν'.1 33 4 = nI o.2.2)) ∧
  (∀ ν, FC S ν → RE s l v p ν → ∃ ν', f_X9_item ν = some (i01 o.1, ν') ∧ FC o.2.1 ν' ∧ RE s l v o.2.2 ν' ∧ mEq iP ν ν') ∧
  (okP o.2.1 ∧ S.1 ≤ o.2.1.1 ∧ o.2.1.2.2.2.2 = S.2.2.2.2 ∧ (o.1 = true → p < o.2.2 ∧ o.2.2 ≤ l) ∧ o.2.2 ≤ 400)
theorem IT_no {l s p x : Nat} {v : Nat → Int32} {S : pS} (hS : okP S) (hx : x ≤ 400) (h8 : ∀ ν, RP 8 S ν → RD l v p ν → ν.1 33 4 = -1 → ∃ ν', f_X5_readItem 8 ν = some ν' ∧ nEq (fun q => (8 ≤ q ∧ q < 15) ∨ q = 33) ν ν' ∧ ν'.1 33 4 = nI x) (h9 : ∀ ν, FC S ν → RE s l v p ν → ∃ ν', f_X9_item ν = some (0, ν') ∧ FC S ν' ∧ RE s l v x ν' ∧ mEq iP ν ν') : ∃ o, IT l v s S p o :=
  ⟨(false, S, x), h8, h9, hS, Nat.le_refl _, rfl, fun q => absurd q (by show ¬ false = true; decide), hx⟩
theorem e33 {ν ν' : gN} (h : nEq (fun q => q = 33) ν ν') : nEq (fun q => (8 ≤ q ∧ q < 15) ∨ q = 33) ν ν' := h.mono (fun a z => Or.inr z)
/-! the class: the head of an item -/
theorem ri_no {l p : Nat} {v : Nat → Int32} {ν : gN} (h : RD l v p ν) (hl : l ≤ 160) (hp : p < 700) (hw : wdN l v p = 5) (hx : wdX l v p < 20) : f_X5_readItem 8 ν = some (nWI ν 33 4 (nI (p + wdX l v p))) := by
  rw [f_X5_readItem, rw8 h hl (by omega), if_pos hw, Option.bind_some, if_neg (show ¬ (-1 : Int32) = 2 by decide), if_neg (show ¬ (nWI ν 33 4 (nI (p + wdX l v p))).1 33 4 = -1 from by rw [wi_eq]; exact nI_nm1 (by omega))]
theorem ri_0 {l p : Nat} {v : Nat → Int32} {ν : gN} (h : RD l v p ν) (h5 : ν.1 33 4 = -1) (hl : l ≤ 160) (hp : p < 700) (hw : wdN l v p = 0) : f_X5_readItem 8 ν = f_X5_readFence 8 (nWI ν 33 2 (nI (p + 5))) := by
  rw [f_X5_readItem, rw8 h hl (by omega), hw, if_neg (by decide), Option.bind_some, if_neg (show ¬ nI 0 = 2 by decide), if_pos (show (nWI ν 33 2 (nI (p + wl 0))).1 33 4 = -1 from by rw [wi_ne (by omega)]; exact h5), if_pos (show nI 0 = 0 from rfl)]
  show (f_X5_readFence 8 (nWI ν 33 2 (nI (p + 5)))).bind _ = _
  cases f_X5_readFence 8 (nWI ν 33 2 (nI (p + 5))) <;> rfl
theorem ri_1 {l p : Nat} {v : Nat → Int32} {ν : gN} (h : RD l v p ν) (h5 : ν.1 33 4 = -1) (hl : l ≤ 160) (hp : p < 700) (hw : wdN l v p = 1) : f_X5_readItem 8 ν = f_X5_readOpen 8 (nWI ν 33 2 (nI (p + 4))) := by
  rw [f_X5_readItem, rw8 h hl (by omega), hw, if_neg (by decide), Option.bind_some, if_neg (show ¬ nI 1 = 2 by decide), if_pos (show (nWI ν 33 2 (nI (p + wl 1))).1 33 4 = -1 from by rw [wi_ne (by omega)]; exact h5), if_neg (show ¬ nI 1 = 0 by decide), if_pos (show nI 1 = 1 from rfl)]
  show (f_X5_readOpen 8 (nWI ν 33 2 (nI (p + 4)))).bind _ = _
  cases f_X5_readOpen 8 (nWI ν 33 2 (nI (p + 4))) <;> rfl
theorem ri_3 {l p : Nat} {v : Nat → Int32} {ν : gN} (h : RD l v p ν) (h5 : ν.1 33 4 = -1) (hl : l ≤ 160) (hp : p < 700) (hw : wdN l v p = 3) : f_X5_readItem 8 ν = (f_X5_readNumber 1 4 (nWI ν 33 2 (nI (p + 5)))).bind (fun r => some (nWI r.2 8 8 r.1)) := by
  rw [f_X5_readItem, rw8 h hl (by omega), hw, if_neg (by decide), Option.bind_some, if_neg (show ¬ nI 3 = 2 by decide), if_pos (show (nWI ν 33 2 (nI (p + wl 3))).1 33 4 = -1 from by rw [wi_ne (by omega)]; exact h5), if_neg (show ¬ nI 3 = 0 by decide), if_neg (show ¬ nI 3 = 1 by decide), if_neg (show ¬ nI 3 = 2 by decide), if_pos (show nI 3 = 3 from rfl)]
  rfl
theorem ri_4 {l p : Nat} {v : Nat → Int32} {ν : gN} (h : RD l v p ν) (h5 : ν.1 33 4 = -1) (hl : l ≤ 160) (hp : p < 700) (hw : wdN l v p = 4) : f_X5_readItem 8 ν = (f_X5_readNumber 0 40 (nWI ν 33 2 (nI (p + 5)))).bind (fun r => some (nWI r.2 8 9 r.1)) := by
  rw [f_X5_readItem, rw8 h hl (by omega), hw, if_neg (by decide), Option.bind_some, if_neg (show ¬ nI 4 = 2 by decide), if_pos (show (nWI ν 33 2 (nI (p + wl 4))).1 33 4 = -1 from by rw [wi_ne (by omega)]; exact h5), if_neg (show ¬ nI 4 = 0 by decide), if_neg (show ¬ nI 4 = 1 by decide), if_neg (show ¬ nI 4 = 2 by decide), if_neg (show ¬ nI 4 = 3 by decide)]
  rfl
theorem ri_2 {l p : Nat} {v : Nat → Int32} {S : pS} {ν : gN} (hR : RP 8 S ν) (hn : S.1 < 7) (h : RD l v p ν) (h5 : ν.1 33 4 = -1) (hl : l ≤ 160) (hp : p < 700) (hw : wdN l v p = 2) : f_X5_readItem 8 ν = f_X5_readPerson 8 (nWI ν 33 2 (nI (p + 6))) := by
  have h86 : (nWI ν 33 2 (nI (p + 6))).1 8 6 = nI S.1 := by rw [wi_ne (by omega)]; exact hR.1
  have e : f_X4_hasRoom 8 (nWI ν 33 2 (nI (p + 6))) = some (1, nWI ν 33 2 (nI (p + 6))) := by
    rw [f_X4_hasRoom, h86, if_neg (by rw [le_cn (c := 7) (k := 7) rfl (by omega) (by decide)]; omega)]
  rw [f_X5_readItem, rw8 h hl (by omega), hw, if_neg (by decide), Option.bind_some, if_pos (show nI 2 = 2 from rfl)]
  show (f_X4_hasRoom 8 (nWI ν 33 2 (nI (p + 6)))).bind _ = _
  rw [e, Option.bind_some, if_neg (show ¬ (1 : Int32) = 0 by decide), if_pos (show (nWI ν 33 2 (nI (p + 6))).1 33 4 = -1 from by rw [wi_ne (by omega)]; exact h5), if_neg (show ¬ nI 2 = 0 by decide), if_neg (show ¬ nI 2 = 1 by decide), if_pos (show nI 2 = 2 from rfl)]
  show (f_X5_readPerson 8 (nWI ν 33 2 (nI (p + 6)))).bind _ = _
  cases f_X5_readPerson 8 (nWI ν 33 2 (nI (p + 6))) <;> rfl
theorem ri_2n {l p : Nat} {v : Nat → Int32} {S : pS} {ν : gN} (hR : RP 8 S ν) (hn : S.1 = 7) (h : RD l v p ν) (hl : l ≤ 160) (hp : p < 700) (hw : wdN l v p = 2) : f_X5_readItem 8 ν = some (nWI (nWI ν 33 2 (nI (p + 6))) 33 4 (nI p)) := by
  have h86 : (nWI ν 33 2 (nI (p + 6))).1 8 6 = nI 7 := by rw [wi_ne (by omega), ← hn]; exact hR.1
  have e : f_X4_hasRoom 8 (nWI ν 33 2 (nI (p + 6))) = some (0, nWI ν 33 2 (nI (p + 6))) := by
    rw [f_X4_hasRoom, h86, if_pos (by decide)]
  rw [f_X5_readItem, rw8 h hl (by omega), hw, if_neg (by decide), Option.bind_some, if_pos (show nI 2 = 2 from rfl)]
  show (f_X4_hasRoom 8 (nWI ν 33 2 (nI (p + 6)))).bind _ = _
  rw [e, Option.bind_some, if_pos rfl, ql, h.2.1, if_neg (show ¬ (nWI (nWI ν 33 2 (nI (p + 6))) 33 4 (nI p)).1 33 4 = -1 from by rw [wi_eq]; exact nI_nm1 (by omega))]
/-! which word, by the first letters -/
theorem wdX_b (l : Nat) (v : Nat → Int32) (p : Nat) : wdX l v p < 20 := by
  have k0 := ak_le l v p 0
  have k1 := ak_le l v p 1
  have k2 := ak_le l v p 2
  have k3 := ak_le l v p 3
  have k4 := ak_le l v p 4
  have w0 : wl 0 = 5 := rfl
  have w1 : wl 1 = 4 := rfl
  have w2 : wl 2 = 6 := rfl
  have w3 : wl 3 = 5 := rfl
  have w4 : wl 4 = 5 := rfl
  unfold wdX
  omega
theorem wd_f {l p : Nat} {v : Nat → Int32} (h : sg l v p = 102) : wdN l v p = (if ak l v p 0 = 5 then 0 else 5) ∧ wdX l v p = ak l v p 0 := by
  have a1 := ak_0 (l := l) (v := v) (p := p) (w := 1) (by decide) (by rw [h]; decide)
  have a2 := ak_0 (l := l) (v := v) (p := p) (w := 2) (by decide) (by rw [h]; decide)
  have a3 := ak_0 (l := l) (v := v) (p := p) (w := 3) (by decide) (by rw [h]; decide)
  have a4 := ak_0 (l := l) (v := v) (p := p) (w := 4) (by decide) (by rw [h]; decide)
  unfold wdN wdX
  rw [a1, a2, a3, a4]
  refine ⟨?_, by omega⟩
  rfl
theorem wd_o {l p : Nat} {v : Nat → Int32} (h : sg l v p = 111) : wdN l v p = (if ak l v p 1 = 4 then 1 else 5) ∧ wdX l v p = ak l v p 1 := by
  have a0 := ak_0 (l := l) (v := v) (p := p) (w := 0) (by decide) (by rw [h]; decide)
  have a2 := ak_0 (l := l) (v := v) (p := p) (w := 2) (by decide) (by rw [h]; decide)
  have a3 := ak_0 (l := l) (v := v) (p := p) (w := 3) (by decide) (by rw [h]; decide)
  have a4 := ak_0 (l := l) (v := v) (p := p) (w := 4) (by decide) (by rw [h]; decide)
  unfold wdN wdX
  rw [a0, a2, a3, a4]
  exact ⟨rfl, by omega⟩
theorem wd_p {l p : Nat} {v : Nat → Int32} (h : sg l v p = 112) : wdN l v p = (if ak l v p 2 = 6 then 2 else 5) ∧ wdX l v p = ak l v p 2 := by
  have a0 := ak_0 (l := l) (v := v) (p := p) (w := 0) (by decide) (by rw [h]; decide)
  have a1 := ak_0 (l := l) (v := v) (p := p) (w := 1) (by decide) (by rw [h]; decide)
  have a3 := ak_0 (l := l) (v := v) (p := p) (w := 3) (by decide) (by rw [h]; decide)
  have a4 := ak_0 (l := l) (v := v) (p := p) (w := 4) (by decide) (by rw [h]; decide)
  unfold wdN wdX
  rw [a0, a1, a3, a4]
  exact ⟨rfl, by omega⟩
theorem ak_s3 {l p : Nat} {v : Nat → Int32} (h : sg l v p = 115) : ak l v p 3 = ak l v (p + 1) 6 + 1 := by
  have w3 : ∀ i, i < 4 → wc 3 (i + 1) = wc 6 i := by decide
  show alN (fun i => decide (sg l v (p + i) = wc 3 i)) 0 5 = alN (fun i => decide (sg l v (p + 1 + i) = wc 6 i)) 0 4 + 1
  rw [alN, if_pos (show decide (sg l v (p + 0) = wc 3 0) = true from decide_eq_true h)]
  exact alN_sh 4 0 (fun a _ ha => by rw [w3 a (by omega), show p + (a + 1) = p + 1 + a by omega])
theorem ak_s4 {l p : Nat} {v : Nat → Int32} (h : sg l v p = 115) : ak l v p 4 = ak l v (p + 1) 5 + 1 := by
  have w3 : ∀ i, i < 4 → wc 4 (i + 1) = wc 5 i := by decide
  show alN (fun i => decide (sg l v (p + i) = wc 4 i)) 0 5 = alN (fun i => decide (sg l v (p + 1 + i) = wc 5 i)) 0 4 + 1
  rw [alN, if_pos (show decide (sg l v (p + 0) = wc 4 0) = true from decide_eq_true h)]
  exact alN_sh 4 0 (fun a _ ha => by rw [w3 a (by omega), show p + (a + 1) = p + 1 + a by omega])
theorem wd_sc {l p : Nat} {v : Nat → Int32} (h : sg l v p = 115) (h1 : sg l v (p + 1) = 99) : wdN l v p = (if ak l v (p + 1) 5 = 4 then 4 else 5) ∧ wdX l v p = ak l v (p + 1) 5 + 1 := by
  have a0 := ak_0 (l := l) (v := v) (p := p) (w := 0) (by decide) (by rw [h]; decide)
  have a1 := ak_0 (l := l) (v := v) (p := p) (w := 1) (by decide) (by rw [h]; decide)
  have a2 := ak_0 (l := l) (v := v) (p := p) (w := 2) (by decide) (by rw [h]; decide)
  have a6 := ak_0 (l := l) (v := v) (p := p + 1) (w := 6) (by decide) (by rw [h1]; decide)
  unfold wdN wdX
  rw [a0, a1, a2, ak_s3 h, ak_s4 h, a6]
  refine ⟨?_, by omega⟩
  by_cases z : ak l v (p + 1) 5 = 4
  · rw [z]; rfl
  · rw [if_neg z]
    show (if ak l v (p + 1) 5 + 1 = 5 then 4 else 5) = 5
    rw [if_neg (by omega)]
theorem wd_se {l p : Nat} {v : Nat → Int32} (h : sg l v p = 115) (h1 : sg l v (p + 1) ≠ 99) : wdN l v p = (if ak l v (p + 1) 6 = 4 then 3 else 5) ∧ wdX l v p = ak l v (p + 1) 6 + 1 := by
  have a0 := ak_0 (l := l) (v := v) (p := p) (w := 0) (by decide) (by rw [h]; decide)
  have a1 := ak_0 (l := l) (v := v) (p := p) (w := 1) (by decide) (by rw [h]; decide)
  have a2 := ak_0 (l := l) (v := v) (p := p) (w := 2) (by decide) (by rw [h]; decide)
  have a5 := ak_0 (l := l) (v := v) (p := p + 1) (w := 5) (by decide) (show sg l v (p + 1) ≠ 99 from h1)
  unfold wdN wdX
  rw [a0, a1, a2, ak_s3 h, ak_s4 h, a5]
  refine ⟨?_, by omega⟩
  by_cases z : ak l v (p + 1) 6 = 4
  · rw [z]; rfl
  · rw [if_neg z]
    show (if ak l v (p + 1) 6 + 1 = 5 then 3 else 5) = 5
    rw [if_neg (by omega)]
theorem wd_x {l p : Nat} {v : Nat → Int32} (h0 : sg l v p ≠ 102) (h1 : sg l v p ≠ 111) (h2 : sg l v p ≠ 112) (h3 : sg l v p ≠ 115) : wdN l v p = 5 ∧ wdX l v p = 0 := by
  have a0 := ak_0 (l := l) (v := v) (p := p) (w := 0) (by decide) h0
  have a1 := ak_0 (l := l) (v := v) (p := p) (w := 1) (by decide) h1
  have a2 := ak_0 (l := l) (v := v) (p := p) (w := 2) (by decide) h2
  have a3 := ak_0 (l := l) (v := v) (p := p) (w := 3) (by decide) h3
  have a4 := ak_0 (l := l) (v := v) (p := p) (w := 4) (by decide) h3
  unfold wdN wdX
  rw [a0, a1, a2, a3, a4]
  exact ⟨rfl, rfl⟩
theorem IT_nw {l s p : Nat} {v : Nat → Int32} {S : pS} (hS : okP S) (hl : l ≤ 160) (hp : p ≤ l) (hw : wdN l v p = 5) (h9 : ∀ ν, FC S ν → RE s l v p ν → ∃ ν', f_X9_item ν = some (0, ν') ∧ FC S ν' ∧ RE s l v (p + wdX l v p) ν' ∧ mEq iP ν ν') : ∃ o, IT l v s S p o := by
  have hx := wdX_b l v p
  exact IT_no (x := p + wdX l v p) hS (by omega) (fun ν _ hD _ => ⟨_, ri_no hD hl (by omega) hw hx, nEq.rf.wi (Or.inr rfl), wi_eq _ _ _ _⟩) h9
/-! states kept well -/
theorem okP.fe {S : pS} {c : Nat} (hS : okP S) (hc49 : c < 49) (hf : frS S c = true) : okP (pF c true S) := by
  have hf' : c ≠ 24 ∧ msk (atS S (nI c)) S.1 = 0 := by
    simp only [frS, Bool.and_eq_true, decide_eq_true_eq] at hf
    exact hf
  refine ⟨hS.1, fun q hq => ?_, ?_, fun i hi => ?_, hS.2.2.2.2⟩
  · obtain ⟨v0, v1, v2, v3, k, k1, k2, k3⟩ := hS.2.1 q hq
    refine ⟨v0, v1, v2, v3, k, k1, k2, ?_⟩
    show (if k = c then true else S.2.2.1 k) = false
    by_cases e : k = c
    · exfalso
      have t := msk_bit (P := atS S (nI c)) S.1 q
      rw [hf'.2, decide_eq_true (show q < S.1 from hq), show atS S (nI c) q = true from decide_eq_true (by rw [k2, e])] at t
      simp at t
    · rw [if_neg e]; exact k3
  · show (if 24 = c then true else S.2.2.1 24) = false
    rw [if_neg (fun e => hf'.1 e.symm)]; exact hS.2.2.1
  · show (if i = c then true else S.2.2.1 i) = false
    rw [if_neg (by omega)]; exact hS.2.2.2.1 i hi
theorem okP.op {S : pS} {c : Nat} (hS : okP S) : okP (pF c false S) := by
  refine ⟨hS.1, fun q hq => ?_, ?_, fun i hi => ?_, hS.2.2.2.2⟩
  · obtain ⟨v0, v1, v2, v3, k, k1, k2, k3⟩ := hS.2.1 q hq
    refine ⟨v0, v1, v2, v3, k, k1, k2, ?_⟩
    show (if k = c then false else S.2.2.1 k) = false
    split
    · rfl
    · exact k3
  · show (if 24 = c then false else S.2.2.1 24) = false
    split
    · rfl
    · exact hS.2.2.1
  · show (if i = c then false else S.2.2.1 i) = false
    split
    · rfl
    · exact hS.2.2.2.1 i hi
theorem okP.w0 {S : pS} {k : Nat} (hS : okP S) (h1 : 1 ≤ k) (h2 : k ≤ 4) : okP (pW 0 (nI k) S) := by
  refine ⟨hS.1, hS.2.1, hS.2.2.1, hS.2.2.2.1, ⟨k, h1, h2, rfl⟩, ?_⟩
  obtain ⟨j, j1, j2⟩ := hS.2.2.2.2.2
  exact ⟨j, j1, j2⟩
theorem okP.w1 {S : pS} {k : Nat} (hS : okP S) (h2 : k ≤ 40) : okP (pW 1 (nI k) S) := by
  refine ⟨hS.1, hS.2.1, hS.2.2.1, hS.2.2.2.1, ?_, ⟨k, h2, rfl⟩⟩
  obtain ⟨j, j0, j1, j2⟩ := hS.2.2.2.2.1
  exact ⟨j, j0, j1, j2⟩
def addS (S : pS) (k1 k2 k3 k4 c : Nat) : pS := pN (S.1 + 1) (pA 5 S.1 0 (pA 4 S.1 (nI c) (pA 3 S.1 (nI k4) (pA 2 S.1 (nI k3) (pA 1 S.1 (nI k2) (pA 0 S.1 (nI k1) S))))))
theorem okP.ad {S : pS} {k1 k2 k3 k4 c : Nat} (hS : okP S) (hn7 : S.1 < 7) (h1 : k1 ≤ 6) (h2 : k2 ≤ 9) (h3 : k3 ≤ 20) (h4 : 1 ≤ k4) (h4' : k4 ≤ 4) (hc : c < 49) (hf : S.2.2.1 c = false) : okP (addS S k1 k2 k3 k4 c) := by
  refine ⟨hn7, fun q hq => ?_, hS.2.2⟩
  have hq' : q < S.1 + 1 := hq
  by_cases e : q = S.1
  · subst e
    exact ⟨⟨k1, h1, by simp [addS, pN, pA]⟩, ⟨k2, h2, by simp [addS, pN, pA]⟩, ⟨k3, h3, by simp [addS, pN, pA]⟩, ⟨k4, h4, h4', by simp [addS, pN, pA]⟩, ⟨c, hc, by simp [addS, pN, pA], hf⟩⟩
  · have := hS.2.1 q (by omega)
    simp only [vP, addS, pN, pA, e, and_false, ↓reduceIte]
    exact this
theorem pf_p {c : Nat} {b : Bool} {S : pS} {ν : gN} (h : RP 8 S ν) (hc : c < 49) : ∃ ν', f_X4_putFence 8 (nI c) (i01 b) ν = some ν' ∧ RP 8 (pF c b S) ν' ∧ nEq (fun q => q = 8) ν ν' := by
  have h3 := h.2.2.1
  cases b with
  | false =>
    refine ⟨_, by rw [f_X4_putFence, if_pos (show i01 false = 0 from rfl), ql], h.f (fun i hi => ?_), nEq.rf.wl rfl⟩
    rw [bit_cl (by omega) hi, h3 i hi]
    show _ = if i = c then false else S.2.2.1 i
    by_cases e : i = c <;> simp [e]
  | true =>
    refine ⟨_, by rw [f_X4_putFence, if_neg (show ¬ i01 true = 0 by decide), ql], h.f (fun i hi => ?_), nEq.rf.wl rfl⟩
    rw [bit_or (by omega) hi, h3 i hi]
    show _ = if i = c then true else S.2.2.1 i
    by_cases e : i = c <;> simp [e]
theorem ap8 {S : pS} {x1 x2 x3 x4 x5 : Int32} {ν : gN} (h : RP 8 S ν) (hn7 : S.1 < 7) : f_X4_addPerson 8 x1 x2 x3 x4 x5 ν = some (nI S.1, nWI (nWI (nWI (nWI (nWI (nWI (nWI ν 9 S.1 x1) 10 S.1 x2) 11 S.1 x3) 12 S.1 x4) 13 S.1 x5) 14 S.1 0) 8 6 (nI (S.1 + 1))) := by
  have hr : ((7 : Int32) ≤ nI S.1) = False := eq_false (by rw [le_cn (c := 7) (k := 7) rfl (by omega) (by decide)]; omega)
  simp only [f_X4_addPerson, f_X4_hasRoom, h.1, hr, b1, Option.bind_some, ↓reduceIte, ib_in hn7 (show 7 < 2 ^ 31 by decide), nI_clamp (show S.1 < 2 ^ 31 by omega), ql]
  rw [show ((nWI (nWI (nWI (nWI (nWI (nWI ν (8 + 1) S.1 x1) (8 + 2) S.1 x2) (8 + 3) S.1 x3) (8 + 4) S.1 x4) (8 + 5) S.1 x5) (8 + 6) S.1 0).1 8 6) = nI S.1 from by rw [wi_ne (by omega), wi_ne (by omega), wi_ne (by omega), wi_ne (by omega), wi_ne (by omega), wi_ne (by omega), h.1], nI_1]
theorem RP.ad {S : pS} {k1 k2 k3 k4 c : Nat} {ν : gN} (h : RP 8 S ν) (hn7 : S.1 < 7) : RP 8 (addS S k1 k2 k3 k4 c) (nWI (nWI (nWI (nWI (nWI (nWI (nWI ν 9 S.1 (nI k1)) 10 S.1 (nI k2)) 11 S.1 (nI k3)) 12 S.1 (nI k4)) 13 S.1 (nI c)) 14 S.1 0) 8 6 (nI (S.1 + 1))) :=
  ((((((h.a (j := 0) (by decide) hn7).a (j := 1) (by decide) hn7).a (j := 2) (by decide) hn7).a (j := 3) (by decide) hn7).a (j := 4) (by decide) hn7).a (j := 5) (by decide) hn7).n
theorem no9 {S : pS} {x1 x2 x3 x4 x5 : Int32} {ν : gN} (h : RM S ν) (hn7 : S.1 < 7) : f_X9_newOne x1 x2 x3 x4 x5 ν = some (nI S.1, nWI (nWI (nWI (nWI (nWI (nWI (nWI ν 54 S.1 x1) 55 S.1 x2) 56 S.1 x3) 57 S.1 x4) 58 S.1 x5) 59 S.1 0) 53 0 (nI (S.1 + 1))) := by
  have e : ∀ (μ : gN) a x, a ≠ 53 → (nWI μ a S.1 x).1 53 0 = μ.1 53 0 := fun μ a x ha => wi_ne (by omega)
  simp only [f_X9_newOne, ↓reduceIte, h.1, e _ 54 _ (by decide), e _ 55 _ (by decide), e _ 56 _ (by decide), e _ 57 _ (by decide), e _ 58 _ (by decide), e _ 59 _ (by decide), ib_in hn7 (show 7 < 2 ^ 31 by decide), nI_clamp (show S.1 < 2 ^ 31 by omega), ql, nI_1]
theorem FC.ad {S : pS} {k1 k2 k3 k4 c : Nat} {ν : gN} (h : FC S ν) (hn7 : S.1 < 7) : FC (addS S k1 k2 k3 k4 c) (nWI (nWI (nWI (nWI (nWI (nWI (nWI ν 54 S.1 (nI k1)) 55 S.1 (nI k2)) 56 S.1 (nI k3)) 57 S.1 (nI k4)) 58 S.1 (nI c)) 59 S.1 0) 53 0 (nI (S.1 + 1))) := by
  refine ⟨((((((h.1.a (j := 0) (by decide) hn7).a (j := 1) (by decide) hn7).a (j := 2) (by decide) hn7).a (j := 3) (by decide) hn7).a (j := 4) (by decide) hn7).a (j := 5) (by decide) hn7).n, ?_⟩
  rw [wi_ne (by omega), wi_ne (by omega), wi_ne (by omega), wi_ne (by omega), wi_ne (by omega), wi_ne (by omega), wi_ne (by omega)]
  refine h.2.imp id (fun z => ⟨z.1, fun t ht => ?_⟩)
  rw [wi_ne (by omega), wi_ne (by omega), wi_ne (by omega), wi_ne (by omega), wi_ne (by omega), wi_ne (by omega), wi_ne (by omega)]
  exact z.2 t ht
theorem my9_f (q : Nat) (ν : gN) : f_X9_may (i01 false) (nI q) ν = some (0, nWI ν 53 14 (nI (q + 1))) := by
  rw [f_X9_may, if_pos (show i01 false = 0 from rfl), ql, nI_1]; rfl
theorem my9_t (x : Int32) (ν : gN) : f_X9_may (i01 true) x ν = some (1, ν) := by
  rw [f_X9_may, if_neg (show ¬ i01 true = 0 by decide)]; rfl
theorem op9' {c : Nat} {S : pS} {ν : gN} (h : RM S ν) (hc : c < 49) : f_X9_isOpen (nI c) ν = some (i01 (!S.2.2.1 c), ν) := by
  rw [op9_in h hc]
  cases S.2.2.1 c <;> rfl
theorem op8' {c : Nat} {S : pS} {ν : gN} (h : RP 8 S ν) (hc : c < 49) : f_X4_isOpen 8 (nI c) ν = some (i01 (!S.2.2.1 c), ν) := by
  rw [op8_in h hc]
  cases S.2.2.1 c <;> rfl
theorem nst_f (l : Nat) (v : Nat → Int32) (lo hi : Int32) (x : Nat) : nst l v lo hi (false, x) = (false, x) := rfl
theorem nst_n {l q : Nat} {v : Nat → Int32} {lo hi : Int32} (h : nbT l v lo hi q = false) : nst l v lo hi (true, q) = (false, nbX l v q) := by
  show (if nbT l v lo hi q = true then (true, (nv l v (q + 1)).2) else (false, nbX l v q)) = _
  rw [if_neg (by rw [h]; decide)]
theorem nst_t {l q : Nat} {v : Nat → Int32} {lo hi : Int32} (h : nbT l v lo hi q = true) : nst l v lo hi (true, q) = (true, (nv l v (q + 1)).2) := by
  show (if nbT l v lo hi q = true then (true, (nv l v (q + 1)).2) else (false, nbX l v q)) = _
  rw [if_pos h]
theorem nbX_le (l : Nat) (v : Nat → Int32) (p : Nat) : nbX l v p ≤ p + 1 := by unfold nbX; split <;> omega
/-- the value and the place behind a number that stands -/
theorem nb_v {l q a b : Nat} {v : Nat → Int32} (ha : a < 2 ^ 31) (hb : b < 2 ^ 31 - 1) (h : nbT l v (nI a) (nI b) q = true) : ∃ k, a ≤ k ∧ k ≤ b ∧ (nv l v (q + 1)).1 = nI k ∧ q + 1 < (nv l v (q + 1)).2 ∧ (nv l v (q + 1)).2 ≤ l ∧ (nv l v (q + 1)).2 ≤ q + 3 := by
  obtain ⟨h1, h2, h3⟩ := nbT_of h
  obtain ⟨k, k1, k2, k3⟩ := bt_of ha hb h3
  have hq : q < l := sg_lt (by rw [h1]; decide)
  have := nv_le (l := l) (v := v) (p := q + 1) (by omega)
  exact ⟨k, k1, k2, k3, by omega, by omega, by omega⟩
