/-! THE FIVE ITEMS -/
theorem rf8n {l q x : Nat} {v : Nat → Int32} {ν : gN} (hl : l ≤ 160) (hq : q < 700) (h : CS l v (true, q) ν) (hz : nst l v 0 48 (true, q) = (false, x)) (hx : x < 900) : ∃ ν', f_X5_readFence 8 ν = some ν' ∧ nEq (fun q => q = 33) ν ν' ∧ ν'.1 33 4 = nI x := by
  obtain ⟨y, ν', e1, e2, e3, _⟩ := nb8 (lo := 0) (hi := 48) hl (show (true, q).2 < 800 by show q < 800; omega) h
  rw [hz] at e2
  have h5 : ν'.1 33 4 = nI x := e2
  refine ⟨ν', ?_, e3, h5⟩
  rw [f_X5_readFence, e1, Option.bind_some]
  show (if ν'.1 33 4 = -1 then _ else if ν'.1 33 4 = -1 then _ else some ν') = _
  rw [h5, if_neg (nI_nm1 (by omega)), if_neg (nI_nm1 (by omega))]
theorem ro8n {l q x : Nat} {v : Nat → Int32} {ν : gN} (hl : l ≤ 160) (hq : q < 700) (h : CS l v (true, q) ν) (hz : nst l v 0 48 (true, q) = (false, x)) (hx : x < 900) : ∃ ν', f_X5_readOpen 8 ν = some ν' ∧ nEq (fun q => q = 33) ν ν' ∧ ν'.1 33 4 = nI x := by
  obtain ⟨y, ν', e1, e2, e3, _⟩ := nb8 (lo := 0) (hi := 48) hl (show (true, q).2 < 800 by show q < 800; omega) h
  rw [hz] at e2
  have h5 : ν'.1 33 4 = nI x := e2
  refine ⟨ν', ?_, e3, h5⟩
  rw [f_X5_readOpen, e1, Option.bind_some]
  show (if ν'.1 33 4 = -1 then _ else some ν') = _
  rw [h5, if_neg (nI_nm1 (by omega))]
theorem hdC {l p q : Nat} {v : Nat → Int32} {ν : gN} (hD : RD l v p ν) (h5 : ν.1 33 4 = -1) : CS l v (true, q) (nWI ν 33 2 (nI q)) := by
  show _ ∧ _
  exact ⟨by rw [wi_ne (by omega)]; exact h5, hD.st⟩
def iP' (a b : Nat) : Prop := a = 60 ∨ (a = 53 ∧ b = 24)
theorem itm_fence {l s p : Nat} {v : Nat → Int32} {S : pS} (hS : okP S) (hs : s < 8) (hl : l ≤ 160) (hp : p ≤ l) (hc : sg l v p = 102) : ∃ o, IT l v s S p o := by
  obtain ⟨hw, hx⟩ := wd_f hc
  have hhead : ∀ ν, RE s l v p ν → ∃ ν1, f_X9_word 0 ν = some (i01 (decide (ak l v p 0 = 5)), ν1) ∧ RE s l v (p + ak l v p 0) ν1 ∧ mEq wE ν ν1 := fun ν hE => wd9 (w := 0) (by decide) hs hl (by omega) hE
  have hun : ∀ ν, RE s l v p ν → f_X9_item ν = (f_X9_word 0 ν).bind (fun r_4 => if r_4.1 = 0 then some (0, r_4.2) else (f_X9_number 0 0 48 r_4.2).bind (fun r_6 => if r_6.1 = 0 then some (0, r_6.2) else if inb 0 5 = true then (f_X9_isFree (r_6.2.1 65 (0 : Int32).toNatClampNeg) r_6.2).bind (fun r_9 => (f_X9_may r_9.1 (r_4.2.1 53 14) r_9.2).bind (fun r_11 => if r_11.1 = 0 then some (0, r_11.2) else if inb 0 5 = true then (f_X9_fenced (r_11.2.1 65 (0 : Int32).toNatClampNeg) 1 r_11.2).bind (fun r_14 => some (1, r_14)) else none)) else none)) := fun ν hE => by
    rw [f_X9_item, sg9 hE hs hl (by omega), Option.bind_some, if_pos (show (sg l v p, ν).1 = 102 from hc)]
  by_cases ha : ak l v p 0 = 5
  · rw [if_pos ha] at hw
    cases ht : nbT l v 0 48 (p + 5) with
    | false =>
      have hbx := nbX_le l v (p + 5)
      refine IT_no (x := nbX l v (p + 5)) hS (by omega) (fun ν hR hD h5 => ?_) (fun ν hF hE => ?_)
      · obtain ⟨ν', e1, e2, e3⟩ := rf8n hl (by omega) (hdC (q := p + 5) hD h5) (nst_n ht) (by omega)
        exact ⟨ν', by rw [ri_0 hD h5 hl (by omega) hw]; exact e1, e33 ((nEq.rf.wi (P := fun q => q = 33) rfl).tr e2), e3⟩
      · obtain ⟨ν1, a1, a2, a3⟩ := hhead ν hE
        rw [ha] at a1 a2
        obtain ⟨ν2, c1, c2, _, c4⟩ := nb9 (k := 0) (lo := 0) (hi := 48) a2 hs hl (by omega) (by decide)
        rw [ht] at c1 c2
        refine ⟨ν2, ?_, (hF.w a3).np c4, c2, (a3.mono (fun a b z => wE.i z)).tr (c4.mono (fun a b z => nP.i z))⟩
        rw [hun ν hE, a1, Option.bind_some, if_neg (show ¬ (i01 (decide (5 = 5)), ν1).1 = 0 from by show ¬ i01 (decide (5 = 5)) = 0; decide)]
        show (f_X9_number (nI 0) 0 48 ν1).bind _ = _
        rw [c1, Option.bind_some, if_pos (show (i01 false, ν2).1 = 0 from rfl)]
    | true =>
      obtain ⟨c, _, hc48, hcv, hq1, hq2, hq3⟩ := nb_v (a := 0) (b := 48) (by decide) (by decide) ht
      have hc49 : c < 49 := by omega
      cases hf : frS S c with
      | false =>
        refine IT_no (x := p + 6) hS (by omega) (fun ν hR hD h5 => ?_) (fun ν hF hE => ?_)
        · obtain ⟨y, ν1, e1, e2, e3, e4⟩ := nb8 (lo := 0) (hi := 48) hl (show (true, p + 5).2 < 800 by show p + 5 < 800; omega) (hdC (q := p + 5) hD h5)
          obtain ⟨y1, y2⟩ := e4 (by rw [nst_t ht])
          rw [nst_t ht] at e2
          obtain ⟨g5, gR⟩ : ν1.1 33 4 = -1 ∧ RD l v (nv l v (p + 5 + 1)).2 ν1 := e2
          have hy : y = nI c := y1.trans hcv
          have y2' : ν1.1 33 3 = nI (p + 6) := y2
          have hR1 : RP 8 S ν1 := hR.eq ((nEq.rf.wi (P := fun q => q = 33) rfl).tr e3) (fun a _ _ => by omega)
          refine ⟨nWI ν1 33 4 (nI (p + 6)), ?_, e33 (((nEq.rf.wi (P := fun q => q = 33) rfl).tr e3).wi rfl), wi_eq _ _ _ _⟩
          rw [ri_0 hD h5 hl (by omega) hw, f_X5_readFence, e1, Option.bind_some, hy]
          show (if ν1.1 33 4 = -1 then (f_X4_mayBeFenced 8 (nI c) ν1).bind _ else _) = _
          rw [g5, if_pos rfl, mb8 hR1 hS.1 hc49, hf, Option.bind_some, if_pos (show (i01 false, ν1).1 = 0 from rfl), ql]
          show (if (nWI ν1 33 4 (ν1.1 33 3)).1 33 4 = -1 then _ else some (nWI ν1 33 4 (ν1.1 33 3))) = _
          rw [y2', wi_eq, if_neg (nI_nm1 (by omega))]
        · obtain ⟨ν1, a1, a2, a3⟩ := hhead ν hE
          rw [ha] at a1 a2
          obtain ⟨ν2, c1, c2, c3, c4⟩ := nb9 (k := 0) (lo := 0) (hi := 48) a2 hs hl (by omega) (by decide)
          rw [ht] at c1 c2 c3
          have c65 : ν2.1 65 0 = nI c := (c3 rfl).trans hcv
          have hF2 := (hF.w a3).np c4
          refine ⟨nWI ν2 53 14 (nI (p + 5 + 1)), ?_, hF2.w (mEq.rf.wi ⟨rfl, rfl⟩), c2.st, ((a3.mono (fun a b z => wE.i z)).tr (c4.mono (fun a b z => nP.i z))).wi (show iP 53 14 by unfold iP; omega)⟩
          rw [hun ν hE, a1, Option.bind_some, if_neg (show ¬ (i01 (decide (5 = 5)), ν1).1 = 0 from by show ¬ i01 (decide (5 = 5)) = 0; decide)]
          show (f_X9_number (nI 0) 0 48 ν1).bind _ = _
          rw [c1, Option.bind_some, if_neg (show ¬ (i01 true, ν2).1 = 0 from by show ¬ i01 true = 0; decide), if_pos (show inb 0 5 = true from rfl)]
          show (f_X9_isFree (ν2.1 65 0) ν2).bind _ = _
          rw [c65, fr9 hF2.1 hS.1 hc49, hf, Option.bind_some]
          show (f_X9_may (i01 false) (ν1.1 53 14) ν2).bind _ = _
          rw [a2.2.2.2, my9_f, Option.bind_some, if_pos rfl]
      | true =>
        refine ⟨(true, pF c true S, (nv l v (p + 5 + 1)).2), fun ν hR hD h5 => ?_, fun ν hF hE => ?_, hS.fe hc49 hf, Nat.le_refl _, rfl, fun _ => ⟨by show p < (nv l v (p + 5 + 1)).2; omega, hq2⟩, by show (nv l v (p + 5 + 1)).2 ≤ 400; omega⟩
        · obtain ⟨y, ν1, e1, e2, e3, e4⟩ := nb8 (lo := 0) (hi := 48) hl (show (true, p + 5).2 < 800 by show p + 5 < 800; omega) (hdC (q := p + 5) hD h5)
          obtain ⟨y1, y2⟩ := e4 (by rw [nst_t ht])
          rw [nst_t ht] at e2
          obtain ⟨g5, gR⟩ : ν1.1 33 4 = -1 ∧ RD l v (nv l v (p + 5 + 1)).2 ν1 := e2
          have hy : y = nI c := y1.trans hcv
          have hR1 : RP 8 S ν1 := hR.eq ((nEq.rf.wi (P := fun q => q = 33) rfl).tr e3) (fun a _ _ => by omega)
          obtain ⟨ν2, p1, p2, p3⟩ := pf_p (b := true) hR1 hc49
          refine ⟨ν2, ?_, (e33 ((nEq.rf.wi (P := fun q => q = 33) rfl).tr e3)).tr (p3.mono (fun a z => by omega)), ?_⟩
          · rw [ri_0 hD h5 hl (by omega) hw, f_X5_readFence, e1, Option.bind_some, hy]
            show (if ν1.1 33 4 = -1 then (f_X4_mayBeFenced 8 (nI c) ν1).bind _ else _) = _
            rw [g5, if_pos rfl, mb8 hR1 hS.1 hc49, hf, Option.bind_some, if_neg (show ¬ (i01 true, ν1).1 = 0 from by show ¬ i01 true = 0; decide)]
            show (if ν1.1 33 4 = -1 then (f_X4_putFence 8 (nI c) (i01 true) ν1).bind _ else _) = _
            rw [g5, if_pos rfl, p1]; rfl
          · show ν2.1 33 4 = -1 ∧ _
            exact ⟨((p3 33 (by decide)).1 4).trans g5, p2, gR.eq p3 (by decide) (by decide)⟩
        · obtain ⟨ν1, a1, a2, a3⟩ := hhead ν hE
          rw [ha] at a1 a2
          obtain ⟨ν2, c1, c2, c3, c4⟩ := nb9 (k := 0) (lo := 0) (hi := 48) a2 hs hl (by omega) (by decide)
          rw [ht] at c1 c2 c3
          have c65 : ν2.1 65 0 = nI c := (c3 rfl).trans hcv
          have hF2 := (hF.w a3).np c4
          have c2' : RE s l v (nv l v (p + 5 + 1)).2 ν2 := c2
          refine ⟨nWI (nWI ν2 60 c 1) 53 24 0, ?_, ⟨(hF2.1.f (b := true) hc49).o (by decide), Or.inl (wi_eq _ _ _ _)⟩, c2'.eq (P := iP') ((mEq.rf.wi (Or.inl rfl)).wi (Or.inr ⟨rfl, rfl⟩)) (by unfold iP'; omega) (by unfold iP'; omega) (fun b => by unfold iP'; omega) (by unfold iP'; omega), (((a3.mono (fun a b z => wE.i z)).tr (c4.mono (fun a b z => nP.i z))).wi (show iP 60 c by unfold iP; omega)).wi (show iP 53 24 by unfold iP; omega)⟩
          rw [hun ν hE, a1, Option.bind_some, if_neg (show ¬ (i01 (decide (5 = 5)), ν1).1 = 0 from by show ¬ i01 (decide (5 = 5)) = 0; decide)]
          show (f_X9_number (nI 0) 0 48 ν1).bind _ = _
          rw [c1, Option.bind_some, if_neg (show ¬ (i01 true, ν2).1 = 0 from by show ¬ i01 true = 0; decide), if_pos (show inb 0 5 = true from rfl)]
          show (f_X9_isFree (ν2.1 65 0) ν2).bind _ = _
          rw [c65, fr9 hF2.1 hS.1 hc49, hf, Option.bind_some]
          show (f_X9_may (i01 true) (ν1.1 53 14) ν2).bind _ = _
          rw [my9_t, Option.bind_some, if_neg (show ¬ (1 : Int32) = 0 by decide), if_pos (show inb 0 5 = true from rfl)]
          show (f_X9_fenced (ν2.1 65 0) 1 ν2).bind _ = _
          rw [c65, fd9 ν2 hc49 (by decide), Option.bind_some]; rfl
  · rw [if_neg ha] at hw
    refine IT_nw hS hl hp hw (fun ν hF hE => ?_)
    obtain ⟨ν1, a1, a2, a3⟩ := hhead ν hE
    rw [hx]
    refine ⟨ν1, ?_, hF.w a3, a2, a3.mono (fun a b z => wE.i z)⟩
    rw [hun ν hE, a1, Option.bind_some, if_pos (show (i01 (decide (ak l v p 0 = 5)), ν1).1 = 0 from by show i01 (decide (ak l v p 0 = 5)) = 0; rw [decide_eq_false ha]; rfl)]
theorem itm_open {l s p : Nat} {v : Nat → Int32} {S : pS} (hS : okP S) (hs : s < 8) (hl : l ≤ 160) (hp : p ≤ l) (hc : sg l v p = 111) : ∃ o, IT l v s S p o := by
  obtain ⟨hw, hx⟩ := wd_o hc
  have hhead : ∀ ν, RE s l v p ν → ∃ ν1, f_X9_word 1 ν = some (i01 (decide (ak l v p 1 = 4)), ν1) ∧ RE s l v (p + ak l v p 1) ν1 ∧ mEq wE ν ν1 := fun ν hE => wd9 (w := 1) (by decide) hs hl (by omega) hE
  have hun : ∀ ν, RE s l v p ν → f_X9_item ν = (f_X9_word 1 ν).bind (fun r_17 => if r_17.1 = 0 then some (0, r_17.2) else (f_X9_number 0 0 48 r_17.2).bind (fun r_19 => if r_19.1 = 0 then some (0, r_19.2) else if inb 0 5 = true then (f_X9_fenced (r_19.2.1 65 (0 : Int32).toNatClampNeg) 0 r_19.2).bind (fun r_22 => some (1, r_22)) else none)) := fun ν hE => by
    rw [f_X9_item, sg9 hE hs hl (by omega), Option.bind_some, if_neg (show ¬ (sg l v p, ν).1 = 102 from by show ¬ sg l v p = 102; rw [hc]; decide), if_pos (show (sg l v p, ν).1 = 111 from hc)]
  by_cases ha : ak l v p 1 = 4
  · rw [if_pos ha] at hw
    cases ht : nbT l v 0 48 (p + 4) with
    | false =>
      have hbx := nbX_le l v (p + 4)
      refine IT_no (x := nbX l v (p + 4)) hS (by omega) (fun ν hR hD h5 => ?_) (fun ν hF hE => ?_)
      · obtain ⟨ν', e1, e2, e3⟩ := ro8n hl (by omega) (hdC (q := p + 4) hD h5) (nst_n ht) (by omega)
        exact ⟨ν', by rw [ri_1 hD h5 hl (by omega) hw]; exact e1, e33 ((nEq.rf.wi (P := fun q => q = 33) rfl).tr e2), e3⟩
      · obtain ⟨ν1, a1, a2, a3⟩ := hhead ν hE
        rw [ha] at a1 a2
        obtain ⟨ν2, c1, c2, _, c4⟩ := nb9 (k := 0) (lo := 0) (hi := 48) a2 hs hl (by omega) (by decide)
        rw [ht] at c1 c2
        refine ⟨ν2, ?_, (hF.w a3).np c4, c2, (a3.mono (fun a b z => wE.i z)).tr (c4.mono (fun a b z => nP.i z))⟩
        rw [hun ν hE, a1, Option.bind_some, if_neg (show ¬ (i01 (decide (4 = 4)), ν1).1 = 0 from by show ¬ i01 (decide (4 = 4)) = 0; decide)]
        show (f_X9_number (nI 0) 0 48 ν1).bind _ = _
        rw [c1, Option.bind_some, if_pos (show (i01 false, ν2).1 = 0 from rfl)]
    | true =>
      obtain ⟨c, _, hc48, hcv, hq1, hq2, hq3⟩ := nb_v (a := 0) (b := 48) (by decide) (by decide) ht
      have hc49 : c < 49 := by omega
      refine ⟨(true, pF c false S, (nv l v (p + 4 + 1)).2), fun ν hR hD h5 => ?_, fun ν hF hE => ?_, hS.op, Nat.le_refl _, rfl, fun _ => ⟨by show p < (nv l v (p + 4 + 1)).2; omega, hq2⟩, by show (nv l v (p + 4 + 1)).2 ≤ 400; omega⟩
      · obtain ⟨y, ν1, e1, e2, e3, e4⟩ := nb8 (lo := 0) (hi := 48) hl (show (true, p + 4).2 < 800 by show p + 4 < 800; omega) (hdC (q := p + 4) hD h5)
        obtain ⟨y1, y2⟩ := e4 (by rw [nst_t ht])
        rw [nst_t ht] at e2
        obtain ⟨g5, gR⟩ : ν1.1 33 4 = -1 ∧ RD l v (nv l v (p + 4 + 1)).2 ν1 := e2
        have hy : y = nI c := y1.trans hcv
        have hR1 : RP 8 S ν1 := hR.eq ((nEq.rf.wi (P := fun q => q = 33) rfl).tr e3) (fun a _ _ => by omega)
        obtain ⟨ν2, p1, p2, p3⟩ := pf_p (b := false) hR1 hc49
        refine ⟨ν2, ?_, (e33 ((nEq.rf.wi (P := fun q => q = 33) rfl).tr e3)).tr (p3.mono (fun a z => by omega)), ?_⟩
        · rw [ri_1 hD h5 hl (by omega) hw, f_X5_readOpen, e1, Option.bind_some, hy]
          show (if ν1.1 33 4 = -1 then (f_X4_putFence 8 (nI c) (i01 false) ν1).bind _ else _) = _
          rw [g5, if_pos rfl, p1]; rfl
        · show ν2.1 33 4 = -1 ∧ _
          exact ⟨((p3 33 (by decide)).1 4).trans g5, p2, gR.eq p3 (by decide) (by decide)⟩
      · obtain ⟨ν1, a1, a2, a3⟩ := hhead ν hE
        rw [ha] at a1 a2
        obtain ⟨ν2, c1, c2, c3, c4⟩ := nb9 (k := 0) (lo := 0) (hi := 48) a2 hs hl (by omega) (by decide)
        rw [ht] at c1 c2 c3
        have c65 : ν2.1 65 0 = nI c := (c3 rfl).trans hcv
        have hF2 := (hF.w a3).np c4
        have c2' : RE s l v (nv l v (p + 4 + 1)).2 ν2 := c2
        refine ⟨nWI (nWI ν2 60 c 0) 53 24 0, ?_, ⟨(hF2.1.f (b := false) hc49).o (by decide), Or.inl (wi_eq _ _ _ _)⟩, c2'.eq (P := iP') ((mEq.rf.wi (Or.inl rfl)).wi (Or.inr ⟨rfl, rfl⟩)) (by unfold iP'; omega) (by unfold iP'; omega) (fun b => by unfold iP'; omega) (by unfold iP'; omega), (((a3.mono (fun a b z => wE.i z)).tr (c4.mono (fun a b z => nP.i z))).wi (show iP 60 c by unfold iP; omega)).wi (show iP 53 24 by unfold iP; omega)⟩
        rw [hun ν hE, a1, Option.bind_some, if_neg (show ¬ (i01 (decide (4 = 4)), ν1).1 = 0 from by show ¬ i01 (decide (4 = 4)) = 0; decide)]
        show (f_X9_number (nI 0) 0 48 ν1).bind _ = _
        rw [c1, Option.bind_some, if_neg (show ¬ (i01 true, ν2).1 = 0 from by show ¬ i01 true = 0; decide), if_pos (show inb 0 5 = true from rfl)]
        show (f_X9_fenced (ν2.1 65 0) 0 ν2).bind _ = _
        rw [c65, fd9 ν2 hc49 (by decide), Option.bind_some]; rfl
  · rw [if_neg ha] at hw
    refine IT_nw hS hl hp hw (fun ν hF hE => ?_)
    obtain ⟨ν1, a1, a2, a3⟩ := hhead ν hE
    rw [hx]
    refine ⟨ν1, ?_, hF.w a3, a2, a3.mono (fun a b z => wE.i z)⟩
    rw [hun ν hE, a1, Option.bind_some, if_pos (show (i01 (decide (ak l v p 1 = 4)), ν1).1 = 0 from by show i01 (decide (ak l v p 1 = 4)) = 0; rw [decide_eq_false ha]; rfl)]
