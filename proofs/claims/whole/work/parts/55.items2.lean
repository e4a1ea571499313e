/-! seats, scent, person -/
theorem FC.ww {S : pS} {k : Nat} {x : Int32} {ν : gN} (h : FC S ν) (hk : k < 4) : FC (pW k x S) (nWI ν 61 k x) := by
  refine ⟨h.1.w hk, ?_⟩
  rw [wi_ne (by omega)]
  exact h.2.imp id (fun z => ⟨z.1, z.2.eq (P := fun q => q = 61) (nEq.rf.wi rfl) (by decide)⟩)
theorem itm_scent {l s p : Nat} {v : Nat → Int32} {S : pS} (hS : okP S) (hs : s < 8) (hl : l ≤ 160) (hp : p ≤ l) (hc : sg l v p = 115) (hc1 : sg l v (p + 1) = 99) : ∃ o, IT l v s S p o := by
  obtain ⟨hw, hx⟩ := wd_sc hc hc1
  have hpl : p < l := sg_lt (by rw [hc]; decide)
  have hun : ∀ ν, RE s l v p ν → f_X9_item ν = (f_X9_word 5 (nWI ν 53 14 (nI (p + 1)))).bind (fun r_86 => if r_86.1 = 0 then some (0, r_86.2) else (f_X9_number 0 0 40 r_86.2).bind (fun r_88 => if r_88.1 = 0 then some (0, r_88.2) else if inb 0 5 = true then if inb 1 4 = true then qL (nWI r_88.2 61 (1 : Int32).toNatClampNeg (r_88.2.1 65 (0 : Int32).toNatClampNeg)) (fun ν_92 => some (1, ν_92)) else none else none)) := fun ν hE => by
    rw [f_X9_item, sg9 hE hs hl (by omega), Option.bind_some, if_neg (show ¬ (sg l v p, ν).1 = 102 from by show ¬ sg l v p = 102; rw [hc]; decide), if_neg (show ¬ (sg l v p, ν).1 = 111 from by show ¬ sg l v p = 111; rw [hc]; decide), if_neg (show ¬ (sg l v p, ν).1 = 112 from by show ¬ sg l v p = 112; rw [hc]; decide), if_pos (show (sg l v p, ν).1 = 115 from hc), ql]
    show (f_X9_sign (nWI ν 53 14 (ν.1 53 14 + 1))).bind _ = _
    rw [hE.2.2.2, nI_1, sg9 hE.st hs hl (by omega), Option.bind_some, if_pos (show (sg l v (p + 1), nWI ν 53 14 (nI (p + 1))).1 = 99 from hc1)]
  have hhead : ∀ ν, RE s l v p ν → ∃ ν1, f_X9_word 5 (nWI ν 53 14 (nI (p + 1))) = some (i01 (decide (ak l v (p + 1) 5 = 4)), ν1) ∧ RE s l v (p + 1 + ak l v (p + 1) 5) ν1 ∧ mEq wE ν ν1 := fun ν hE => by
    obtain ⟨ν1, a1, a2, a3⟩ := wd9 (w := 5) (by decide) hs hl (show p + 1 < 800 by omega) (hE.st (q := p + 1))
    exact ⟨ν1, a1, a2, (mEq.rf.wi (P := wE) ⟨rfl, rfl⟩).tr a3⟩
  by_cases ha : ak l v (p + 1) 5 = 4
  · rw [if_pos ha] at hw
    cases ht : nbT l v 0 40 (p + 5) with
    | false =>
      have hbx := nbX_le l v (p + 5)
      refine IT_no (x := nbX l v (p + 5)) hS (by omega) (fun ν hR hD h5 => ?_) (fun ν hF hE => ?_)
      · obtain ⟨y, ν', e1, e2, e3, _⟩ := nb8 (lo := 0) (hi := 40) hl (show (true, p + 5).2 < 800 by show p + 5 < 800; omega) (hdC (q := p + 5) hD h5)
        rw [nst_n ht] at e2
        have h5' : ν'.1 33 4 = nI (nbX l v (p + 5)) := e2
        refine ⟨nWI ν' 8 9 y, ?_, (e33 ((nEq.rf.wi (P := fun q => q = 33) rfl).tr e3)).wi (by decide), by rw [wi_ne (by omega)]; exact h5'⟩
        rw [ri_4 hD h5 hl (by omega) hw, e1, Option.bind_some]
      · obtain ⟨ν1, a1, a2, a3⟩ := hhead ν hE
        rw [ha] at a1 a2
        obtain ⟨ν2, c1, c2, _, c4⟩ := nb9 (k := 0) (lo := 0) (hi := 40) (p := p + 5) a2 hs hl (by omega) (by decide)
        rw [ht] at c1 c2
        refine ⟨ν2, ?_, (hF.w a3).np c4, c2, (a3.mono (fun a b z => wE.i z)).tr (c4.mono (fun a b z => nP.i z))⟩
        rw [hun ν hE, a1, Option.bind_some, if_neg (show ¬ (i01 (decide (4 = 4)), ν1).1 = 0 from by show ¬ i01 (decide (4 = 4)) = 0; decide)]
        show (f_X9_number (nI 0) 0 40 ν1).bind _ = _
        rw [c1, Option.bind_some, if_pos (show (i01 false, ν2).1 = 0 from rfl)]
    | true =>
      obtain ⟨c, hc0, hc48, hcv, hq1, hq2, hq3⟩ := nb_v (a := 0) (b := 40) (by decide) (by decide) ht
      refine ⟨(true, pW 1 (nI c) S, (nv l v (p + 5 + 1)).2), fun ν hR hD h5 => ?_, fun ν hF hE => ?_, hS.w1 hc48, Nat.le_refl _, rfl, fun _ => ⟨by show p < (nv l v (p + 5 + 1)).2; omega, hq2⟩, by show (nv l v (p + 5 + 1)).2 ≤ 400; omega⟩
      · obtain ⟨y, ν1, e1, e2, e3, e4⟩ := nb8 (lo := 0) (hi := 40) hl (show (true, p + 5).2 < 800 by show p + 5 < 800; omega) (hdC (q := p + 5) hD h5)
        obtain ⟨y1, y2⟩ := e4 (by rw [nst_t ht])
        rw [nst_t ht] at e2
        obtain ⟨g5, gR⟩ : ν1.1 33 4 = -1 ∧ RD l v (nv l v (p + 5 + 1)).2 ν1 := e2
        have hy : y = nI c := y1.trans hcv
        have hR1 : RP 8 S ν1 := hR.eq ((nEq.rf.wi (P := fun q => q = 33) rfl).tr e3) (fun a _ _ => by omega)
        refine ⟨nWI ν1 8 9 (nI c), ?_, (e33 ((nEq.rf.wi (P := fun q => q = 33) rfl).tr e3)).wi (by decide), ?_⟩
        · rw [ri_4 hD h5 hl (by omega) hw, e1, Option.bind_some, hy]
        · show (nWI ν1 8 9 (nI c)).1 33 4 = -1 ∧ _
          exact ⟨by rw [wi_ne (by omega)]; exact g5, hR1.w (k := 1) (by decide), gR.eq (P := fun q => q = 8) (nEq.rf.wi rfl) (by decide) (by decide)⟩
      · obtain ⟨ν1, a1, a2, a3⟩ := hhead ν hE
        rw [ha] at a1 a2
        obtain ⟨ν2, c1, c2, c3, c4⟩ := nb9 (k := 0) (lo := 0) (hi := 40) (p := p + 5) a2 hs hl (by omega) (by decide)
        rw [ht] at c1 c2 c3
        have c65 : ν2.1 65 0 = nI c := (c3 rfl).trans hcv
        have hF2 := (hF.w a3).np c4
        have c2' : RE s l v (nv l v (p + 5 + 1)).2 ν2 := c2
        refine ⟨nWI ν2 61 1 (nI c), ?_, hF2.ww (by decide), c2'.eq (P := fun a b => a = 61) (mEq.rf.wi rfl) (by omega) (by omega) (fun b => by omega) (by omega), ((a3.mono (fun a b z => wE.i z)).tr (c4.mono (fun a b z => nP.i z))).wi (show iP 61 1 by unfold iP; omega)⟩
        rw [hun ν hE, a1, Option.bind_some, if_neg (show ¬ (i01 (decide (4 = 4)), ν1).1 = 0 from by show ¬ i01 (decide (4 = 4)) = 0; decide)]
        show (f_X9_number (nI 0) 0 40 ν1).bind _ = _
        rw [c1, Option.bind_some, if_neg (show ¬ (i01 true, ν2).1 = 0 from by show ¬ i01 true = 0; decide), if_pos (show inb 0 5 = true from rfl), if_pos (show inb 1 4 = true from rfl), ql]
        show some ((1 : Int32), nWI ν2 61 1 (ν2.1 65 0)) = _
        rw [c65]; rfl
  · rw [if_neg ha] at hw
    refine IT_nw hS hl hp hw (fun ν hF hE => ?_)
    obtain ⟨ν1, a1, a2, a3⟩ := hhead ν hE
    rw [hx, show p + (ak l v (p + 1) 5 + 1) = p + 1 + ak l v (p + 1) 5 by omega]
    refine ⟨ν1, ?_, hF.w a3, a2, a3.mono (fun a b z => wE.i z)⟩
    rw [hun ν hE, a1, Option.bind_some, if_pos (show (i01 (decide (ak l v (p + 1) 5 = 4)), ν1).1 = 0 from by show i01 (decide (ak l v (p + 1) 5 = 4)) = 0; rw [decide_eq_false ha]; rfl)]
theorem itm_seats {l s p : Nat} {v : Nat → Int32} {S : pS} (hS : okP S) (hs : s < 8) (hl : l ≤ 160) (hp : p ≤ l) (hc : sg l v p = 115) (hc1 : sg l v (p + 1) ≠ 99) : ∃ o, IT l v s S p o := by
  obtain ⟨hw, hx⟩ := wd_se hc hc1
  have hpl : p < l := sg_lt (by rw [hc]; decide)
  have hun : ∀ ν, RE s l v p ν → f_X9_item ν = (f_X9_word 6 (nWI ν 53 14 (nI (p + 1)))).bind (fun r_86 => if r_86.1 = 0 then some (0, r_86.2) else (f_X9_number 0 1 4 r_86.2).bind (fun r_88 => if r_88.1 = 0 then some (0, r_88.2) else if inb 0 5 = true then if inb 0 4 = true then qL (nWI r_88.2 61 (0 : Int32).toNatClampNeg (r_88.2.1 65 (0 : Int32).toNatClampNeg)) (fun ν_92 => some (1, ν_92)) else none else none)) := fun ν hE => by
    rw [f_X9_item, sg9 hE hs hl (by omega), Option.bind_some, if_neg (show ¬ (sg l v p, ν).1 = 102 from by show ¬ sg l v p = 102; rw [hc]; decide), if_neg (show ¬ (sg l v p, ν).1 = 111 from by show ¬ sg l v p = 111; rw [hc]; decide), if_neg (show ¬ (sg l v p, ν).1 = 112 from by show ¬ sg l v p = 112; rw [hc]; decide), if_pos (show (sg l v p, ν).1 = 115 from hc), ql]
    show (f_X9_sign (nWI ν 53 14 (ν.1 53 14 + 1))).bind _ = _
    rw [hE.2.2.2, nI_1, sg9 hE.st hs hl (by omega), Option.bind_some, if_neg (show ¬ (sg l v (p + 1), nWI ν 53 14 (nI (p + 1))).1 = 99 from hc1)]
  have hhead : ∀ ν, RE s l v p ν → ∃ ν1, f_X9_word 6 (nWI ν 53 14 (nI (p + 1))) = some (i01 (decide (ak l v (p + 1) 6 = 4)), ν1) ∧ RE s l v (p + 1 + ak l v (p + 1) 6) ν1 ∧ mEq wE ν ν1 := fun ν hE => by
    obtain ⟨ν1, a1, a2, a3⟩ := wd9 (w := 6) (by decide) hs hl (show p + 1 < 800 by omega) (hE.st (q := p + 1))
    exact ⟨ν1, a1, a2, (mEq.rf.wi (P := wE) ⟨rfl, rfl⟩).tr a3⟩
  by_cases ha : ak l v (p + 1) 6 = 4
  · rw [if_pos ha] at hw
    cases ht : nbT l v 1 4 (p + 5) with
    | false =>
      have hbx := nbX_le l v (p + 5)
      refine IT_no (x := nbX l v (p + 5)) hS (by omega) (fun ν hR hD h5 => ?_) (fun ν hF hE => ?_)
      · obtain ⟨y, ν', e1, e2, e3, _⟩ := nb8 (lo := 1) (hi := 4) hl (show (true, p + 5).2 < 800 by show p + 5 < 800; omega) (hdC (q := p + 5) hD h5)
        rw [nst_n ht] at e2
        have h5' : ν'.1 33 4 = nI (nbX l v (p + 5)) := e2
        refine ⟨nWI ν' 8 8 y, ?_, (e33 ((nEq.rf.wi (P := fun q => q = 33) rfl).tr e3)).wi (by decide), by rw [wi_ne (by omega)]; exact h5'⟩
        rw [ri_3 hD h5 hl (by omega) hw, e1, Option.bind_some]
      · obtain ⟨ν1, a1, a2, a3⟩ := hhead ν hE
        rw [ha] at a1 a2
        obtain ⟨ν2, c1, c2, _, c4⟩ := nb9 (k := 0) (lo := 1) (hi := 4) (p := p + 5) a2 hs hl (by omega) (by decide)
        rw [ht] at c1 c2
        refine ⟨ν2, ?_, (hF.w a3).np c4, c2, (a3.mono (fun a b z => wE.i z)).tr (c4.mono (fun a b z => nP.i z))⟩
        rw [hun ν hE, a1, Option.bind_some, if_neg (show ¬ (i01 (decide (4 = 4)), ν1).1 = 0 from by show ¬ i01 (decide (4 = 4)) = 0; decide)]
        show (f_X9_number (nI 0) 1 4 ν1).bind _ = _
        rw [c1, Option.bind_some, if_pos (show (i01 false, ν2).1 = 0 from rfl)]
    | true =>
      obtain ⟨c, hc0, hc48, hcv, hq1, hq2, hq3⟩ := nb_v (a := 1) (b := 4) (by decide) (by decide) ht
      refine ⟨(true, pW 0 (nI c) S, (nv l v (p + 5 + 1)).2), fun ν hR hD h5 => ?_, fun ν hF hE => ?_, hS.w0 hc0 hc48, Nat.le_refl _, rfl, fun _ => ⟨by show p < (nv l v (p + 5 + 1)).2; omega, hq2⟩, by show (nv l v (p + 5 + 1)).2 ≤ 400; omega⟩
      · obtain ⟨y, ν1, e1, e2, e3, e4⟩ := nb8 (lo := 1) (hi := 4) hl (show (true, p + 5).2 < 800 by show p + 5 < 800; omega) (hdC (q := p + 5) hD h5)
        obtain ⟨y1, y2⟩ := e4 (by rw [nst_t ht])
        rw [nst_t ht] at e2
        obtain ⟨g5, gR⟩ : ν1.1 33 4 = -1 ∧ RD l v (nv l v (p + 5 + 1)).2 ν1 := e2
        have hy : y = nI c := y1.trans hcv
        have hR1 : RP 8 S ν1 := hR.eq ((nEq.rf.wi (P := fun q => q = 33) rfl).tr e3) (fun a _ _ => by omega)
        refine ⟨nWI ν1 8 8 (nI c), ?_, (e33 ((nEq.rf.wi (P := fun q => q = 33) rfl).tr e3)).wi (by decide), ?_⟩
        · rw [ri_3 hD h5 hl (by omega) hw, e1, Option.bind_some, hy]
        · show (nWI ν1 8 8 (nI c)).1 33 4 = -1 ∧ _
          exact ⟨by rw [wi_ne (by omega)]; exact g5, hR1.w (k := 0) (by decide), gR.eq (P := fun q => q = 8) (nEq.rf.wi rfl) (by decide) (by decide)⟩
      · obtain ⟨ν1, a1, a2, a3⟩ := hhead ν hE
        rw [ha] at a1 a2
        obtain ⟨ν2, c1, c2, c3, c4⟩ := nb9 (k := 0) (lo := 1) (hi := 4) (p := p + 5) a2 hs hl (by omega) (by decide)
        rw [ht] at c1 c2 c3
        have c65 : ν2.1 65 0 = nI c := (c3 rfl).trans hcv
        have hF2 := (hF.w a3).np c4
        have c2' : RE s l v (nv l v (p + 5 + 1)).2 ν2 := c2
        refine ⟨nWI ν2 61 0 (nI c), ?_, hF2.ww (by decide), c2'.eq (P := fun a b => a = 61) (mEq.rf.wi rfl) (by omega) (by omega) (fun b => by omega) (by omega), ((a3.mono (fun a b z => wE.i z)).tr (c4.mono (fun a b z => nP.i z))).wi (show iP 61 0 by unfold iP; omega)⟩
        rw [hun ν hE, a1, Option.bind_some, if_neg (show ¬ (i01 (decide (4 = 4)), ν1).1 = 0 from by show ¬ i01 (decide (4 = 4)) = 0; decide)]
        show (f_X9_number (nI 0) 1 4 ν1).bind _ = _
        rw [c1, Option.bind_some, if_neg (show ¬ (i01 true, ν2).1 = 0 from by show ¬ i01 true = 0; decide), if_pos (show inb 0 5 = true from rfl), if_pos (show inb 0 4 = true from rfl), ql]
        show some ((1 : Int32), nWI ν2 61 0 (ν2.1 65 0)) = _
        rw [c65]; rfl
  · rw [if_neg ha] at hw
    refine IT_nw hS hl hp hw (fun ν hF hE => ?_)
    obtain ⟨ν1, a1, a2, a3⟩ := hhead ν hE
    rw [hx, show p + (ak l v (p + 1) 6 + 1) = p + 1 + ak l v (p + 1) 6 by omega]
    refine ⟨ν1, ?_, hF.w a3, a2, a3.mono (fun a b z => wE.i z)⟩
    rw [hun ν hE, a1, Option.bind_some, if_pos (show (i01 (decide (ak l v (p + 1) 6 = 4)), ν1).1 = 0 from by show i01 (decide (ak l v (p + 1) 6 = 4)) = 0; rw [decide_eq_false ha]; rfl)]
/-! person: the class -/
theorem nv_b (l : Nat) (v : Nat → Int32) (p : Nat) : (nv l v p).2 ≤ p + 2 := by
  unfold nv
  split
  · split
    · exact Nat.le_refl _
    · show p + 1 ≤ p + 2; omega
  · show p ≤ p + 2; omega
theorem nst_b (l : Nat) (v : Nat → Int32) (lo hi : Int32) (z : Bool × Nat) : (nst l v lo hi z).2 ≤ z.2 + 3 := by
  unfold nst
  split
  · split
    · have := nv_b l v (z.2 + 1)
      show (nv l v (z.2 + 1)).2 ≤ z.2 + 3; omega
    · have := nbX_le l v z.2
      show nbX l v z.2 ≤ z.2 + 3; omega
  · omega
theorem nst_tt {l : Nat} {v : Nat → Int32} {lo hi : Int32} {z : Bool × Nat} (h : (nst l v lo hi z).1 = true) : z.1 = true := by
  unfold nst at h
  by_cases q : z.1 = true
  · exact q
  · rw [if_neg q] at h; exact h
theorem rp8 {l q : Nat} {v : Nat → Int32} {ν : gN} {z1 z2 z3 z4 z5 : Bool × Nat} (hl : l ≤ 160) (hq : q < 700) (h : CS l v (true, q) ν) (e1 : nst l v 0 6 (true, q) = z1) (e2 : nst l v 0 9 z1 = z2) (e3 : nst l v 0 20 z2 = z3) (e4 : nst l v 1 4 z3 = z4) (e5 : nst l v 0 48 z4 = z5) : ∃ x1 x2 x3 x4 x5 ν1 ν2 ν3 ν4 ν5, f_X5_readNumber 0 6 ν = some (x1, ν1) ∧ f_X5_readNumber 0 9 ν1 = some (x2, ν2) ∧ f_X5_readNumber 0 20 ν2 = some (x3, ν3) ∧ f_X5_readNumber 1 4 ν3 = some (x4, ν4) ∧ f_X5_readNumber 0 48 ν4 = some (x5, ν5) ∧ CS l v z5 ν5 ∧ nEq (fun q => q = 33) ν ν5 ∧ (z5.1 = true → x1 = (nv l v (q + 1)).1 ∧ x2 = (nv l v (z1.2 + 1)).1 ∧ x3 = (nv l v (z2.2 + 1)).1 ∧ x4 = (nv l v (z3.2 + 1)).1 ∧ x5 = (nv l v (z4.2 + 1)).1 ∧ ν5.1 33 3 = nI (z4.2 + 1)) := by
  have b1' := nst_b l v 0 6 (true, q)
  have b2' := nst_b l v 0 9 z1
  have b3' := nst_b l v 0 20 z2
  have b4' := nst_b l v 1 4 z3
  rw [e1] at b1'
  rw [e2] at b2'
  rw [e3] at b3'
  rw [e4] at b4'
  have b1'' : z1.2 ≤ q + 3 := b1'
  obtain ⟨x1, ν1, f1, g1, k1, m1⟩ := nb8 (lo := 0) (hi := 6) hl (show (true, q).2 < 800 by show q < 800; omega) h
  rw [e1] at g1 m1
  obtain ⟨x2, ν2, f2, g2, k2, m2⟩ := nb8 (lo := 0) (hi := 9) hl (show z1.2 < 800 by omega) g1
  rw [e2] at g2 m2
  obtain ⟨x3, ν3, f3, g3, k3, m3⟩ := nb8 (lo := 0) (hi := 20) hl (show z2.2 < 800 by omega) g2
  rw [e3] at g3 m3
  obtain ⟨x4, ν4, f4, g4, k4, m4⟩ := nb8 (lo := 1) (hi := 4) hl (show z3.2 < 800 by omega) g3
  rw [e4] at g4 m4
  obtain ⟨x5, ν5, f5, g5, k5, m5⟩ := nb8 (lo := 0) (hi := 48) hl (show z4.2 < 800 by omega) g4
  rw [e5] at g5 m5
  refine ⟨x1, x2, x3, x4, x5, ν1, ν2, ν3, ν4, ν5, f1, f2, f3, f4, f5, g5, (((k1.tr k2).tr k3).tr k4).tr k5, fun ht => ?_⟩
  have t4 : z4.1 = true := nst_tt (by rw [e5]; exact ht)
  have t3 : z3.1 = true := nst_tt (by rw [e4]; exact t4)
  have t2 : z2.1 = true := nst_tt (by rw [e3]; exact t3)
  have t1 : z1.1 = true := nst_tt (by rw [e2]; exact t2)
  exact ⟨(m1 t1).1, (m2 t2).1, (m3 t3).1, (m4 t4).1, (m5 ht).1, (m5 ht).2⟩
theorem rp8n {l q x : Nat} {v : Nat → Int32} {ν : gN} {z1 z2 z3 z4 : Bool × Nat} (hl : l ≤ 160) (hq : q < 700) (h : CS l v (true, q) ν) (e1 : nst l v 0 6 (true, q) = z1) (e2 : nst l v 0 9 z1 = z2) (e3 : nst l v 0 20 z2 = z3) (e4 : nst l v 1 4 z3 = z4) (e5 : nst l v 0 48 z4 = (false, x)) (hx : x < 900) : ∃ ν', f_X5_readPerson 8 ν = some ν' ∧ nEq (fun q => q = 33) ν ν' ∧ ν'.1 33 4 = nI x := by
  obtain ⟨x1, x2, x3, x4, x5, ν1, ν2, ν3, ν4, ν5, f1, f2, f3, f4, f5, g5, k5, _⟩ := rp8 hl hq h e1 e2 e3 e4 e5
  have h5 : ν5.1 33 4 = nI x := g5
  refine ⟨ν5, ?_, k5, h5⟩
  rw [f_X5_readPerson, f1, Option.bind_some]
  show (f_X5_readNumber 0 9 ν1).bind _ = _
  rw [f2, Option.bind_some]
  show (f_X5_readNumber 0 20 ν2).bind _ = _
  rw [f3, Option.bind_some]
  show (f_X5_readNumber 1 4 ν3).bind _ = _
  rw [f4, Option.bind_some]
  show (f_X5_readNumber 0 48 ν4).bind _ = _
  rw [f5, Option.bind_some]
  show (if ν5.1 33 4 = -1 then _ else if ν5.1 33 4 = -1 then _ else some ν5) = _
  rw [h5, if_neg (nI_nm1 (by omega)), if_neg (nI_nm1 (by omega))]
/-! person: the reference -/
noncomputable def pe6 (y : Int32) (ν : gN) : Option (Int32 × gN) := if inb 4 5 = true then (f_X9_isOpen (ν.1 65 (4 : Int32).toNatClampNeg) ν).bind (fun r_38 => (f_X9_may r_38.1 y r_38.2).bind (fun r_40 => if r_40.1 = 0 then some (0, r_40.2) else if inb 0 5 = true then if inb 1 5 = true then if inb 2 5 = true then if inb 3 5 = true then if inb 4 5 = true then (f_X9_newOne (r_40.2.1 65 (0 : Int32).toNatClampNeg) (r_40.2.1 65 (1 : Int32).toNatClampNeg) (r_40.2.1 65 (2 : Int32).toNatClampNeg) (r_40.2.1 65 (3 : Int32).toNatClampNeg) (r_40.2.1 65 (4 : Int32).toNatClampNeg) r_40.2).bind (fun r_47 => some (1, r_47.2)) else none else none else none else none else none)) else none
noncomputable def pe5 (ν : gN) : Option (Int32 × gN) := (f_X9_number 4 0 48 ν).bind (fun r => if r.1 = 0 then some (0, r.2) else pe6 (ν.1 53 14) r.2)
noncomputable def pe4 (ν : gN) : Option (Int32 × gN) := (f_X9_number 3 1 4 ν).bind (fun r => if r.1 = 0 then some (0, r.2) else pe5 r.2)
noncomputable def pe3 (ν : gN) : Option (Int32 × gN) := (f_X9_number 2 0 20 ν).bind (fun r => if r.1 = 0 then some (0, r.2) else pe4 r.2)
noncomputable def pe2 (ν : gN) : Option (Int32 × gN) := (f_X9_number 1 0 9 ν).bind (fun r => if r.1 = 0 then some (0, r.2) else pe3 r.2)
noncomputable def pe1 (ν : gN) : Option (Int32 × gN) := (f_X9_number 0 0 6 ν).bind (fun r => if r.1 = 0 then some (0, r.2) else pe2 r.2)
theorem pe_it {s l p : Nat} {v : Nat → Int32} {ν : gN} (h : RE s l v p ν) (hs : s < 8) (hl : l ≤ 160) (hp : p < 700) (hc : sg l v p = 112) : f_X9_item ν = if 7 ≤ (ν.1 53 0) then (f_X9_word_ 2 0 ν).bind (fun r => if r.1 = 0 then some (0, r.2) else pe1 r.2) else (f_X9_word_ 2 1 ν).bind (fun r => if r.1 = 0 then some (0, r.2) else pe1 r.2) := by
  rw [f_X9_item, sg9 h hs hl (by omega), Option.bind_some, if_neg (show ¬ (sg l v p, ν).1 = 102 from by show ¬ sg l v p = 102; rw [hc]; decide), if_neg (show ¬ (sg l v p, ν).1 = 111 from by show ¬ sg l v p = 111; rw [hc]; decide), if_pos (show (sg l v p, ν).1 = 112 from hc)]
  rfl
theorem wo9_1 {b : Bool} {ν ν1 : gN} (h : f_X9_word 2 ν = some (i01 b, ν1)) : f_X9_word_ 2 1 ν = some (i01 b, ν1) := by
  rw [f_X9_word_, h, Option.bind_some]
  cases b with
  | false => rw [if_pos (show (i01 false, ν1).1 = 0 from rfl), if_pos (show (i01 false, ν1).1 = 0 from rfl)]; rfl
  | true => rw [if_neg (show ¬ (i01 true, ν1).1 = 0 from by show ¬ i01 true = 0; decide), if_neg (show ¬ (1 : Int32) = 0 by decide), if_neg (show ¬ (i01 true, ν1).1 = 0 from by show ¬ i01 true = 0; decide), if_neg (show ¬ (1 : Int32) = 0 by decide)]; rfl
theorem wo9_0 {b : Bool} {ν ν1 : gN} (h : f_X9_word 2 ν = some (i01 b, ν1)) : f_X9_word_ 2 0 ν = some (0, if b = true then nWI ν1 53 14 (ν.1 53 14) else ν1) := by
  rw [f_X9_word_, h, Option.bind_some]
  cases b with
  | false => rw [if_pos (show (i01 false, ν1).1 = 0 from rfl), if_pos (show (i01 false, ν1).1 = 0 from rfl)]; rfl
  | true => rw [if_neg (show ¬ (i01 true, ν1).1 = 0 from by show ¬ i01 true = 0; decide), if_pos rfl, ql, if_neg (show ¬ (i01 true, ν1).1 = 0 from by show ¬ i01 true = 0; decide), if_pos rfl]; rfl
theorem nb9n {s l q k : Nat} {v : Nat → Int32} {lo hi : Int32} {S : pS} {ν : gN} {F : gN → Option (Int32 × gN)} (h : RE s l v q ν) (hF : FC S ν) (hs : s < 8) (hl : l ≤ 160) (hq : q < 800) (hk : k < 5) (ht : nbT l v lo hi q = false) : ∃ ν', (f_X9_number (nI k) lo hi ν).bind (fun r => if r.1 = 0 then some (0, r.2) else F r.2) = some (0, ν') ∧ FC S ν' ∧ RE s l v (nbX l v q) ν' ∧ mEq (nP k) ν ν' := by
  obtain ⟨ν2, c1, c2, _, c4⟩ := nb9 (k := k) (lo := lo) (hi := hi) h hs hl hq hk
  rw [ht] at c1 c2
  exact ⟨ν2, by rw [c1, Option.bind_some, if_pos (show (i01 false, ν2).1 = 0 from rfl)], hF.np c4, c2, c4⟩
theorem nb9t {s l q k : Nat} {v : Nat → Int32} {lo hi : Int32} {S : pS} {ν : gN} {F : gN → Option (Int32 × gN)} (h : RE s l v q ν) (hF : FC S ν) (hs : s < 8) (hl : l ≤ 160) (hq : q < 800) (hk : k < 5) (ht : nbT l v lo hi q = true) : ∃ ν', (f_X9_number (nI k) lo hi ν).bind (fun r => if r.1 = 0 then some (0, r.2) else F r.2) = F ν' ∧ FC S ν' ∧ RE s l v (nv l v (q + 1)).2 ν' ∧ ν'.1 65 k = (nv l v (q + 1)).1 ∧ mEq (nP k) ν ν' := by
  obtain ⟨ν2, c1, c2, c3, c4⟩ := nb9 (k := k) (lo := lo) (hi := hi) h hs hl hq hk
  rw [ht] at c1 c2 c3
  exact ⟨ν2, by rw [c1, Option.bind_some, if_neg (show ¬ (i01 true, ν2).1 = 0 from by show ¬ i01 true = 0; decide)], hF.np c4, c2, c3 rfl, c4⟩
theorem n65 {k j : Nat} {ν ν' : gN} (h : mEq (nP k) ν ν') (hj : j ≠ k) : ν'.1 65 j = ν.1 65 j := (h 65 j (by unfold nP; omega)).1
theorem pe6_n {s l q c : Nat} {v : Nat → Int32} {S : pS} {ν : gN} {q4 : Nat} (hF : FC S ν) (h : RE s l v q ν) (hc : c < 49) (h4 : ν.1 65 4 = nI c) (hf : S.2.2.1 c = true) : ∃ ν', pe6 (nI q4) ν = some (0, ν') ∧ FC S ν' ∧ RE s l v (q4 + 1) ν' ∧ mEq wE ν ν' := by
  refine ⟨nWI ν 53 14 (nI (q4 + 1)), ?_, hF.w (mEq.rf.wi ⟨rfl, rfl⟩), h.st, mEq.rf.wi ⟨rfl, rfl⟩⟩
  rw [pe6, if_pos (show inb 4 5 = true from rfl)]
  show (f_X9_isOpen (ν.1 65 4) ν).bind _ = _
  rw [h4, op9' hF.1 hc, hf, Option.bind_some]
  show (f_X9_may (i01 false) (nI q4) ν).bind _ = _
  rw [my9_f, Option.bind_some, if_pos rfl]
theorem pe6_t {s l q c k1 k2 k3 k4 : Nat} {v : Nat → Int32} {S : pS} {ν : gN} {y : Int32} (hF : FC S ν) (h : RE s l v q ν) (hn7 : S.1 < 7) (hc : c < 49) (h0 : ν.1 65 0 = nI k1) (h1 : ν.1 65 1 = nI k2) (h2 : ν.1 65 2 = nI k3) (h3 : ν.1 65 3 = nI k4) (h4 : ν.1 65 4 = nI c) (hf : S.2.2.1 c = false) : ∃ ν', pe6 y ν = some (1, ν') ∧ FC (addS S k1 k2 k3 k4 c) ν' ∧ RE s l v q ν' ∧ mEq iP ν ν' := by
  have he : mEq iP ν (nWI (nWI (nWI (nWI (nWI (nWI (nWI ν 54 S.1 (nI k1)) 55 S.1 (nI k2)) 56 S.1 (nI k3)) 57 S.1 (nI k4)) 58 S.1 (nI c)) 59 S.1 0) 53 0 (nI (S.1 + 1))) := ((((((mEq.rf.wi (show iP 54 S.1 by unfold iP; omega)).wi (show iP 55 S.1 by unfold iP; omega)).wi (show iP 56 S.1 by unfold iP; omega)).wi (show iP 57 S.1 by unfold iP; omega)).wi (show iP 58 S.1 by unfold iP; omega)).wi (show iP 59 S.1 by unfold iP; omega)).wi (show iP 53 0 by unfold iP; omega)
  have he2 : mEq (fun a b => (54 ≤ a ∧ a < 60) ∨ (a = 53 ∧ b = 0)) ν (nWI (nWI (nWI (nWI (nWI (nWI (nWI ν 54 S.1 (nI k1)) 55 S.1 (nI k2)) 56 S.1 (nI k3)) 57 S.1 (nI k4)) 58 S.1 (nI c)) 59 S.1 0) 53 0 (nI (S.1 + 1))) := ((((((mEq.rf.wi (by omega)).wi (by omega)).wi (by omega)).wi (by omega)).wi (by omega)).wi (by omega)).wi (by omega)
  refine ⟨_, ?_, hF.ad hn7, h.eq he2 (by omega) (by omega) (fun b => by omega) (by omega), he⟩
  rw [pe6, if_pos (show inb 4 5 = true from rfl)]
  show (f_X9_isOpen (ν.1 65 4) ν).bind _ = _
  rw [h4, op9' hF.1 hc, hf, Option.bind_some]
  show (f_X9_may (i01 true) y ν).bind _ = _
  rw [my9_t, Option.bind_some, if_neg (show ¬ (1 : Int32) = 0 by decide), if_pos (show inb 0 5 = true from rfl), if_pos (show inb 1 5 = true from rfl), if_pos (show inb 2 5 = true from rfl), if_pos (show inb 3 5 = true from rfl), if_pos (show inb 4 5 = true from rfl)]
  show (f_X9_newOne (ν.1 65 0) (ν.1 65 1) (ν.1 65 2) (ν.1 65 3) (ν.1 65 4) ν).bind _ = _
  rw [h0, h1, h2, h3, h4, no9 hF.1 hn7, Option.bind_some]
/-! person: both -/
theorem pe_no {l s p x : Nat} {v : Nat → Int32} {S : pS} {z1 z2 z3 z4 : Bool × Nat} (hS : okP S) (hn : S.1 < 7) (hs : s < 8) (hl : l ≤ 160) (hp : p ≤ l) (hc : sg l v p = 112) (ha : ak l v p 2 = 6) (e1 : nst l v 0 6 (true, p + 6) = z1) (e2 : nst l v 0 9 z1 = z2) (e3 : nst l v 0 20 z2 = z3) (e4 : nst l v 1 4 z3 = z4) (e5 : nst l v 0 48 z4 = (false, x)) (hx : x ≤ 300) (h9 : ∀ ν, FC S ν → RE s l v (p + 6) ν → ∃ ν', pe1 ν = some (0, ν') ∧ FC S ν' ∧ RE s l v x ν' ∧ mEq iP ν ν') : ∃ o, IT l v s S p o := by
  obtain ⟨hw, _⟩ := wd_p hc
  rw [if_pos ha] at hw
  refine IT_no (x := x) hS (by omega) (fun ν hR hD h5 => ?_) (fun ν hF hE => ?_)
  · obtain ⟨ν', f1, f2, f3⟩ := rp8n hl (by omega) (hdC (q := p + 6) hD h5) e1 e2 e3 e4 e5 (by omega)
    exact ⟨ν', by rw [ri_2 hR hn hD h5 hl (by omega) hw]; exact f1, e33 ((nEq.rf.wi (P := fun q => q = 33) rfl).tr f2), f3⟩
  · obtain ⟨ν1, a1, a2, a3⟩ := wd9 (w := 2) (by decide) hs hl (show p < 800 by omega) hE
    rw [ha] at a1 a2
    have a3' : mEq wE ν ν1 := a3
    obtain ⟨ν', f1, f2, f3, f4⟩ := h9 ν1 (hF.w a3') a2
    refine ⟨ν', ?_, f2, f3, (a3'.mono (fun a b z => wE.i z)).tr f4⟩
    rw [pe_it hE hs hl (by omega) hc, hF.1.1, if_neg (by rw [le_cn (c := 7) (k := 7) rfl (by omega) (by decide)]; omega), wo9_1 a1, Option.bind_some, if_neg (show ¬ (i01 (decide (6 = wl 2)), ν1).1 = 0 from by show ¬ i01 (decide (6 = wl 2)) = 0; decide)]
    exact f1
theorem itm_person {l s p : Nat} {v : Nat → Int32} {S : pS} (hS : okP S) (hs : s < 8) (hl : l ≤ 160) (hp : p ≤ l) (hc : sg l v p = 112) : ∃ o, IT l v s S p o := by
  obtain ⟨hw, hx⟩ := wd_p hc
  have hc7 := hS.1
  by_cases ha : ak l v p 2 = 6
  · by_cases hn : S.1 = 7
    · rw [if_pos ha] at hw
      refine IT_no (x := p) hS (by omega) (fun ν hR hD h5 => ⟨_, ri_2n hR hn hD hl (by omega) hw, (nEq.rf.wi (Or.inr rfl)).wi (Or.inr rfl), wi_eq _ _ _ _⟩) (fun ν hF hE => ?_)
      obtain ⟨ν1, a1, a2, a3⟩ := wd9 (w := 2) (by decide) hs hl (show p < 800 by omega) hE
      rw [ha] at a1 a2
      have a3' : mEq wE ν ν1 := a3
      refine ⟨nWI ν1 53 14 (nI p), ?_, (hF.w a3').w (mEq.rf.wi ⟨rfl, rfl⟩), a2.st, (a3'.mono (fun a b z => wE.i z)).wi (show iP 53 14 by unfold iP; omega)⟩
      rw [pe_it hE hs hl (by omega) hc, hF.1.1, hn, if_pos (by decide), wo9_0 a1, Option.bind_some, if_pos rfl, if_pos (by decide), hE.2.2.2]
    have hn7 : S.1 < 7 := by omega
    cases t1 : nbT l v 0 6 (p + 6) with
    | false =>
      have hb := nbX_le l v (p + 6)
      refine pe_no hS hn7 hs hl hp hc ha (nst_n t1) (nst_f _ _ _ _ _) (nst_f _ _ _ _ _) (nst_f _ _ _ _ _) (nst_f _ _ _ _ _) (by omega) (fun ν hF hE => ?_)
      obtain ⟨ν', f1, f2, f3, f4⟩ := nb9n (k := 0) (F := pe2) hE hF hs hl (by omega) (by decide) t1
      exact ⟨ν', f1, f2, f3, f4.mono (fun a b z => nP.i z)⟩
    | true =>
    obtain ⟨k1, _, k1', kv1, q1a, q1b, q1c⟩ := nb_v (a := 0) (b := 6) (by decide) (by decide) t1
    obtain ⟨q1, hq1⟩ : ∃ q, q = (nv l v (p + 6 + 1)).2 := ⟨_, rfl⟩
    have s1 : nst l v 0 6 (true, p + 6) = (true, q1) := by rw [nst_t t1, hq1]
    rw [← hq1] at q1a q1b q1c
    have r1 : ∀ ν, FC S ν → RE s l v (p + 6) ν → ∃ ν', pe1 ν = pe2 ν' ∧ FC S ν' ∧ RE s l v q1 ν' ∧ ν'.1 65 0 = nI k1 ∧ mEq iP ν ν' := fun ν hF hE => by
      obtain ⟨ν', f1, f2, f3, f4, f5⟩ := nb9t (k := 0) (F := pe2) hE hF hs hl (by omega) (by decide) t1
      exact ⟨ν', f1, f2, by rw [hq1]; exact f3, f4.trans kv1, f5.mono (fun a b z => nP.i z)⟩
    cases t2 : nbT l v 0 9 q1 with
    | false =>
      have hb := nbX_le l v q1
      refine pe_no hS hn7 hs hl hp hc ha s1 (nst_n t2) (nst_f _ _ _ _ _) (nst_f _ _ _ _ _) (nst_f _ _ _ _ _) (by omega) (fun ν hF hE => ?_)
      obtain ⟨ν1, g1, g2, g3, _, g5⟩ := r1 ν hF hE
      obtain ⟨ν', f1, f2, f3, f4⟩ := nb9n (k := 1) (F := pe3) g3 g2 hs hl (by omega) (by decide) t2
      exact ⟨ν', g1.trans f1, f2, f3, g5.tr (f4.mono (fun a b z => nP.i z))⟩
    | true =>
    obtain ⟨k2, _, k2', kv2, q2a, q2b, q2c⟩ := nb_v (a := 0) (b := 9) (by decide) (by decide) t2
    obtain ⟨q2, hq2⟩ : ∃ q, q = (nv l v (q1 + 1)).2 := ⟨_, rfl⟩
    have s2 : nst l v 0 9 (true, q1) = (true, q2) := by rw [nst_t t2, hq2]
    rw [← hq2] at q2a q2b q2c
    have r2 : ∀ ν, FC S ν → RE s l v (p + 6) ν → ∃ ν', pe1 ν = pe3 ν' ∧ FC S ν' ∧ RE s l v q2 ν' ∧ (ν'.1 65 0 = nI k1 ∧ ν'.1 65 1 = nI k2) ∧ mEq iP ν ν' := fun ν hF hE => by
      obtain ⟨ν1, g1, g2, g3, g4, g5⟩ := r1 ν hF hE
      obtain ⟨ν', f1, f2, f3, f4, f5⟩ := nb9t (k := 1) (F := pe3) g3 g2 hs hl (by omega) (by decide) t2
      exact ⟨ν', g1.trans f1, f2, by rw [hq2]; exact f3, ⟨(n65 f5 (by decide)).trans g4, f4.trans kv2⟩, g5.tr (f5.mono (fun a b z => nP.i z))⟩
    cases t3 : nbT l v 0 20 q2 with
    | false =>
      have hb := nbX_le l v q2
      refine pe_no hS hn7 hs hl hp hc ha s1 s2 (nst_n t3) (nst_f _ _ _ _ _) (nst_f _ _ _ _ _) (by omega) (fun ν hF hE => ?_)
      obtain ⟨ν1, g1, g2, g3, _, g5⟩ := r2 ν hF hE
      obtain ⟨ν', f1, f2, f3, f4⟩ := nb9n (k := 2) (F := pe4) g3 g2 hs hl (by omega) (by decide) t3
      exact ⟨ν', g1.trans f1, f2, f3, g5.tr (f4.mono (fun a b z => nP.i z))⟩
    | true =>
    obtain ⟨k3, _, k3', kv3, q3a, q3b, q3c⟩ := nb_v (a := 0) (b := 20) (by decide) (by decide) t3
    obtain ⟨q3, hq3⟩ : ∃ q, q = (nv l v (q2 + 1)).2 := ⟨_, rfl⟩
    have s3 : nst l v 0 20 (true, q2) = (true, q3) := by rw [nst_t t3, hq3]
    rw [← hq3] at q3a q3b q3c
    have r3 : ∀ ν, FC S ν → RE s l v (p + 6) ν → ∃ ν', pe1 ν = pe4 ν' ∧ FC S ν' ∧ RE s l v q3 ν' ∧ (ν'.1 65 0 = nI k1 ∧ ν'.1 65 1 = nI k2 ∧ ν'.1 65 2 = nI k3) ∧ mEq iP ν ν' := fun ν hF hE => by
      obtain ⟨ν1, g1, g2, g3, g4, g5⟩ := r2 ν hF hE
      obtain ⟨ν', f1, f2, f3, f4, f5⟩ := nb9t (k := 2) (F := pe4) g3 g2 hs hl (by omega) (by decide) t3
      exact ⟨ν', g1.trans f1, f2, by rw [hq3]; exact f3, ⟨(n65 f5 (by decide)).trans g4.1, (n65 f5 (by decide)).trans g4.2, f4.trans kv3⟩, g5.tr (f5.mono (fun a b z => nP.i z))⟩
    cases t4 : nbT l v 1 4 q3 with
    | false =>
      have hb := nbX_le l v q3
      refine pe_no hS hn7 hs hl hp hc ha s1 s2 s3 (nst_n t4) (nst_f _ _ _ _ _) (by omega) (fun ν hF hE => ?_)
      obtain ⟨ν1, g1, g2, g3, _, g5⟩ := r3 ν hF hE
      obtain ⟨ν', f1, f2, f3, f4⟩ := nb9n (k := 3) (F := pe5) g3 g2 hs hl (by omega) (by decide) t4
      exact ⟨ν', g1.trans f1, f2, f3, g5.tr (f4.mono (fun a b z => nP.i z))⟩
    | true =>
    obtain ⟨k4, k4'', k4', kv4, q4a, q4b, q4c⟩ := nb_v (a := 1) (b := 4) (by decide) (by decide) t4
    obtain ⟨q4, hq4⟩ : ∃ q, q = (nv l v (q3 + 1)).2 := ⟨_, rfl⟩
    have s4 : nst l v 1 4 (true, q3) = (true, q4) := by rw [nst_t t4, hq4]
    rw [← hq4] at q4a q4b q4c
    have r4 : ∀ ν, FC S ν → RE s l v (p + 6) ν → ∃ ν', pe1 ν = pe5 ν' ∧ FC S ν' ∧ RE s l v q4 ν' ∧ (ν'.1 65 0 = nI k1 ∧ ν'.1 65 1 = nI k2 ∧ ν'.1 65 2 = nI k3 ∧ ν'.1 65 3 = nI k4) ∧ mEq iP ν ν' := fun ν hF hE => by
      obtain ⟨ν1, g1, g2, g3, g4, g5⟩ := r3 ν hF hE
      obtain ⟨ν', f1, f2, f3, f4, f5⟩ := nb9t (k := 3) (F := pe5) g3 g2 hs hl (by omega) (by decide) t4
      exact ⟨ν', g1.trans f1, f2, by rw [hq4]; exact f3, ⟨(n65 f5 (by decide)).trans g4.1, (n65 f5 (by decide)).trans g4.2.1, (n65 f5 (by decide)).trans g4.2.2, f4.trans kv4⟩, g5.tr (f5.mono (fun a b z => nP.i z))⟩
    cases t5 : nbT l v 0 48 q4 with
    | false =>
      have hb := nbX_le l v q4
      refine pe_no hS hn7 hs hl hp hc ha s1 s2 s3 s4 (nst_n t5) (by omega) (fun ν hF hE => ?_)
      obtain ⟨ν1, g1, g2, g3, _, g5⟩ := r4 ν hF hE
      obtain ⟨ν', f1, f2, f3, f4⟩ := nb9n (k := 4) (F := pe6 (ν1.1 53 14)) g3 g2 hs hl (by omega) (by decide) t5
      exact ⟨ν', g1.trans f1, f2, f3, g5.tr (f4.mono (fun a b z => nP.i z))⟩
    | true =>
    obtain ⟨c, _, hc48, kv5, q5a, q5b, q5c⟩ := nb_v (a := 0) (b := 48) (by decide) (by decide) t5
    have hc49 : c < 49 := by omega
    obtain ⟨q5, hq5⟩ : ∃ q, q = (nv l v (q4 + 1)).2 := ⟨_, rfl⟩
    have s5 : nst l v 0 48 (true, q4) = (true, q5) := by rw [nst_t t5, hq5]
    rw [← hq5] at q5a q5b q5c
    have r5 : ∀ ν, FC S ν → RE s l v (p + 6) ν → ∃ ν', pe1 ν = pe6 (nI q4) ν' ∧ FC S ν' ∧ RE s l v q5 ν' ∧ (ν'.1 65 0 = nI k1 ∧ ν'.1 65 1 = nI k2 ∧ ν'.1 65 2 = nI k3 ∧ ν'.1 65 3 = nI k4 ∧ ν'.1 65 4 = nI c) ∧ mEq iP ν ν' := fun ν hF hE => by
      obtain ⟨ν1, g1, g2, g3, g4, g5⟩ := r4 ν hF hE
      obtain ⟨ν', f1, f2, f3, f4, f5⟩ := nb9t (k := 4) (F := pe6 (ν1.1 53 14)) g3 g2 hs hl (by omega) (by decide) t5
      rw [g3.2.2.2] at f1
      refine ⟨ν', g1.trans ?_, f2, by rw [hq5]; exact f3, ⟨(n65 f5 (by decide)).trans g4.1, (n65 f5 (by decide)).trans g4.2.1, (n65 f5 (by decide)).trans g4.2.2.1, (n65 f5 (by decide)).trans g4.2.2.2, f4.trans kv5⟩, g5.tr (f5.mono (fun a b z => nP.i z))⟩
      rw [pe5, g3.2.2.2]
      exact f1
    have r0 : ∀ ν, RE s l v p ν → FC S ν → ∃ ν1, f_X9_item ν = pe1 ν1 ∧ FC S ν1 ∧ RE s l v (p + 6) ν1 ∧ mEq iP ν ν1 := fun ν hE hF => by
      obtain ⟨ν1, a1, a2, a3⟩ := wd9 (w := 2) (by decide) hs hl (show p < 800 by omega) hE
      rw [ha] at a1 a2
      have a3' : mEq wE ν ν1 := a3
      refine ⟨ν1, ?_, hF.w a3', a2, a3'.mono (fun a b z => wE.i z)⟩
      rw [pe_it hE hs hl (by omega) hc, hF.1.1, if_neg (by rw [le_cn (c := 7) (k := 7) rfl (by omega) (by decide)]; omega), wo9_1 a1, Option.bind_some, if_neg (show ¬ (i01 (decide (6 = wl 2)), ν1).1 = 0 from by show ¬ i01 (decide (6 = wl 2)) = 0; decide)]
    rw [if_pos ha] at hw
    have h8 : ∀ ν, RP 8 S ν → RD l v p ν → ν.1 33 4 = -1 → ∃ ν5, f_X5_readItem 8 ν = ((f_X4_isOpen 8 (nI c) ν5).bind (fun r_13 => if r_13.1 = 0 then qL (nWI r_13.2 33 4 (r_13.2.1 33 3)) (fun ν_17 => if (ν_17.1 33 4) = (-1) then (f_X4_addPerson 8 (nI k1) (nI k2) (nI k3) (nI k4) (nI c) ν_17).bind (fun r_19 => some r_19.2) else some ν_17) else if (r_13.2.1 33 4) = (-1) then (f_X4_addPerson 8 (nI k1) (nI k2) (nI k3) (nI k4) (nI c) r_13.2).bind (fun r_15 => some r_15.2) else some r_13.2)) ∧ RP 8 S ν5 ∧ RD l v q5 ν5 ∧ ν5.1 33 4 = -1 ∧ ν5.1 33 3 = nI (q4 + 1) ∧ nEq (fun q => (8 ≤ q ∧ q < 15) ∨ q = 33) ν ν5 := fun ν hR hD h5 => by
      obtain ⟨x1, x2, x3, x4, x5, ν1, ν2, ν3, ν4, ν5, f1, f2, f3, f4, f5, g5, kk, gv⟩ := rp8 hl (show p + 6 < 700 by omega) (hdC (q := p + 6) hD h5) s1 s2 s3 s4 s5
      obtain ⟨v1, v2, v3, v4, v5, v6⟩ := gv rfl
      have v1' : x1 = nI k1 := v1.trans kv1
      have v2' : x2 = nI k2 := v2.trans kv2
      have v3' : x3 = nI k3 := v3.trans kv3
      have v4' : x4 = nI k4 := v4.trans kv4
      have v5' : x5 = nI c := v5.trans kv5
      rw [v1'] at f1
      rw [v2'] at f2
      rw [v3'] at f3
      rw [v4'] at f4
      rw [v5'] at f5
      obtain ⟨g5a, g5b⟩ : ν5.1 33 4 = -1 ∧ RD l v q5 ν5 := g5
      have kk' : nEq (fun q => q = 33) ν ν5 := (nEq.rf.wi (P := fun q => q = 33) rfl).tr kk
      refine ⟨ν5, ?_, hR.eq kk' (fun a _ _ => by omega), g5b, g5a, v6, e33 kk'⟩
      rw [ri_2 hR hn7 hD h5 hl (by omega) hw, f_X5_readPerson, f1, Option.bind_some]
      show (f_X5_readNumber 0 9 ν1).bind _ = _
      rw [f2, Option.bind_some]
      show (f_X5_readNumber 0 20 ν2).bind _ = _
      rw [f3, Option.bind_some]
      show (f_X5_readNumber 1 4 ν3).bind _ = _
      rw [f4, Option.bind_some]
      show (f_X5_readNumber 0 48 ν4).bind _ = _
      rw [f5, Option.bind_some]
      show (if ν5.1 33 4 = -1 then _ else _) = _
      rw [if_pos g5a]
    cases hf : S.2.2.1 c with
    | true =>
      refine IT_no (x := q4 + 1) hS (by omega) (fun ν hR hD h5 => ?_) (fun ν hF hE => ?_)
      · obtain ⟨ν5, m1, m2, m3, m4, m5, m6⟩ := h8 ν hR hD h5
        refine ⟨nWI ν5 33 4 (nI (q4 + 1)), ?_, m6.wi (Or.inr rfl), wi_eq _ _ _ _⟩
        rw [m1, op8' m2 hc49, hf, Option.bind_some, if_pos (show (i01 (!true), ν5).1 = 0 from rfl), ql]
        show (if (nWI ν5 33 4 (ν5.1 33 3)).1 33 4 = -1 then _ else some (nWI ν5 33 4 (ν5.1 33 3))) = _
        rw [m5, wi_eq, if_neg (nI_nm1 (by omega))]
      · obtain ⟨ν1, a1, a2, a3, a4⟩ := r0 ν hE hF
        obtain ⟨ν2, g1, g2, g3, g4, g5⟩ := r5 ν1 a2 a3
        obtain ⟨ν', f1, f2, f3, f4⟩ := pe6_n (q4 := q4) g2 g3 hc49 g4.2.2.2.2 hf
        exact ⟨ν', a1.trans (g1.trans f1), f2, f3, (a4.tr g5).tr (f4.mono (fun a b z => wE.i z))⟩
    | false =>
      refine ⟨(true, addS S k1 k2 k3 k4 c, q5), fun ν hR hD h5 => ?_, fun ν hF hE => ?_, hS.ad hn7 k1' k2' k3' k4'' k4' hc49 hf, by show S.1 ≤ S.1 + 1; omega, rfl, fun _ => ⟨by show p < q5; omega, q5b⟩, by show q5 ≤ 400; omega⟩
      · obtain ⟨ν5, m1, m2, m3, m4, m5, m6⟩ := h8 ν hR hD h5
        have e : nEq (fun q => 8 ≤ q ∧ q < 15) ν5 (nWI (nWI (nWI (nWI (nWI (nWI (nWI ν5 9 S.1 (nI k1)) 10 S.1 (nI k2)) 11 S.1 (nI k3)) 12 S.1 (nI k4)) 13 S.1 (nI c)) 14 S.1 0) 8 6 (nI (S.1 + 1))) := ((((((nEq.rf.wi (by omega)).wi (by omega)).wi (by omega)).wi (by omega)).wi (by omega)).wi (by omega)).wi (by omega)
        refine ⟨nWI (nWI (nWI (nWI (nWI (nWI (nWI ν5 9 S.1 (nI k1)) 10 S.1 (nI k2)) 11 S.1 (nI k3)) 12 S.1 (nI k4)) 13 S.1 (nI c)) 14 S.1 0) 8 6 (nI (S.1 + 1)), ?_, m6.tr (e.mono (fun a z => Or.inl z)), ?_⟩
        · rw [m1, op8' m2 hc49, hf, Option.bind_some, if_neg (show ¬ (i01 (!false), ν5).1 = 0 from by show ¬ i01 (!false) = 0; decide)]
          show (if ν5.1 33 4 = -1 then (f_X4_addPerson 8 (nI k1) (nI k2) (nI k3) (nI k4) (nI c) ν5).bind _ else some ν5) = _
          rw [if_pos m4, ap8 m2 hn7, Option.bind_some]
        · show _ ∧ _
          exact ⟨((e 33 (by omega)).1 4).trans m4, m2.ad hn7, m3.eq e (by omega) (by omega)⟩
      · obtain ⟨ν1, a1, a2, a3, a4⟩ := r0 ν hE hF
        obtain ⟨ν2, g1, g2, g3, g4, g5⟩ := r5 ν1 a2 a3
        obtain ⟨ν', f1, f2, f3, f4⟩ := pe6_t (y := nI q4) g2 g3 hn7 hc49 g4.1 g4.2.1 g4.2.2.1 g4.2.2.2.1 g4.2.2.2.2 hf
        exact ⟨ν', a1.trans (g1.trans f1), f2, f3, (a4.tr g5).tr f4⟩
  · rw [if_neg ha] at hw
    refine IT_nw hS hl hp hw (fun ν hF hE => ?_)
    obtain ⟨ν1, a1, a2, a3⟩ := wd9 (w := 2) (by decide) hs hl (show p < 800 by omega) hE
    have a3' : mEq wE ν ν1 := a3
    rw [decide_eq_false (show ¬ ak l v p 2 = wl 2 from ha)] at a1
    rw [hx]
    refine ⟨ν1, ?_, hF.w a3', a2, a3'.mono (fun a b z => wE.i z)⟩
    rw [pe_it hE hs hl (by omega) hc, wo9_0 a1, wo9_1 a1, Option.bind_some, Option.bind_some, if_pos (show ((0 : Int32), ν1).1 = 0 from rfl)]
    split <;> rfl
theorem item_E {l s p : Nat} {v : Nat → Int32} {S : pS} (hS : okP S) (hs : s < 8) (hl : l ≤ 160) (hp : p ≤ l) : ∃ o, IT l v s S p o := by
  by_cases h0 : sg l v p = 102
  · exact itm_fence hS hs hl hp h0
  by_cases h1 : sg l v p = 111
  · exact itm_open hS hs hl hp h1
  by_cases h2 : sg l v p = 112
  · exact itm_person hS hs hl hp h2
  by_cases h3 : sg l v p = 115
  · by_cases h4 : sg l v (p + 1) = 99
    · exact itm_scent hS hs hl hp h3 h4
    · exact itm_seats hS hs hl hp h3 h4
  · obtain ⟨hw, hx⟩ := wd_x h0 h1 h2 h3
    refine IT_nw hS hl hp hw (fun ν hF hE => ⟨ν, ?_, hF, by rw [hx]; exact hE, mEq.rf⟩)
    rw [f_X9_item, sg9 hE hs hl (by omega), Option.bind_some, if_neg (show ¬ (sg l v p, ν).1 = 102 from h0), if_neg (show ¬ (sg l v p, ν).1 = 111 from h1), if_neg (show ¬ (sg l v p, ν).1 = 112 from h2), if_neg (show ¬ (sg l v p, ν).1 = 115 from h3)]
