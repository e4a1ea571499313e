/-! the call years: draws, yards, votes -/
def rndI (x : Int32) : Int32 := x * 1103515245 + 12345
def drN (x : Int32) (c : Nat) : Nat := ((rndI x).toUInt32.toNat / 65536) % c
theorem us_16 (x : Int32) : j_ushr x 16 = nI (x.toUInt32.toNat / 65536) := by
  unfold j_ushr
  rw [show ((16 : Int32).toUInt32 &&& Int32.toUInt32 31) = 16 from by decide]
  apply Int32.toBitVec_inj.mp
  apply BitVec.eq_of_toNat_eq
  show (x.toUInt32 >>> 16).toNat = (BitVec.ofNat 32 (x.toUInt32.toNat / 65536)).toNat
  rw [UInt32.toNat_shiftRight, BitVec.toNat_ofNat, show (16 : UInt32).toNat % 32 = 16 from by decide, Nat.shiftRight_eq_div_pow]
  have := x.toUInt32.toNat_lt
  rw [Nat.mod_eq_of_lt (by omega)]
theorem nI_sub {a b : Nat} (h : b ≤ a) : nI a - nI b = nI (a - b) := by
  obtain ⟨c, rfl⟩ : ∃ c, a = b + c := ⟨a - b, by omega⟩
  rw [← nI_add, Nat.add_sub_cancel_left, Int32.add_comm, Int32.add_sub_cancel]
theorem nI_div {u c : Nat} (hu : u < 2 ^ 31) (hc : c < 2 ^ 31) : nI u / nI c = nI (u / c) := by
  apply Int32.toInt_inj.mp
  rw [Int32.toInt_div, nI_toInt hu, nI_toInt hc, nI_toInt (Nat.lt_of_le_of_lt (Nat.div_le_self u c) hu)]
  rw [show ((u : Int).tdiv (c : Int)) = ((u / c : Nat) : Int) from rfl]
  have hw := Nat.div_le_self u c
  generalize u / c = w at hw ⊢
  exact Int.bmod_eq_of_le (by omega) (by omega)
theorem rem_n {u c : Nat} (hu : u < 2 ^ 31) (hc : c < 2 ^ 31) : j_rem (nI u) (nI c) = nI (u % c) := by
  unfold j_rem
  rw [nI_div hu hc, nI_mul, nI_sub (Nat.div_mul_le_self u c)]
  have e := Nat.div_add_mod u c
  rw [Nat.mul_comm] at e
  congr 1
  omega
theorem rem_d (x : Int32) {c : Nat} (hc : c < 2 ^ 31) : j_rem (j_ushr (rndI x) 16) (nI c) = nI (drN x c) := by
  have := (rndI x).toUInt32.toNat_lt
  rw [us_16, rem_n (by omega) hc]
  rfl
theorem drN_lt (x : Int32) {c : Nat} (hc : 0 < c) : drN x c < c := Nat.mod_lt _ hc
theorem dr8 {Z : zS} {ν : gN} {c : Nat} (h : IC Z ν) (h0 : 0 < c) (hc : c < 2 ^ 31) : f_X4_drawBelow 1 (nI c) ν = some (nI (drN Z.1.2.2.2.2 c), nWI ν 1 12 (rndI Z.1.2.2.2.2)) := by
  rw [f_X4_drawBelow, ql, if_neg (nI_nle h0 hc), if_pos (nI_ne0 h0 hc), wi_eq, show ν.1 1 12 = Z.1.2.2.2.2 from h.1.2.2.2.2]
  rw [show Z.1.2.2.2.2 * 1103515245 + 12345 = rndI Z.1.2.2.2.2 from rfl, rem_d _ hc]
theorem dr9 {Z : zS} {ν : gN} {c : Nat} (h : IM Z ν) (h0 : 0 < c) (hc : c < 2 ^ 31) : f_X9_draw (nI c) ν = some (nI (drN Z.1.2.2.2.2 c), nWI ν 53 9 (rndI Z.1.2.2.2.2)) := by
  rw [f_X9_draw, ql, if_pos (nI_ne0 h0 hc), wi_eq, show ν.1 53 9 = Z.1.2.2.2.2 from h.1.2.2.2.2]
  rw [show Z.1.2.2.2.2 * 1103515245 + 12345 = rndI Z.1.2.2.2.2 from rfl, rem_d _ hc]
theorem okZ.d {Z : zS} (h : okZ Z) (x : Int32) : okZ (zP (pD x) Z) := h
theorem okZ.a2 {Z : zS} (h : okZ Z) (i a : Nat) (ha : a ≤ 20) : okZ (zP (pA 2 i (nI a)) Z) := by
  refine ⟨⟨h.1.1, fun q hq => ?_, h.1.2.2⟩, h.2⟩
  obtain ⟨v0, v1, v2, v3, v4⟩ := h.1.2.1 q hq
  refine ⟨v0, v1, ?_, v3, v4⟩
  show ∃ k', k' ≤ 20 ∧ (if 2 = 2 ∧ q = i then nI a else Z.1.2.1 2 q) = nI k'
  by_cases e : q = i
  · rw [if_pos ⟨rfl, e⟩]; exact ⟨a, ha, rfl⟩
  · rw [if_neg (fun z => e z.2)]; exact v2
theorem CH.eq {F : Nat → Bool} {ν ν' : gN} {P : Nat → Prop} (h : CH F ν) (he : nEq P ν ν') (hp : ∀ a, 25 ≤ a → a ≤ 27 → ¬ P a) : CH F ν' := ⟨h.1.eq he (hp 25 (by decide) (by decide)), h.2.1.eq he (hp 26 (by decide) (by decide)), h.2.2.eq he (hp 27 (by decide) (by decide))⟩
theorem dr8' {Z : zS} {ν : gN} {c i : Nat} {x y : Int32} (h : IC Z ν) (hy : Z.1.2.2.2.2 = y) (h0 : 0 < c) (hc : c < 2 ^ 31) (hx : x = rndI y) (hi : i = drN y c) : f_X4_drawBelow 1 (nI c) ν = some (nI i, nWI ν 1 12 x) := by rw [hi, hx, ← hy]; exact dr8 h h0 hc
theorem dr9' {Z : zS} {ν : gN} {c i : Nat} {x y : Int32} (h : IM Z ν) (hy : Z.1.2.2.2.2 = y) (h0 : 0 < c) (hc : c < 2 ^ 31) (hx : x = rndI y) (hi : i = drN y c) : f_X9_draw (nI c) ν = some (nI i, nWI ν 53 9 x) := by rw [hi, hx, ← hy]; exact dr9 h h0 hc
theorem zPd_s (x : Int32) (Z : zS) : (zP (pD x) Z).1.2.2.2.2 = x := rfl
theorem zPd_n (x : Int32) (Z : zS) : (zP (pD x) Z).1.1 = Z.1.1 := rfl
theorem zPd_f (x : Int32) (Z : zS) : (zP (pD x) Z).1.2.2.1 = Z.1.2.2.1 := rfl
theorem zPd_w (x : Int32) (Z : zS) : (zP (pD x) Z).1.2.2.2.1 = Z.1.2.2.2.1 := rfl
theorem zPa_s (j i : Nat) (x : Int32) (Z : zS) : (zP (pA j i x) Z).1.2.2.2.2 = Z.1.2.2.2.2 := rfl
theorem zPa_n (j i : Nat) (x : Int32) (Z : zS) : (zP (pA j i x) Z).1.1 = Z.1.1 := rfl
theorem zPa_f (j i : Nat) (x : Int32) (Z : zS) : (zP (pA j i x) Z).1.2.2.1 = Z.1.2.2.1 := rfl
theorem zPa_w (j i : Nat) (x : Int32) (Z : zS) : (zP (pA j i x) Z).1.2.2.2.1 = Z.1.2.2.2.1 := rfl
/-- one year -/
theorem yr_1 {Z : zS} (hZ : okZ Z) (hn : 0 < Z.1.1) : ∃ Z', okZ Z' ∧ Z'.1.1 = Z.1.1 ∧ Z'.1.2.2.1 = Z.1.2.2.1 ∧ (∀ (y1 y2 : Int32) (k : gN → Option (Int32 × gN)) n ν, IC Z ν → CH Z.1.2.2.1 ν → ¬ y1 ≤ y2 → ∃ ν', f_X8_years_L49 y1 k (n + 1) y2 ν = f_X8_years_L49 y1 k n (y2 + 1) ν' ∧ IC Z' ν' ∧ CH Z'.1.2.2.1 ν' ∧ nEq (fun q => q < 53) ν ν') ∧ (∀ (y1 y2 : Int32) (k : gN → Option (Int32 × gN)) n ν, IM Z ν → ¬ y1 ≤ y2 → ∃ ν', f_X9_years_L33 y1 k (n + 1) y2 ν = f_X9_years_L33 y1 k n (y2 + 1) ν' ∧ IM Z' ν' ∧ nEq (fun q => 53 ≤ q) ν ν') := by
  have hc := hZ.1.1
  obtain ⟨x1, hx1⟩ : ∃ x, x = rndI Z.1.2.2.2.2 := ⟨_, rfl⟩
  obtain ⟨x2, hx2⟩ : ∃ x, x = rndI x1 := ⟨_, rfl⟩
  obtain ⟨x3, hx3⟩ : ∃ x, x = rndI x2 := ⟨_, rfl⟩
  obtain ⟨i, hi⟩ : ∃ i, i = drN Z.1.2.2.2.2 Z.1.1 := ⟨_, rfl⟩
  obtain ⟨a, ha⟩ : ∃ i, i = drN x1 21 := ⟨_, rfl⟩
  obtain ⟨d, hd⟩ : ∃ i, i = drN x2 5 := ⟨_, rfl⟩
  have hil := drN_lt Z.1.2.2.2.2 hn
  rw [← hi] at hil
  have hi7 : i < 7 := by omega
  have hal := drN_lt x1 (c := 21) (by decide)
  rw [← ha] at hal
  have hdl := drN_lt x2 (c := 5) (by decide)
  rw [← hd] at hdl
  obtain ⟨s, hs4, hs⟩ := hZ.w0
  have g4 : okZ (zP (pD x3) (zP (pA 2 i (nI a)) (zP (pD x2) (zP (pD x1) Z)))) := (((hZ.d x1).d x2).a2 i a (by omega)).d x3
  have k8 : ∀ ν, IC Z ν → IC (zP (pD x3) (zP (pA 2 i (nI a)) (zP (pD x2) (zP (pD x1) Z)))) (nWI (nWI (nWI (nWI ν 1 12 x1) 1 12 x2) (2 + 2) i (nI a)) 1 12 x3) := fun ν h => ((h.d.d).a (j := 2) (by decide) hi7).d
  have k9 : ∀ ν, IM Z ν → IM (zP (pD x3) (zP (pA 2 i (nI a)) (zP (pD x2) (zP (pD x1) Z)))) (nWI (nWI (nWI (nWI ν 53 9 x1) 53 9 x2) (54 + 2) i (nI a)) 53 9 x3) := fun ν h => ((h.d.d).a (j := 2) (by decide) hi7).d
  have n4 : (zP (pD x3) (zP (pA 2 i (nI a)) (zP (pD x2) (zP (pD x1) Z)))).1.1 = Z.1.1 := by rw [zPd_n, zPa_n, zPd_n, zPd_n]
  have f4 : (zP (pD x3) (zP (pA 2 i (nI a)) (zP (pD x2) (zP (pD x1) Z)))).1.2.2.1 = Z.1.2.2.1 := by rw [zPd_f, zPa_f, zPd_f, zPd_f]
  have w4 : (zP (pD x3) (zP (pA 2 i (nI a)) (zP (pD x2) (zP (pD x1) Z)))).1.2.2.2.1 0 = nI s := by rw [zPd_w, zPa_w, zPd_w, zPd_w]; exact hs
  generalize zP (pD x3) (zP (pA 2 i (nI a)) (zP (pD x2) (zP (pD x1) Z))) = Z4 at g4 k8 k9 n4 f4 w4
  have hd' : d + 1 < 50000 := by omega
  have D8 : ∀ ν, IC Z ν → ∀ (y1 y2 : Int32) (k : gN → Option (Int32 × gN)) n, ¬ y1 ≤ y2 → f_X8_years_L49 y1 k (n + 1) y2 ν = (f_X8_passYards (nI (d + 1)) (nWI (nWI (nWI (nWI ν 1 12 x1) 1 12 x2) (2 + 2) i (nI a)) 1 12 x3)).bind (fun r_14 => (f_X8_holdVote r_14).bind (fun r_16 => f_X8_years_L49 y1 k n (y2 + 1) r_16.2)) := fun ν h y1 y2 k n hy => by
    have t1 := dr8' h rfl hn (show Z.1.1 < 2 ^ 31 by omega) hx1 hi
    have t2 := dr8' (h.d (x := x1)) (zPd_s _ _) (c := 21) (by decide) (by decide) hx2 ha
    have t3 := dr8' ((h.d.d).a (j := 2) (i := i) (x := nI a) (by decide) hi7) ((zPa_s _ _ _ _).trans (zPd_s x2 (zP (pD x1) Z))) (c := 5) (by decide) (by decide) hx3 hd
    rw [f_X8_years_L49, if_neg hy, h.1.1, t1, Option.bind_some, show (21 : Int32) = nI 21 from rfl, t2, Option.bind_some, if_pos (ib_in hi7 (by decide)), ql, nI_clamp (by omega), show (5 : Int32) = nI 5 from rfl, show (4 : Nat) = 2 + 2 from rfl, t3, Option.bind_some, nI_1]
  have D9 : ∀ ν, IM Z ν → ∀ (y1 y2 : Int32) (k : gN → Option (Int32 × gN)) n, ¬ y1 ≤ y2 → f_X9_years_L33 y1 k (n + 1) y2 ν = (f_X9_goesOn (nI (d + 1)) (nWI (nWI (nWI (nWI ν 53 9 x1) 53 9 x2) (54 + 2) i (nI a)) 53 9 x3)).bind (fun r_12 => (f_X9_votes r_12).bind (fun r_14 => f_X9_years_L33 y1 k n (y2 + 1) r_14.2)) := fun ν h y1 y2 k n hy => by
    have t1 := dr9' h rfl hn (show Z.1.1 < 2 ^ 31 by omega) hx1 hi
    have t2 := dr9' (h.d (x := x1)) (zPd_s _ _) (c := 21) (by decide) (by decide) hx2 ha
    have t3 := dr9' ((h.d.d).a (j := 2) (i := i) (x := nI a) (by decide) hi7) ((zPa_s _ _ _ _).trans (zPd_s x2 (zP (pD x1) Z))) (c := 5) (by decide) (by decide) hx3 hd
    rw [f_X9_years_L33, if_neg hy, h.1.1, t1, Option.bind_some, show (21 : Int32) = nI 21 from rfl, t2, Option.bind_some, if_pos (ib_in hi7 (by decide)), ql, nI_clamp (by omega), show (5 : Int32) = nI 5 from rfl, show (56 : Nat) = 54 + 2 from rfl, t3, Option.bind_some, nI_1]
  have g5 := g4.adv (d + 1)
  have w5 : ((advS Z4.1 (d + 1), Z4.2) : zS).1.2.2.2.1 0 = nI s := w4
  refine ⟨_, g5.vt (pck (advS Z4.1 (d + 1)) (fun i => posN (advS Z4.1 (d + 1)) i 0) (fun q => (0 : Nat).testBit q) s), n4, f4, fun y1 y2 k n ν h hC hy => ?_, fun y1 y2 k n ν h hy => ?_⟩
  · have hn4 : nEq (fun q => q = 1 ∨ q = 4) ν (nWI (nWI (nWI (nWI ν 1 12 x1) 1 12 x2) (2 + 2) i (nI a)) 1 12 x3) := (((nEq.rf.wi (Or.inl rfl)).wi (Or.inl rfl)).wi (Or.inr rfl)).wi (Or.inl rfl)
    obtain ⟨ν5, p1, p2, p3, p4⟩ := py8 (m := d + 1) (k8 ν h) g4 hd' (by rw [f4]; exact hC.eq hn4 (by omega))
    obtain ⟨ν6, q1, q2, q3, q4⟩ := hv8 p2 g5 p3 w5 hs4
    refine ⟨ν6, ?_, q2, q3, ((hn4.mono (Q := fun q => q < 53) (fun a z => by omega)).tr (p4.mono (fun a z => by omega))).tr (q4.mono (fun a z => by omega))⟩
    rw [D8 ν h y1 y2 k n hy, p1, Option.bind_some, q1, Option.bind_some]
  · have hn4 : nEq (fun q => 53 ≤ q) ν (nWI (nWI (nWI (nWI ν 53 9 x1) 53 9 x2) (54 + 2) i (nI a)) 53 9 x3) := (((nEq.rf.wi (by decide)).wi (by decide)).wi (by decide)).wi (by decide)
    obtain ⟨ν5, p1, p2, p3⟩ := (k9 ν h).on (m := d + 1) g4 hd'
    obtain ⟨ν6, q1, q2, q3⟩ := hv9 p2 g5 w5 hs4
    refine ⟨ν6, ?_, q2, (hn4.tr p3).tr q3⟩
    rw [D9 ν h y1 y2 k n hy, p1, Option.bind_some, q1, Option.bind_some]
theorem yr_L {m : Nat} {k8 k9 : gN → Option (Int32 × gN)} (hm : m < 50000) : ∀ j n y Z, y + j = m → j < n → okZ Z → 0 < Z.1.1 → ∃ Z', okZ Z' ∧ (∀ ν, IC Z ν → CH Z.1.2.2.1 ν → ∃ ν', f_X8_years_L49 (nI m) k8 n (nI y) ν = k8 ν' ∧ IC Z' ν' ∧ nEq (fun q => q < 53) ν ν') ∧ (∀ ν, IM Z ν → ∃ ν', f_X9_years_L33 (nI m) k9 n (nI y) ν = k9 ν' ∧ IM Z' ν' ∧ nEq (fun q => 53 ≤ q) ν ν') := by
  intro j
  induction j with
  | zero =>
    intro n y Z hy hn hZ hp
    obtain ⟨n, rfl⟩ : ∃ m, n = m + 1 := ⟨n - 1, by omega⟩
    exact ⟨Z, hZ, fun ν h _ => ⟨ν, by rw [f_X8_years_L49, if_pos (nI_le (by omega) (by omega))], h, nEq.rf⟩, fun ν h => ⟨ν, by rw [f_X9_years_L33, if_pos (nI_le (by omega) (by omega))], h, nEq.rf⟩⟩
  | succ j ih =>
    intro n y Z hy hn hZ hp
    obtain ⟨n, rfl⟩ : ∃ m, n = m + 1 := ⟨n - 1, by omega⟩
    obtain ⟨Z1, z1, z2, z3, z4, z5⟩ := yr_1 hZ hp
    obtain ⟨Z', w1, w2, w3⟩ := ih n (y + 1) Z1 (by omega) (by omega) z1 (by omega)
    refine ⟨Z', w1, fun ν h hC => ?_, fun ν h => ?_⟩
    · obtain ⟨ν1, a1, a2, a3, a4⟩ := z4 (nI m) (nI y) k8 n ν h hC (nI_ge (by omega) (by omega))
      obtain ⟨ν', c1, c2, c3⟩ := w2 ν1 a2 a3
      exact ⟨ν', by rw [a1, nI_1]; exact c1, c2, a4.tr c3⟩
    · obtain ⟨ν1, a1, a2, a4⟩ := z5 (nI m) (nI y) k9 n ν h (nI_ge (by omega) (by omega))
      obtain ⟨ν', c1, c2, c3⟩ := w3 ν1 a2
      exact ⟨ν', by rw [a1, nI_1]; exact c1, c2, a4.tr c3⟩
theorem op_years (x : Int32) {Z : zS} (hZ : okZ Z) : both (f_X8_years x) (f_X9_years x) Z := by
  have hc := hZ.1.1
  by_cases h0 : Z.1.1 = 0
  · refine both_no (a := -5) 5 (by decide) hZ (fun ν h => ?_) (fun ν h => ?_)
    · simp only [f_X8_years, h.1.1, h0, show (nI 0 = 0) = True from eq_true rfl, ↓reduceIte, rf_5, Option.bind_some]
    · simp only [f_X9_years, h.1.1, h0, show (nI 0 = 0) = True from eq_true rfl, ↓reduceIte, no_5, Option.bind_some]
  have hn0 : (nI Z.1.1 = 0) = False := eq_false (nI_ne0 (by omega) (by omega))
  cases hb : bt x 1 40 with
  | false =>
    refine both_no (a := -6) 6 (by decide) hZ (fun ν h => ?_) (fun ν h => ?_)
    · simp only [f_X8_years, h.1.1, hn0, bw8, hb, i01_f, Option.bind_some, ↓reduceIte, rf_6]
    · simp only [f_X9_years, h.1.1, hn0, bw9, hb, i01_f, Option.bind_some, ↓reduceIte, no_6]
  | true =>
    obtain ⟨m, _, hm, rfl⟩ := bt_of (a := 1) (b := 40) (by decide) (by decide) hb
    obtain ⟨Z', z1, z2, z3⟩ := yr_L (m := m) (k8 := fun ν_18 => some (ν_18.1 1 11, ν_18)) (k9 := fun ν_16 => if inb 3 4 = true then some (ν_16.1 61 (3 : Int32).toNatClampNeg, ν_16) else none) (by omega) m FU 0 Z (by omega) (by unfold FU; omega) hZ (by omega)
    refine ⟨Z'.1.2.2.2.1 3, Z', z1, fun ν h => ?_, fun ν h => ?_⟩
    · obtain ⟨ν1, a1, a2, a3⟩ := ch8 (F := Z.1.2.2.1) ν h.1.2.2.1
      have h1 : IC Z ν1 := h.sc a3 (fun a z => by unfold scC; omega)
      obtain ⟨ν', e1, e2, e3⟩ := z2 ν1 h1 a2
      refine ⟨ν', ?_, e2, (a3.c (fun a z => by omega)).tr e3⟩
      simp only [f_X8_years, h.1.1, hn0, bw8, hb, i01_1, b1, Option.bind_some, ↓reduceIte, a1]
      refine Eq.trans e1 ?_
      rw [show ν'.1 1 11 = Z'.1.2.2.2.1 3 from e2.1.2.2.2.1 3 (by decide)]
    · obtain ⟨ν', e1, e2, e3⟩ := z3 ν h
      refine ⟨ν', ?_, e2, e3⟩
      simp only [f_X9_years, h.1.1, hn0, bw9, hb, i01_1, b1, Option.bind_some, ↓reduceIte]
      refine Eq.trans e1 ?_
      have i4 : inb 3 4 = true := rfl
      rw [if_pos i4, show (3 : Int32).toNatClampNeg = 3 from rfl, show ν'.1 61 3 = Z'.1.2.2.2.1 3 from e2.1.2.2.2.1 3 (by decide)]
