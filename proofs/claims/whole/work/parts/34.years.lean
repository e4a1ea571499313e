/-! the call years: draws, yards, votes -/
def rndI (x : Int32) : Int32 := x * 1103515245 + 12345
def drN (x : Int32) (c : Nat) : Nat := ((rndI x).toUInt32.toNat / 65536) % c
theorem us_16 (x : Int32) : j_ushr x 16 = nI (x.toUInt32.toNat / 65536) := by
  unfold j_ushr
  rw [show ((16 : Int32).toUInt32 &&& Int32.toUInt32 31) = 16 from by decide]
  apply Int32.toBitVec_inj.mp
  apply BitVec.eq_of_toNat_eq
  show (x.toUInt32 >>> 16).toNat = (BitVec.ofNat 32 (x.toUInt32.toNat / 65536)).toNat
  rw [UInt32.toNat_shiftRight, BitVec.toNat_ofNat, show (16 : UInt32).toNat % 32 = 16 from by decide, Nat.shiftRight_eq_div_pow]
  have := x.toUInt32.toNat_lt
  rw [Nat.mod_eq_of_lt (by omega)]
theorem nI_sub {a b : Nat} (h : b ≤ a) : nI a - nI b = nI (a - b) := by
  obtain ⟨c, rfl⟩ : ∃ c, a = b + c := ⟨a - b, by omega⟩
  rw [← nI_add, Nat.add_sub_cancel_left, Int32.add_comm, Int32.add_sub_cancel]
theorem nI_div {u c : Nat} (hu : u < 2 ^ 31) (hc : c < 2 ^ 31) : nI u / nI c = nI (u / c) := by
  apply Int32.toInt_inj.mp
  rw [Int32.toInt_div, nI_toInt hu, nI_toInt hc, nI_toInt (Nat.lt_of_le_of_lt (Nat.div_le_self u c) hu)]
  rw [show ((u : Int).tdiv (c : Int)) = ((u / c : Nat) : Int) from rfl]
  have := Nat.div_le_self u c
  exact Int.bmod_eq_of_le (by omega) (by omega)
theorem rem_n {u c : Nat} (hu : u < 2 ^ 31) (hc : c < 2 ^ 31) : j_rem (nI u) (nI c) = nI (u % c) := by
  unfold j_rem
  rw [nI_div hu hc, nI_mul, nI_sub (Nat.div_mul_le_self u c)]
  have e := Nat.div_add_mod u c
  rw [Nat.mul_comm] at e
  congr 1
  omega
theorem rem_d (x : Int32) {c : Nat} (hc : c < 2 ^ 31) : j_rem (j_ushr (rndI x) 16) (nI c) = nI (drN x c) := by
  have := (rndI x).toUInt32.toNat_lt
  rw [us_16, rem_n (by omega) hc]
  rfl
theorem drN_lt (x : Int32) {c : Nat} (hc : 0 < c) : drN x c < c := Nat.mod_lt _ hc
theorem dr8 {Z : zS} {ν : gN} {c : Nat} (h : IC Z ν) (h0 : 0 < c) (hc : c < 2 ^ 31) : f_X4_drawBelow 1 (nI c) ν = some (nI (drN Z.1.2.2.2.2 c), nWI ν 1 12 (rndI Z.1.2.2.2.2)) := by
  rw [f_X4_drawBelow, ql, if_neg (nI_nle h0 hc), if_pos (nI_ne0 h0 hc), wi_eq, show ν.1 1 12 = Z.1.2.2.2.2 from h.1.2.2.2.2]
  rw [show Z.1.2.2.2.2 * 1103515245 + 12345 = rndI Z.1.2.2.2.2 from rfl, rem_d _ hc]
theorem dr9 {Z : zS} {ν : gN} {c : Nat} (h : IM Z ν) (h0 : 0 < c) (hc : c < 2 ^ 31) : f_X9_draw (nI c) ν = some (nI (drN Z.1.2.2.2.2 c), nWI ν 53 9 (rndI Z.1.2.2.2.2)) := by
  rw [f_X9_draw, ql, if_pos (nI_ne0 h0 hc), wi_eq, show ν.1 53 9 = Z.1.2.2.2.2 from h.1.2.2.2.2]
  rw [show Z.1.2.2.2.2 * 1103515245 + 12345 = rndI Z.1.2.2.2.2 from rfl, rem_d _ hc]
theorem okZ.d {Z : zS} (h : okZ Z) (x : Int32) : okZ (zP (pD x) Z) := h
theorem okZ.a2 {Z : zS} (h : okZ Z) (i a : Nat) (ha : a ≤ 20) : okZ (zP (pA 2 i (nI a)) Z) := by
  refine ⟨⟨h.1.1, fun q hq => ?_, h.1.2.2⟩, h.2⟩
  obtain ⟨v0, v1, v2, v3, v4⟩ := h.1.2.1 q hq
  refine ⟨v0, v1, ?_, v3, v4⟩
  show ∃ k', k' ≤ 20 ∧ (if 2 = 2 ∧ q = i then nI a else Z.1.2.1 2 q) = nI k'
  by_cases e : q = i
  · rw [if_pos ⟨rfl, e⟩]; exact ⟨a, ha, rfl⟩
  · rw [if_neg (fun z => e z.2)]; exact v2
theorem CH.eq {F : Nat → Bool} {ν ν' : gN} {P : Nat → Prop} (h : CH F ν) (he : nEq P ν ν') (hp : ∀ a, 25 ≤ a → a ≤ 27 → ¬ P a) : CH F ν' := ⟨h.1.eq he (hp 25 (by decide) (by decide)), h.2.1.eq he (hp 26 (by decide) (by decide)), h.2.2.eq he (hp 27 (by decide) (by decide))⟩
/-- one year -/
theorem yr_1 {Z : zS} (hZ : okZ Z) (hn : 0 < Z.1.1) : ∃ Z', okZ Z' ∧ Z'.1.1 = Z.1.1 ∧ Z'.1.2.2.1 = Z.1.2.2.1 ∧ (∀ (y1 y2 : Int32) (k : gN → Option (Int32 × gN)) n ν, IC Z ν → CH Z.1.2.2.1 ν → ¬ y1 ≤ y2 → ∃ ν', f_X8_years_L49 y1 k (n + 1) y2 ν = f_X8_years_L49 y1 k n (y2 + 1) ν' ∧ IC Z' ν' ∧ CH Z'.1.2.2.1 ν' ∧ nEq (fun q => q < 53) ν ν') ∧ (∀ (y1 y2 : Int32) (k : gN → Option (Int32 × gN)) n ν, IM Z ν → ¬ y1 ≤ y2 → ∃ ν', f_X9_years_L33 y1 k (n + 1) y2 ν = f_X9_years_L33 y1 k n (y2 + 1) ν' ∧ IM Z' ν' ∧ nEq (fun q => 53 ≤ q) ν ν') := by
  have hc := hZ.1.1
  have hi := drN_lt Z.1.2.2.2.2 hn
  have hi7 : drN Z.1.2.2.2.2 Z.1.1 < 7 := by omega
  have ha := drN_lt (rndI Z.1.2.2.2.2) (c := 21) (by decide)
  have hd := drN_lt (rndI (rndI Z.1.2.2.2.2)) (c := 5) (by decide)
  have g1 := hZ.d (rndI Z.1.2.2.2.2)
  have g2 := g1.d (rndI (rndI Z.1.2.2.2.2))
  have g3 := g2.a2 (drN Z.1.2.2.2.2 Z.1.1) (drN (rndI Z.1.2.2.2.2) 21) (by omega)
  have g4 := g3.d (rndI (rndI (rndI Z.1.2.2.2.2)))
  have g5 := g4.adv (drN (rndI (rndI Z.1.2.2.2.2)) 5 + 1)
  obtain ⟨s, hs4, hs⟩ := hZ.w0
  refine ⟨_, g5.vt (pck (advS (zP (pD (rndI (rndI (rndI Z.1.2.2.2.2)))) (zP (pA 2 (drN Z.1.2.2.2.2 Z.1.1) (nI (drN (rndI Z.1.2.2.2.2) 21))) (zP (pD (rndI (rndI Z.1.2.2.2.2))) (zP (pD (rndI Z.1.2.2.2.2)) Z)))).1 (drN (rndI (rndI Z.1.2.2.2.2)) 5 + 1)) (fun i => posN (advS (zP (pD (rndI (rndI (rndI Z.1.2.2.2.2)))) (zP (pA 2 (drN Z.1.2.2.2.2 Z.1.1) (nI (drN (rndI Z.1.2.2.2.2) 21))) (zP (pD (rndI (rndI Z.1.2.2.2.2))) (zP (pD (rndI Z.1.2.2.2.2)) Z)))).1 (drN (rndI (rndI Z.1.2.2.2.2)) 5 + 1)) i 0) (fun q => (0 : Nat).testBit q) s), rfl, rfl, fun y1 y2 k n ν h hC hy => ?_, fun y1 y2 k n ν h hy => ?_⟩
  · have k1 := h.d (x := rndI Z.1.2.2.2.2)
    have k2 := k1.d (x := rndI (rndI Z.1.2.2.2.2))
    have k3 := k2.a (j := 2) (i := drN Z.1.2.2.2.2 Z.1.1) (x := nI (drN (rndI Z.1.2.2.2.2) 21)) (by decide) hi7
    have k4 := k3.d (x := rndI (rndI (rndI Z.1.2.2.2.2)))
    have hn4 : nEq (fun q => q = 1 ∨ q = 4) ν (nWI (nWI (nWI (nWI ν 1 12 (rndI Z.1.2.2.2.2)) 1 12 (rndI (rndI Z.1.2.2.2.2))) (2 + 2) (drN Z.1.2.2.2.2 Z.1.1) (nI (drN (rndI Z.1.2.2.2.2) 21))) 1 12 (rndI (rndI (rndI Z.1.2.2.2.2)))) := (((nEq.rf.wi (Or.inl rfl)).wi (Or.inl rfl)).wi (Or.inr rfl)).wi (Or.inl rfl)
    obtain ⟨ν5, p1, p2, p3, p4⟩ := py8 (m := drN (rndI (rndI Z.1.2.2.2.2)) 5 + 1) k4 g4 (by omega) (hC.eq hn4 (by omega))
    obtain ⟨ν6, q1, q2, q3, q4⟩ := hv8 p2 g5 p3 hs hs4
    refine ⟨ν6, ?_, q2, q3, ((hn4.mono (Q := fun q => q < 53) (fun a z => by omega)).tr (p4.mono (fun a z => by omega))).tr (q4.mono (fun a z => by omega))⟩
    rw [f_X8_years_L49, if_neg hy, h.1.1, dr8 h hn (by omega), Option.bind_some]
    rw [show (21 : Int32) = nI 21 from rfl, dr8 k1 (by decide) (by decide), Option.bind_some, if_pos (ib_in hi7 (by decide)), ql, nI_clamp (by omega)]
    rw [show (5 : Int32) = nI 5 from rfl]
    rw [show f_X4_drawBelow 1 (nI 5) (nWI (nWI (nWI ν 1 12 (rndI Z.1.2.2.2.2)) 1 12 (rndI (zP (pD (rndI Z.1.2.2.2.2)) Z).1.2.2.2.2)) 4 (drN Z.1.2.2.2.2 Z.1.1) (nI (drN (zP (pD (rndI Z.1.2.2.2.2)) Z).1.2.2.2.2 21))) = _ from dr8 k3 (c := 5) (by decide) (by decide), Option.bind_some]
    rw [nI_1]
    rw [show f_X8_passYards (nI (drN (zP (pA 2 (drN Z.1.2.2.2.2 Z.1.1) (nI (drN (rndI Z.1.2.2.2.2) 21))) (zP (pD (rndI (rndI Z.1.2.2.2.2))) (zP (pD (rndI Z.1.2.2.2.2)) Z))).1.2.2.2.2 5 + 1)) _ = _ from p1, Option.bind_some, q1, Option.bind_some]
  · have k1 := h.d (x := rndI Z.1.2.2.2.2)
    have k2 := k1.d (x := rndI (rndI Z.1.2.2.2.2))
    have k3 := k2.a (j := 2) (i := drN Z.1.2.2.2.2 Z.1.1) (x := nI (drN (rndI Z.1.2.2.2.2) 21)) (by decide) hi7
    have k4 := k3.d (x := rndI (rndI (rndI Z.1.2.2.2.2)))
    have hn4 : nEq (fun q => 53 ≤ q) ν (nWI (nWI (nWI (nWI ν 53 9 (rndI Z.1.2.2.2.2)) 53 9 (rndI (rndI Z.1.2.2.2.2))) (54 + 2) (drN Z.1.2.2.2.2 Z.1.1) (nI (drN (rndI Z.1.2.2.2.2) 21))) 53 9 (rndI (rndI (rndI Z.1.2.2.2.2)))) := (((nEq.rf.wi (by decide)).wi (by decide)).wi (by decide)).wi (by decide)
    obtain ⟨ν5, p1, p2, p3⟩ := k4.on (m := drN (rndI (rndI Z.1.2.2.2.2)) 5 + 1) g4 (by omega)
    obtain ⟨ν6, q1, q2, q3⟩ := hv9 p2 g5 hs hs4
    refine ⟨ν6, ?_, q2, (hn4.tr p3).tr q3⟩
    rw [f_X9_years_L33, if_neg hy, h.1.1, dr9 h hn (by omega), Option.bind_some]
    rw [show (21 : Int32) = nI 21 from rfl, dr9 k1 (by decide) (by decide), Option.bind_some, if_pos (ib_in hi7 (by decide)), ql, nI_clamp (by omega)]
    rw [show (5 : Int32) = nI 5 from rfl]
    rw [show f_X9_draw (nI 5) (nWI (nWI (nWI ν 53 9 (rndI Z.1.2.2.2.2)) 53 9 (rndI (zP (pD (rndI Z.1.2.2.2.2)) Z).1.2.2.2.2)) 56 (drN Z.1.2.2.2.2 Z.1.1) (nI (drN (zP (pD (rndI Z.1.2.2.2.2)) Z).1.2.2.2.2 21))) = _ from dr9 k3 (c := 5) (by decide) (by decide), Option.bind_some]
    rw [nI_1]
    rw [show f_X9_goesOn (nI (drN (zP (pA 2 (drN Z.1.2.2.2.2 Z.1.1) (nI (drN (rndI Z.1.2.2.2.2) 21))) (zP (pD (rndI (rndI Z.1.2.2.2.2))) (zP (pD (rndI Z.1.2.2.2.2)) Z))).1.2.2.2.2 5 + 1)) _ = _ from p1, Option.bind_some, q1, Option.bind_some]
theorem yr_L {m : Nat} {k8 k9 : gN → Option (Int32 × gN)} (hm : m < 50000) : ∀ j n y Z, y + j = m → j < n → okZ Z → 0 < Z.1.1 → ∃ Z', okZ Z' ∧ (∀ ν, IC Z ν → CH Z.1.2.2.1 ν → ∃ ν', f_X8_years_L49 (nI m) k8 n (nI y) ν = k8 ν' ∧ IC Z' ν' ∧ nEq (fun q => q < 53) ν ν') ∧ (∀ ν, IM Z ν → ∃ ν', f_X9_years_L33 (nI m) k9 n (nI y) ν = k9 ν' ∧ IM Z' ν' ∧ nEq (fun q => 53 ≤ q) ν ν') := by
  intro j
  induction j with
  | zero =>
    intro n y Z hy hn hZ hp
    obtain ⟨n, rfl⟩ : ∃ m, n = m + 1 := ⟨n - 1, by omega⟩
    exact ⟨Z, hZ, fun ν h _ => ⟨ν, by rw [f_X8_years_L49, if_pos (nI_le (by omega) (by omega))], h, nEq.rf⟩, fun ν h => ⟨ν, by rw [f_X9_years_L33, if_pos (nI_le (by omega) (by omega))], h, nEq.rf⟩⟩
  | succ j ih =>
    intro n y Z hy hn hZ hp
    obtain ⟨n, rfl⟩ : ∃ m, n = m + 1 := ⟨n - 1, by omega⟩
    obtain ⟨Z1, z1, z2, z3, z4, z5⟩ := yr_1 hZ hp
    obtain ⟨Z', w1, w2, w3⟩ := ih n (y + 1) Z1 (by omega) (by omega) z1 (by omega)
    refine ⟨Z', w1, fun ν h hC => ?_, fun ν h => ?_⟩
    · obtain ⟨ν1, a1, a2, a3, a4⟩ := z4 (nI m) (nI y) k8 n ν h hC (nI_ge (by omega) (by omega))
      obtain ⟨ν', c1, c2, c3⟩ := w2 ν1 a2 a3
      exact ⟨ν', by rw [a1, nI_1]; exact c1, c2, a4.tr c3⟩
    · obtain ⟨ν1, a1, a2, a4⟩ := z5 (nI m) (nI y) k9 n ν h (nI_ge (by omega) (by omega))
      obtain ⟨ν', c1, c2, c3⟩ := w3 ν1 a2
      exact ⟨ν', by rw [a1, nI_1]; exact c1, c2, a4.tr c3⟩
theorem op_years (x : Int32) {Z : zS} (hZ : okZ Z) : both (f_X8_years x) (f_X9_years x) Z := by
  have hc := hZ.1.1
  by_cases h0 : Z.1.1 = 0
  · refine both_no (a := -5) 5 (by decide) hZ (fun ν h => ?_) (fun ν h => ?_)
    · simp only [f_X8_years, h.1.1, h0, show (nI 0 = 0) = True from eq_true rfl, ↓reduceIte, rf_5, Option.bind_some]
    · simp only [f_X9_years, h.1.1, h0, show (nI 0 = 0) = True from eq_true rfl, ↓reduceIte, no_5, Option.bind_some]
  have hn0 : (nI Z.1.1 = 0) = False := eq_false (nI_ne0 (by omega) (by omega))
  cases hb : bt x 1 40 with
  | false =>
    refine both_no (a := -6) 6 (by decide) hZ (fun ν h => ?_) (fun ν h => ?_)
    · simp only [f_X8_years, h.1.1, hn0, bw8, hb, i01_f, Option.bind_some, ↓reduceIte, rf_6]
    · simp only [f_X9_years, h.1.1, hn0, bw9, hb, i01_f, Option.bind_some, ↓reduceIte, no_6]
  | true =>
    obtain ⟨m, _, hm, rfl⟩ := bt_of (a := 1) (b := 40) (by decide) (by decide) hb
    obtain ⟨Z', z1, z2, z3⟩ := yr_L (m := m) (k8 := fun ν_18 => some (ν_18.1 1 11, ν_18)) (k9 := fun ν_16 => if inb 3 4 = true then some (ν_16.1 61 (3 : Int32).toNatClampNeg, ν_16) else none) (by omega) m FU 0 Z (by omega) (by unfold FU; omega) hZ (by omega)
    refine ⟨Z'.1.2.2.2.1 3, Z', z1, fun ν h => ?_, fun ν h => ?_⟩
    · obtain ⟨ν1, a1, a2, a3⟩ := ch8 (F := Z.1.2.2.1) ν h.1.2.2.1
      have h1 : IC Z ν1 := h.sc a3 (fun a z => by unfold scC; omega)
      obtain ⟨ν', e1, e2, e3⟩ := z2 ν1 h1 a2
      refine ⟨ν', ?_, e2, (a3.c (fun a z => by omega)).tr e3⟩
      simp only [f_X8_years, h.1.1, hn0, bw8, hb, i01_1, b1, Option.bind_some, ↓reduceIte, a1]
      refine Eq.trans e1 ?_
      rw [show ν'.1 1 11 = Z'.1.2.2.2.1 3 from e2.1.2.2.2.1 3 (by decide)]
    · obtain ⟨ν', e1, e2, e3⟩ := z3 ν h
      refine ⟨ν', ?_, e2, e3⟩
      simp only [f_X9_years, h.1.1, hn0, bw9, hb, i01_1, b1, Option.bind_some, ↓reduceIte]
      refine Eq.trans e1 ?_
      have i4 : inb 3 4 = true := rfl
      rw [if_pos i4, show (3 : Int32).toNatClampNeg = 3 from rfl, show ν'.1 61 3 = Z'.1.2.2.2.1 3 from e2.1.2.2.2.1 3 (by decide)]
