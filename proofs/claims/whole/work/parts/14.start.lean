/-! THE START: what the Statement gives of it is the world's outside (g_env); both constructors; then the loop -/
def st_tm (i : Nat) : Term := match i with
  | 0 => .string RX5 109
  | 1 => .string RX5 111
  | 2 => .string RX5 113
  | 3 => .string RX5 115
  | 4 => .string RX5 116
  | 5 => .string RX9 183
  | _ => .string RX9 185
abbrev st_L : List Cond := flatC (Jvm.Cond.and given_1 narrow_1)
theorem st_ex : ∀ i, i < 7 → Cond.exactly (st_tm i) "java/lang/String" ∈ st_L := by decide +kernel
theorem st_co : ∀ i, i < 7 → Cond.eq (.field (st_tm i) "java/lang/String" "coder" "B") (.int 0) ∈ st_L := by decide +kernel
theorem st_ar : ∀ i, i < 7 → Cond.arrayOf (.field (st_tm i) "java/lang/String" "value" "[B") .byte ∈ st_L := by decide +kernel
theorem st_le : ∀ i, i < 7 → Cond.eq (.length (.field (st_tm i) "java/lang/String" "value" "[B")) (.int (Int32.ofNat (g_len.getD i 0))) ∈ st_L := by decide +kernel
theorem st_el : ∀ i, i < 7 → ∀ j, j < g_len.getD i 0 → Cond.eq (.elem (.field (st_tm i) "java/lang/String" "value" "[B") (.int (Int32.ofNat j))) (.int ((g_byt.getD i []).getD j 0)) ∈ st_L := by decide +kernel
theorem st_ne : ∀ i, i < 7 → ∀ j, j < 7 → i ≠ j → (Cond.not (Cond.eq (st_tm i) (st_tm j)) ∈ st_L ∨ Cond.not (Cond.eq (st_tm j) (st_tm i)) ∈ st_L) := by decide +kernel
theorem st_ln : ∀ i, i < 7 → g_len.getD i 0 < 2 ^ 31 := by decide +kernel
theorem st_e1 : Cond.eq (.string RX5 109) (.string RX9 167) ∈ st_L := by decide +kernel
theorem st_e2 : Cond.eq (.string RX5 111) (.string RX9 176) ∈ st_L := by decide +kernel
theorem st_e3 : Cond.eq (.string RX5 113) (.string RX9 178) ∈ st_L := by decide +kernel
theorem st_cs : Cond.eq (.static RJ0 "COMPACT_STRINGS" "Z") (.int 1) ∈ st_L := by decide +kernel
theorem st_sf : Cond.isRef (.static RJ3 "SIOOBE_FORMATTER" "Ljava/util/function/BiFunction;") ∈ st_L := by decide +kernel
theorem st_sA : Cond.arrayOf (.static RX3 "ABOVE" "[I") .int ∈ st_L ∧ Cond.eq (.length (.static RX3 "ABOVE" "[I")) (.int (Int32.ofNat 7)) ∈ st_L ∧ ∀ j, j < 7 → Cond.eq (.elem (.static RX3 "ABOVE" "[I") (.int (Int32.ofNat j))) (.int (g_tA j)) ∈ st_L := by decide +kernel
theorem st_sO : Cond.arrayOf (.static RX0 "ORDERS" "[I") .int ∈ st_L ∧ Cond.eq (.length (.static RX0 "ORDERS" "[I")) (.int (Int32.ofNat 7)) ∈ st_L ∧ ∀ j, j < 7 → Cond.eq (.elem (.static RX0 "ORDERS" "[I") (.int (Int32.ofNat j))) (.int (g_tO j)) ∈ st_L := by decide +kernel
theorem st_sB : Cond.arrayOf (.static RX1 "BODIES" "[I") .int ∈ st_L ∧ Cond.eq (.length (.static RX1 "BODIES" "[I")) (.int (Int32.ofNat 21)) ∈ st_L ∧ ∀ j, j < 21 → Cond.eq (.elem (.static RX1 "BODIES" "[I") (.int (Int32.ofNat j))) (.int (g_tB j)) ∈ st_L := by decide +kernel
set_option maxHeartbeats 4000000 in
set_option maxRecDepth 20000 in
theorem st_env {s : State} {b L : Nat} {xs : Nat → Int32} (hts : ∀ w ∈ lw_tbl, w.before #[Value.ref b] s = true) (hX : va_X b L xs s s.heap) (hbl : b < s.heap.size) (hgv : (Jvm.Cond.and given_1 narrow_1).before #[Value.ref b] s = true) : ∃ X : gX, X.1 = s.heap.size ∧ X.2.2.2.2.2 = (b, L, xs) ∧ g_env X s s.heap := by
  have hv := flat_of_before _ hgv
  have hA : ∀ a : Nat, a < s.heap.size → ¬ s.heap.size ≤ a := fun a h => Nat.not_le.mpr h
  obtain ⟨c0, i0, hKn0⟩ := u_known (C := RX1) (T := TX1) (N := 5) (n := 5) hts inX1 (hts _ tw_241)
  obtain ⟨c1, i1, hKn1⟩ := u_known (C := RX2) (T := TX2) (N := 2) (n := 2) hts inX2 (hts _ tw_199)
  obtain ⟨c2, i2, hKn2⟩ := u_known (C := RX4) (T := TX4) (N := 13) (n := 13) hts inX4 (hts _ tw_100)
  obtain ⟨c3, i3, hKn3⟩ := u_known (C := RX5) (T := TX5) (N := 6) (n := 6) hts inX5 (hts _ tw_215)
  obtain ⟨c4, i4, hKn4⟩ := u_known (C := RX6) (T := TX6) (N := 3) (n := 3) hts inX6 (hts _ tw_263)
  obtain ⟨c5, i5, hKn5⟩ := u_known (C := RX7) (T := TX7) (N := 5) (n := 5) hts inX7 (hts _ tw_174)
  obtain ⟨c6, i6, hKn6⟩ := u_known (C := RX8) (T := TX8) (N := 11) (n := 11) hts inX8 (hts _ tw_92)
  obtain ⟨c7, i7, hKn7⟩ := u_known (C := RX9) (T := TX9) (N := 29) (n := 29) hts inX9 (hts _ tw_910)
  have hk : ∀ k : Nat, ∃ d : ClassId × (Nat → Nat), ∀ q : vw_C, vwCl[k]? = some q → u_Kn s q.1 q.2.1 q.2.2 d.1 d.2 := by
    intro k
    match k with
    | 0 => exact ⟨(c0, i0), fun q hq => by cases hq; exact hKn0⟩
    | 1 => exact ⟨(c1, i1), fun q hq => by cases hq; exact hKn1⟩
    | 2 => exact ⟨(c2, i2), fun q hq => by cases hq; exact hKn2⟩
    | 3 => exact ⟨(c3, i3), fun q hq => by cases hq; exact hKn3⟩
    | 4 => exact ⟨(c4, i4), fun q hq => by cases hq; exact hKn4⟩
    | 5 => exact ⟨(c5, i5), fun q hq => by cases hq; exact hKn5⟩
    | 6 => exact ⟨(c6, i6), fun q hq => by cases hq; exact hKn6⟩
    | 7 => exact ⟨(c7, i7), fun q hq => by cases hq; exact hKn7⟩
    | k + 8 => exact ⟨(c0, i0), fun q hq => by simp [vwCl] at hq⟩
  obtain ⟨dd, hdd⟩ := Classical.axiomOfChoice hk
  obtain ⟨a0, ka0, ca0, ha0, hb0, hc0⟩ := Cond.arrayClass_spec (type := .int) (hts _ tw_170)
  obtain ⟨a1, ka1, ca1, ha1, hb1, hc1⟩ := Cond.arrayClass_spec (type := .long) (hts _ tw_213)
  obtain ⟨a2, ka2, ca2, ha2, hb2, hc2⟩ := Cond.arrayClass_spec (type := .boolean) (hts _ tw_1003)
  obtain ⟨ca3, a3, ka3, ha3, hz3, hb3, hc3, hd3⟩ := Cond.arrayOver_spec (n := RX6) (hts _ tw_172)
  obtain ⟨tA, htA, hTA⟩ := va_Tof (tm := .static RX3 "ABOVE" "[I") (f := fun j => .int (g_tA j)) (N := 7) (A := fun q => s.heap.size ≤ q) (by decide) (hv _ st_sA.1) (va_eqt (hv _ st_sA.2.1)) (fun j hj => va_eqt (hv _ (st_sA.2.2 j hj))) hA
  have hZA := va_Zof (A := fun q => s.heap.size ≤ q) (hts _ tw_417) (hts _ tw_82) htA hA
  obtain ⟨tO, htO, hTO⟩ := va_Tof (tm := .static RX0 "ORDERS" "[I") (f := fun j => .int (g_tO j)) (N := 7) (A := fun q => s.heap.size ≤ q) (by decide) (hv _ st_sO.1) (va_eqt (hv _ st_sO.2.1)) (fun j hj => va_eqt (hv _ (st_sO.2.2 j hj))) hA
  have hZO := va_Zof (A := fun q => s.heap.size ≤ q) (hts _ tw_804) (hts _ tw_89) htO hA
  obtain ⟨tB, htB, hTB⟩ := va_Tof (tm := .static RX1 "BODIES" "[I") (f := fun j => .int (g_tB j)) (N := 21) (A := fun q => s.heap.size ≤ q) (by decide) (hv _ st_sB.1) (va_eqt (hv _ st_sB.2.1)) (fun j hj => va_eqt (hv _ (st_sB.2.2 j hj))) hA
  have hZB := va_Zof (A := fun q => s.heap.size ≤ q) (hts _ tw_879) (hts _ tw_77) htB hA
  have hZC := va_Zof (A := fun q => s.heap.size ≤ q) (hts _ tw_551) (hts _ tw_83) (va_eqi (hv _ st_cs)) hA
  have hZF := va_Zqof (A := fun q => s.heap.size ≤ q) (hts _ tw_567) (hts _ tw_85) (hv _ st_sf) hA
  obtain ⟨fmt, hZF⟩ : ∃ fmt : Option Nat, va_Z RJ3 "SIOOBE_FORMATTER" "Ljava/util/function/BiFunction;" (va_rf fmt) (fun q => s.heap.size ≤ q) s s.heap := by
    rcases hZF with h | ⟨t, h⟩
    · exact ⟨none, h⟩
    · exact ⟨some t, h⟩
  obtain ⟨adK, adV, hS, hSt⟩ := vk_Sof (N := 7) (tm := st_tm) (len := g_len) (byt := g_byt) (A := fun q => s.heap.size ≤ q) st_ln (fun i hi => hv _ (st_ex i hi)) (fun i hi => hv _ (st_co i hi)) (fun i hi => hv _ (st_ar i hi)) (fun i hi => hv _ (st_le i hi)) (fun i hi j hj => hv _ (st_el i hi j hj)) (fun i j hi hj hij => (st_ne i hi j hj hij).elim (fun h => Or.inl (hv _ h)) (fun h => Or.inr (hv _ h))) hA
  obtain ⟨ids, d0, d1, d2, d3⟩ : ∃ ids : Nat → ClassId, a0 = ids 0 ∧ a1 = ids 1 ∧ a2 = ids 2 ∧ a3 = ids 3 := ⟨fun k => if k = 0 then a0 else if k = 1 then a1 else if k = 2 then a2 else a3, rfl, rfl, rfl, rfl⟩
  subst d0; subst d1; subst d2; subst d3
  obtain ⟨ext, e0, e1, e2, eK⟩ : ∃ ext : Nat → Nat, tA = ext 0 ∧ tO = ext 1 ∧ tB = ext 2 ∧ ∀ i, i < 7 → ext (10 + i) = adK i ∧ ext (20 + i) = adV i := by
    refine ⟨fun k => if k = 0 then tA else if k = 1 then tO else if k = 2 then tB else if k < 20 then adK (k - 10) else adV (k - 20), rfl, rfl, rfl, fun i hi => ⟨?_, ?_⟩⟩
    · show (if 10 + i = 0 then tA else if 10 + i = 1 then tO else if 10 + i = 2 then tB else if 10 + i < 20 then adK (10 + i - 10) else adV (10 + i - 20)) = _
      rw [if_neg (by omega), if_neg (by omega), if_neg (by omega), if_pos (by omega), show 10 + i - 10 = i by omega]
    · show (if 20 + i = 0 then tA else if 20 + i = 1 then tO else if 20 + i = 2 then tB else if 20 + i < 20 then adK (20 + i - 10) else adV (20 + i - 20)) = _
      rw [if_neg (by omega), if_neg (by omega), if_neg (by omega), if_neg (by omega), show 20 + i - 20 = i by omega]
  subst e0; subst e1; subst e2
  have hS2 : vk_S 7 g_len g_byt (fun i => ext (10 + i)) (fun i => ext (20 + i)) (fun q => s.heap.size ≤ q) s s.heap := by
    refine ⟨fun i hi => ?_, fun i j hi hj e => hS.2 i j hi hj ?_⟩
    · have h := hS.1 i hi
      simp only [(eK i hi).1, (eK i hi).2]
      exact h
    · rw [← (eK i hi).1, ← (eK j hj).1]
      exact e
  have hSt2 : ∀ i, i < 7 → (st_tm i).eval #[Value.ref b] s none [] s = some (.ref (ext (10 + i))) := fun i hi => by rw [(eK i hi).1]; exact hSt i hi
  have hK : va_K (fun k => (dd k).1, fun k => (dd k).2) vwCl [(ids 0, .int), (ids 1, .long), (ids 2, .boolean), (ids 3, .object "SeatsToTheReluctant$Shelf")] s := by
    refine ⟨fun k q hq => hdd k q hq, fun k q hq => ?_⟩
    match k, hq with
    | 0, hq => cases hq; exact ⟨fun n z => ⟨(fun k h => by cases h), ka0, hb0, ca0, hc0⟩, ha0⟩
    | 1, hq => cases hq; exact ⟨fun n z => ⟨(fun k h => by cases h), ka1, hb1, ca1, hc1⟩, ha1⟩
    | 2, hq => cases hq; exact ⟨fun n z => ⟨(fun k h => by cases h), ka2, hb2, ca2, hc2⟩, ha2⟩
    | 3, hq => cases hq; exact ⟨fun n z => ⟨(fun k h => by cases h), ka3, hb3, ca3, hc3⟩, ka3, ca3, hb3, hc3, ha3, hd3⟩
    | k + 4, hq => simp at hq
  refine ⟨(s.heap.size, (fun k => (dd k).1, fun k => (dd k).2), ids, ext, fmt, (b, L, xs)), rfl, rfl, Nat.le_refl _, hK, ⟨⟨hZA, hTA⟩, ⟨hZO, hTO⟩, ⟨hZB, hTB⟩, hZC, hZF, hS2⟩, ?_, ⟨fun w hw hn => ?_, va_AO.of (hts _ tw_172)⟩, hX, hbl⟩
  · exact ⟨vk_R.of (hts _ tw_533) (hSt2 0 (by decide)), vk_R.of (hts _ tw_534) (hSt2 1 (by decide)), vk_R.of (hts _ tw_535) (hSt2 2 (by decide)), vk_R.of (hts _ tw_536) (hSt2 3 (by decide)), vk_R.of (hts _ tw_537) (hSt2 4 (by decide)), vk_R.of (hts _ tw_1132) (va_eqR (hv _ st_e1) (hSt2 0 (by decide))), vk_R.of (hts _ tw_1151) (va_eqR (hv _ st_e2) (hSt2 1 (by decide))), vk_R.of (hts _ tw_1152) (va_eqR (hv _ st_e3) (hSt2 2 (by decide))), vk_R.of (hts _ tw_1157) (hSt2 5 (by decide)), vk_R.of (hts _ tw_1158) (hSt2 6 (by decide))⟩
  · cases w <;> first | exact va_Nw.of rfl (hts _ hw) | (simp [g_nest] at hn)
theorem st_ref : ∀ i, i < 73 → ∀ k, k < 29 → ME.2.2 i k = RHO i k := by decide +kernel
theorem st_refB (k : Nat) (hk : 29 ≤ k) : ∀ i, i < 73 → ME.2.2 i k = RHO i k := by
  sorry
theorem st_ref22 (i : Nat) (hi : i < 73) (k : Nat) : ME.2.2 i k = RHO i k := by
  rcases Nat.lt_or_ge k 29 with h | h
  · exact st_ref i hi k h
  · exact st_refB k h i hi
theorem st_wl {X : gX} {ad : Nat → Nat} : g_wl X ad (SH.take 73) ME = g_wl X ad SH (gF (ME.1, ME.2.1)) := by
  have hSH : SH.take 73 = SH := rfl
  rw [hSH]
  unfold g_wl
  refine List.map_congr_left (fun i hi => ?_)
  have hi2 : i < 73 := List.mem_range.mp hi
  have hr := st_ref i hi2
  have hc : ∀ i, i < 73 → ((SH.getD i (0, 0)).1 = 3 → (SH.getD i (0, 0)).2 ≤ 29) ∧ (4 ≤ (SH.getD i (0, 0)).1 → (SH.getD i (0, 0)).2 ≤ 29) := by decide +kernel
  have hc2 := hc i hi2
  refine congrArg (fun z => (ad i, z)) ?_
  generalize SH.getD i (0, 0) = cc at hc2
  obtain ⟨c1, c2⟩ := cc
  match c1, hc2 with
  | 0, _ => rfl
  | 1, _ => rfl
  | 2, _ => rfl
  | 3, h =>
    show Sum.inl (X.2.2.1 3, c2, _) = Sum.inl (X.2.2.1 3, c2, _)
    refine congrArg (fun z => (Sum.inl (X.2.2.1 3, c2, Sum.inr (Sum.inr (Sum.inr (Sum.inr z)))) : va_E)) ?_
    funext b
    show (ME.2.2 i b).map ad = (RHO i b).map ad
    rw [st_ref22 i hi2 b]
  | ci + 4, h =>
    show Sum.inr (ci, _) = Sum.inr (ci, _)
    congr 2
    refine List.map_congr_left (fun q hq => ?_)
    have hq2 : q < 29 := Nat.lt_of_lt_of_le (List.mem_range.mp hq) (h.2 (by show 4 ≤ ci + 4; omega))
    cases g_ty ci q <;> simp only [g_fv, gF, hr q hq2]
