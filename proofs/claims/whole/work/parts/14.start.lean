/-! THE START: what the Statement gives of it is the world's outside (g_env); both constructors; then the loop -/
def st_tm (i : Nat) : Term := match i with
  | 0 => .string RX5 106
  | 1 => .string RX5 108
  | 2 => .string RX5 110
  | 3 => .string RX5 112
  | 4 => .string RX5 113
  | 5 => .string RX9 183
  | _ => .string RX9 185
abbrev st_L : List Cond := flatC (Jvm.Cond.and given_1 narrow_1)
theorem st_ex : ∀ i, i < 7 → Cond.exactly (st_tm i) "java/lang/String" ∈ st_L := by decide +kernel
theorem st_co : ∀ i, i < 7 → Cond.eq (.field (st_tm i) "java/lang/String" "coder" "B") (.int 0) ∈ st_L := by decide +kernel
theorem st_ar : ∀ i, i < 7 → Cond.arrayOf (.field (st_tm i) "java/lang/String" "value" "[B") .byte ∈ st_L := by decide +kernel
theorem st_le : ∀ i, i < 7 → Cond.eq (.length (.field (st_tm i) "java/lang/String" "value" "[B")) (.int (Int32.ofNat (g_len.getD i 0))) ∈ st_L := by decide +kernel
theorem st_el : ∀ i, i < 7 → ∀ j, j < g_len.getD i 0 → Cond.eq (.elem (.field (st_tm i) "java/lang/String" "value" "[B") (.int (Int32.ofNat j))) (.int ((g_byt.getD i []).getD j 0)) ∈ st_L := by decide +kernel
theorem st_ne : ∀ i, i < 7 → ∀ j, j < 7 → i ≠ j → (Cond.not (Cond.eq (st_tm i) (st_tm j)) ∈ st_L ∨ Cond.not (Cond.eq (st_tm j) (st_tm i)) ∈ st_L) := by decide +kernel
theorem st_ln : ∀ i, i < 7 → g_len.getD i 0 < 2 ^ 31 := by decide +kernel
theorem st_e1 : Cond.eq (.string RX5 106) (.string RX9 167) ∈ st_L := by decide +kernel
theorem st_e2 : Cond.eq (.string RX5 108) (.string RX9 176) ∈ st_L := by decide +kernel
theorem st_e3 : Cond.eq (.string RX5 110) (.string RX9 178) ∈ st_L := by decide +kernel
theorem st_cs : Cond.eq (.static RJ0 "COMPACT_STRINGS" "Z") (.int 1) ∈ st_L := by decide +kernel
theorem st_sf : Cond.isRef (.static RJ3 "SIOOBE_FORMATTER" "Ljava/util/function/BiFunction;") ∈ st_L := by decide +kernel
theorem st_sA : Cond.arrayOf (.static RX3 "ABOVE" "[I") .int ∈ st_L ∧ Cond.eq (.length (.static RX3 "ABOVE" "[I")) (.int (Int32.ofNat 7)) ∈ st_L ∧ ∀ j, j < 7 → Cond.eq (.elem (.static RX3 "ABOVE" "[I") (.int (Int32.ofNat j))) (.int (g_tA j)) ∈ st_L := by decide +kernel
theorem st_sO : Cond.arrayOf (.static RX0 "ORDERS" "[I") .int ∈ st_L ∧ Cond.eq (.length (.static RX0 "ORDERS" "[I")) (.int (Int32.ofNat 7)) ∈ st_L ∧ ∀ j, j < 7 → Cond.eq (.elem (.static RX0 "ORDERS" "[I") (.int (Int32.ofNat j))) (.int (g_tO j)) ∈ st_L := by decide +kernel
theorem st_sB : Cond.arrayOf (.static RX1 "BODIES" "[I") .int ∈ st_L ∧ Cond.eq (.length (.static RX1 "BODIES" "[I")) (.int (Int32.ofNat 21)) ∈ st_L ∧ ∀ j, j < 21 → Cond.eq (.elem (.static RX1 "BODIES" "[I") (.int (Int32.ofNat j))) (.int (g_tB j)) ∈ st_L := by decide +kernel
set_option maxHeartbeats 4000000 in
set_option maxRecDepth 20000 in
theorem st_env {s : State} {b L : Nat} {xs : Nat → Int32} (hts : ∀ w ∈ lw_tbl, w.before #[Value.ref b] s = true) (hX : va_X b L xs s s.heap) (hbl : b < s.heap.size) (hgv : (Jvm.Cond.and given_1 narrow_1).before #[Value.ref b] s = true) : ∃ X : gX, X.1 = s.heap.size ∧ X.2.2.2.2.2 = (b, L, xs) ∧ g_env X s s.heap := by
  have hv := flat_of_before _ hgv
  have hA : ∀ a : Nat, a < s.heap.size → ¬ s.heap.size ≤ a := fun a h => Nat.not_le.mpr h
  obtain ⟨c0, i0, hKn0⟩ := u_known (C := RX1) (T := TX1) (N := 5) (n := 5) hts inX1 (hts _ tw_238)
  obtain ⟨c1, i1, hKn1⟩ := u_known (C := RX2) (T := TX2) (N := 2) (n := 2) hts inX2 (hts _ tw_199)
  obtain ⟨c2, i2, hKn2⟩ := u_known (C := RX4) (T := TX4) (N := 13) (n := 13) hts inX4 (hts _ tw_100)
  obtain ⟨c3, i3, hKn3⟩ := u_known (C := RX5) (T := TX5) (N := 5) (n := 5) hts inX5 (hts _ tw_215)
  obtain ⟨c4, i4, hKn4⟩ := u_known (C := RX6) (T := TX6) (N := 3) (n := 3) hts inX6 (hts _ tw_260)
  obtain ⟨c5, i5, hKn5⟩ := u_known (C := RX7) (T := TX7) (N := 5) (n := 5) hts inX7 (hts _ tw_174)
  obtain ⟨c6, i6, hKn6⟩ := u_known (C := RX8) (T := TX8) (N := 11) (n := 11) hts inX8 (hts _ tw_92)
  obtain ⟨c7, i7, hKn7⟩ := u_known (C := RX9) (T := TX9) (N := 29) (n := 29) hts inX9 (hts _ tw_907)
  have hk : ∀ k : Nat, ∃ d : ClassId × (Nat → Nat), ∀ q : vw_C, vwCl[k]? = some q → u_Kn s q.1 q.2.1 q.2.2 d.1 d.2 := by
    intro k
    match k with
    | 0 => exact ⟨(c0, i0), fun q hq => by cases hq; exact hKn0⟩
    | 1 => exact ⟨(c1, i1), fun q hq => by cases hq; exact hKn1⟩
    | 2 => exact ⟨(c2, i2), fun q hq => by cases hq; exact hKn2⟩
    | 3 => exact ⟨(c3, i3), fun q hq => by cases hq; exact hKn3⟩
    | 4 => exact ⟨(c4, i4), fun q hq => by cases hq; exact hKn4⟩
    | 5 => exact ⟨(c5, i5), fun q hq => by cases hq; exact hKn5⟩
    | 6 => exact ⟨(c6, i6), fun q hq => by cases hq; exact hKn6⟩
    | 7 => exact ⟨(c7, i7), fun q hq => by cases hq; exact hKn7⟩
    | k + 8 => exact ⟨(c0, i0), fun q hq => by simp [vwCl] at hq⟩
  obtain ⟨dd, hdd⟩ := Classical.axiomOfChoice hk
  obtain ⟨a0, ka0, ca0, ha0, hb0, hc0⟩ := Cond.arrayClass_spec (type := .int) (hts _ tw_170)
  obtain ⟨a1, ka1, ca1, ha1, hb1, hc1⟩ := Cond.arrayClass_spec (type := .long) (hts _ tw_213)
  obtain ⟨a2, ka2, ca2, ha2, hb2, hc2⟩ := Cond.arrayClass_spec (type := .boolean) (hts _ tw_1000)
  obtain ⟨ca3, a3, ka3, ha3, hz3, hb3, hc3, hd3⟩ := Cond.arrayOver_spec (n := RX6) (hts _ tw_172)
  obtain ⟨tA, htA, hTA⟩ := va_Tof (tm := .static RX3 "ABOVE" "[I") (f := fun j => .int (g_tA j)) (N := 7) (A := fun q => s.heap.size ≤ q) (by decide) (hv _ st_sA.1) (va_eqt (hv _ st_sA.2.1)) (fun j hj => va_eqt (hv _ (st_sA.2.2 j hj))) hA
  have hZA := va_Zof (A := fun q => s.heap.size ≤ q) (hts _ tw_414) (hts _ tw_82) htA hA
  obtain ⟨tO, htO, hTO⟩ := va_Tof (tm := .static RX0 "ORDERS" "[I") (f := fun j => .int (g_tO j)) (N := 7) (A := fun q => s.heap.size ≤ q) (by decide) (hv _ st_sO.1) (va_eqt (hv _ st_sO.2.1)) (fun j hj => va_eqt (hv _ (st_sO.2.2 j hj))) hA
  have hZO := va_Zof (A := fun q => s.heap.size ≤ q) (hts _ tw_801) (hts _ tw_89) htO hA
  obtain ⟨tB, htB, hTB⟩ := va_Tof (tm := .static RX1 "BODIES" "[I") (f := fun j => .int (g_tB j)) (N := 21) (A := fun q => s.heap.size ≤ q) (by decide) (hv _ st_sB.1) (va_eqt (hv _ st_sB.2.1)) (fun j hj => va_eqt (hv _ (st_sB.2.2 j hj))) hA
  have hZB := va_Zof (A := fun q => s.heap.size ≤ q) (hts _ tw_876) (hts _ tw_77) htB hA
  have hZC := va_Zof (A := fun q => s.heap.size ≤ q) (hts _ tw_548) (hts _ tw_83) (va_eqi (hv _ st_cs)) hA
  have hZF := va_Zqof (A := fun q => s.heap.size ≤ q) (hts _ tw_564) (hts _ tw_85) (hv _ st_sf) hA
  obtain ⟨fmt, hZF⟩ : ∃ fmt : Option Nat, va_Z RJ3 "SIOOBE_FORMATTER" "Ljava/util/function/BiFunction;" (va_rf fmt) (fun q => s.heap.size ≤ q) s s.heap := by
    rcases hZF with h | ⟨t, h⟩
    · exact ⟨none, h⟩
    · exact ⟨some t, h⟩
  obtain ⟨adK, adV, hS, hSt⟩ := vk_Sof (N := 7) (tm := st_tm) (len := g_len) (byt := g_byt) (A := fun q => s.heap.size ≤ q) st_ln (fun i hi => hv _ (st_ex i hi)) (fun i hi => hv _ (st_co i hi)) (fun i hi => hv _ (st_ar i hi)) (fun i hi => hv _ (st_le i hi)) (fun i hi j hj => hv _ (st_el i hi j hj)) (fun i j hi hj hij => (st_ne i hi j hj hij).elim (fun h => Or.inl (hv _ h)) (fun h => Or.inr (hv _ h))) hA
  obtain ⟨ids, d0, d1, d2, d3⟩ : ∃ ids : Nat → ClassId, a0 = ids 0 ∧ a1 = ids 1 ∧ a2 = ids 2 ∧ a3 = ids 3 := ⟨fun k => if k = 0 then a0 else if k = 1 then a1 else if k = 2 then a2 else a3, rfl, rfl, rfl, rfl⟩
  subst d0; subst d1; subst d2; subst d3
  obtain ⟨ext, e0, e1, e2, eK⟩ : ∃ ext : Nat → Nat, tA = ext 0 ∧ tO = ext 1 ∧ tB = ext 2 ∧ ∀ i, i < 7 → ext (10 + i) = adK i ∧ ext (20 + i) = adV i := by
    refine ⟨fun k => if k = 0 then tA else if k = 1 then tO else if k = 2 then tB else if k < 20 then adK (k - 10) else adV (k - 20), rfl, rfl, rfl, fun i hi => ⟨?_, ?_⟩⟩
    · show (if 10 + i = 0 then tA else if 10 + i = 1 then tO else if 10 + i = 2 then tB else if 10 + i < 20 then adK (10 + i - 10) else adV (10 + i - 20)) = _
      rw [if_neg (by omega), if_neg (by omega), if_neg (by omega), if_pos (by omega), show 10 + i - 10 = i by omega]
    · show (if 20 + i = 0 then tA else if 20 + i = 1 then tO else if 20 + i = 2 then tB else if 20 + i < 20 then adK (20 + i - 10) else adV (20 + i - 20)) = _
      rw [if_neg (by omega), if_neg (by omega), if_neg (by omega), if_neg (by omega), show 20 + i - 20 = i by omega]
  subst e0; subst e1; subst e2
  have hS2 : vk_S 7 g_len g_byt (fun i => ext (10 + i)) (fun i => ext (20 + i)) (fun q => s.heap.size ≤ q) s s.heap := by
    refine ⟨fun i hi => ?_, fun i j hi hj e => hS.2 i j hi hj ?_⟩
    · have h := hS.1 i hi
      simp only [(eK i hi).1, (eK i hi).2]
      exact h
    · rw [← (eK i hi).1, ← (eK j hj).1]
      exact e
  have hSt2 : ∀ i, i < 7 → (st_tm i).eval #[Value.ref b] s none [] s = some (.ref (ext (10 + i))) := fun i hi => by rw [(eK i hi).1]; exact hSt i hi
  have hK : va_K (fun k => (dd k).1, fun k => (dd k).2) vwCl [(ids 0, .int), (ids 1, .long), (ids 2, .boolean), (ids 3, .object "SeatsToTheReluctant$Shelf")] s := by
    refine ⟨fun k q hq => hdd k q hq, fun k q hq => ?_⟩
    match k, hq with
    | 0, hq => cases hq; exact ⟨fun n z => ⟨(fun k h => by cases h), ka0, hb0, ca0, hc0⟩, ha0⟩
    | 1, hq => cases hq; exact ⟨fun n z => ⟨(fun k h => by cases h), ka1, hb1, ca1, hc1⟩, ha1⟩
    | 2, hq => cases hq; exact ⟨fun n z => ⟨(fun k h => by cases h), ka2, hb2, ca2, hc2⟩, ha2⟩
    | 3, hq => cases hq; exact ⟨fun n z => ⟨(fun k h => by cases h), ka3, hb3, ca3, hc3⟩, ka3, ca3, hb3, hc3, ha3, hd3⟩
    | k + 4, hq => simp at hq
  refine ⟨(s.heap.size, (fun k => (dd k).1, fun k => (dd k).2), ids, ext, fmt, (b, L, xs)), rfl, rfl, Nat.le_refl _, hK, ⟨⟨hZA, hTA⟩, ⟨hZO, hTO⟩, ⟨hZB, hTB⟩, hZC, hZF, hS2⟩, ?_, ⟨fun w hw hn => ?_, va_AO.of (hts _ tw_172)⟩, hX, hbl⟩
  · exact ⟨vk_R.of (hts _ tw_530) (hSt2 0 (by decide)), vk_R.of (hts _ tw_531) (hSt2 1 (by decide)), vk_R.of (hts _ tw_532) (hSt2 2 (by decide)), vk_R.of (hts _ tw_533) (hSt2 3 (by decide)), vk_R.of (hts _ tw_534) (hSt2 4 (by decide)), vk_R.of (hts _ tw_1129) (va_eqR (hv _ st_e1) (hSt2 0 (by decide))), vk_R.of (hts _ tw_1148) (va_eqR (hv _ st_e2) (hSt2 1 (by decide))), vk_R.of (hts _ tw_1149) (va_eqR (hv _ st_e3) (hSt2 2 (by decide))), vk_R.of (hts _ tw_1154) (hSt2 5 (by decide)), vk_R.of (hts _ tw_1155) (hSt2 6 (by decide))⟩
  · cases w <;> first | exact va_Nw.of rfl (hts _ hw) | (simp [g_nest] at hn)
theorem st_ref : ∀ i, i < 73 → ∀ k, k < 29 → ME.2.2 i k = RHO i k := by decide +kernel
def rb (μ : gM) : Prop := ∀ i k, 29 ≤ k → μ.2.2 i k = none
theorem rb_WI {μ : gM} {i k : Nat} {x : Int32} (h : rb μ) : rb (gWI μ i k x) := h
theorem rb_WL {μ : gM} {i k : Nat} {x : Int64} (h : rb μ) : rb (gWL μ i k x) := h
theorem rb_WR {μ : gM} {i k : Nat} {x : Option Nat} (h : rb μ) (hk : k < 29) : rb (gWR μ i k x) := by
  intro a b hb
  show (if a = i ∧ b = k then x else μ.2.2 a b) = none
  rw [if_neg (by omega)]
  exact h a b hb
theorem rb_CL {μ : gM} {i : Nat} (h : rb μ) : rb (gCL μ i) := by
  intro a b hb
  show (if a = i then none else μ.2.2 a b) = none
  split
  · rfl
  · exact h a b hb
theorem rb_M0 : rb M0 := fun _ _ _ => rfl
theorem rb_C_X4 {p : Nat} {μ : gM} (h : rb μ) : rb (C_X4 p μ) := by
  unfold C_X4
  repeat (first | exact h | refine rb_WR ?_ (by decide) | refine rb_CL ?_ | refine rb_WI ?_ | refine rb_WL ?_)
theorem rb_C_X7 {p : Nat} {μ : gM} (h : rb μ) : rb (C_X7 p μ) := by
  unfold C_X7
  repeat (first | exact h | refine rb_WR ?_ (by decide) | refine rb_CL ?_ | refine rb_WI ?_ | refine rb_WL ?_)
theorem rb_C_X2 {p : Nat} {μ : gM} (h : rb μ) : rb (C_X2 p μ) := by
  unfold C_X2
  repeat (first | exact h | refine rb_WR ?_ (by decide) | refine rb_CL ?_ | refine rb_WI ?_ | refine rb_WL ?_)
theorem rb_C_X5 {p : Nat} {μ : gM} (h : rb μ) : rb (C_X5 p μ) := by
  unfold C_X5
  repeat (first | exact h | refine rb_WR ?_ (by decide) | refine rb_CL ?_ | refine rb_WI ?_ | refine rb_WL ?_)
theorem rb_C_X1 {p : Nat} {μ : gM} (h : rb μ) : rb (C_X1 p μ) := by
  unfold C_X1
  repeat (first | exact h | refine rb_WR ?_ (by decide) | refine rb_CL ?_ | refine rb_WI ?_ | refine rb_WL ?_)
theorem rb_C_X6 {p : Nat} {μ : gM} (h : rb μ) : rb (C_X6 p μ) := by
  unfold C_X6
  repeat (first | exact h | refine rb_WR ?_ (by decide) | refine rb_CL ?_ | refine rb_WI ?_ | refine rb_WL ?_)
theorem rb_MA : rb MA := rb_CL rb_M0
theorem rb_MB_1 : rb MB_1 := rb_CL rb_MA
theorem rb_MB_2 : rb MB_2 := rb_C_X4 rb_MB_1
theorem rb_MB_3 : rb MB_3 := rb_WR rb_MB_2 (by decide)
theorem rb_MB_4 : rb MB_4 := rb_CL rb_MB_3
theorem rb_MB_5 : rb MB_5 := rb_C_X4 rb_MB_4
theorem rb_MB_6 : rb MB_6 := rb_WR rb_MB_5 (by decide)
theorem rb_MB_7 : rb MB_7 := rb_CL rb_MB_6
theorem rb_MB_8 : rb MB_8 := rb_C_X4 rb_MB_7
theorem rb_MB_9 : rb MB_9 := rb_WR rb_MB_8 (by decide)
theorem rb_MB_10 : rb MB_10 := rb_CL rb_MB_9
theorem rb_MB_11 : rb MB_11 := rb_WR rb_MB_10 (by decide)
theorem rb_MB_12 : rb MB_12 := rb_CL rb_MB_11
theorem rb_MB_13 : rb MB_13 := rb_WR rb_MB_12 (by decide)
theorem rb_MB_14 : rb MB_14 := rb_CL rb_MB_13
theorem rb_MB_15 : rb MB_15 := rb_C_X7 rb_MB_14
theorem rb_MB_16 : rb MB_16 := rb_WR rb_MB_15 (by decide)
theorem rb_MB_17 : rb MB_17 := rb_CL rb_MB_16
theorem rb_MB_18 : rb MB_18 := rb_C_X2 rb_MB_17
theorem rb_MB_19 : rb MB_19 := rb_WR rb_MB_18 (by decide)
theorem rb_MB_20 : rb MB_20 := rb_CL rb_MB_19
theorem rb_MB_21 : rb MB_21 := rb_C_X5 rb_MB_20
theorem rb_MB_22 : rb MB_22 := rb_WR rb_MB_21 (by decide)
theorem rb_MB_23 : rb MB_23 := rb_CL rb_MB_22
theorem rb_MB_24 : rb MB_24 := rb_C_X1 rb_MB_23
theorem rb_MB_25 : rb MB_25 := rb_WR rb_MB_24 (by decide)
theorem rb_MB_26 : rb MB_26 := rb_WI rb_MB_25
theorem rb_MB_27 : rb MB_27 := rb_WI rb_MB_26
theorem rb_MB_28 : rb MB_28 := rb_CL rb_MB_27
theorem rb_MB_29 : rb MB_29 := rb_C_X6 rb_MB_28
theorem rb_MB_30 : rb MB_30 := rb_WR rb_MB_29 (by decide)
theorem rb_MB_31 : rb MB_31 := rb_CL rb_MB_30
theorem rb_MB_32 : rb MB_32 := rb_C_X6 rb_MB_31
theorem rb_MB_33 : rb MB_33 := rb_WR rb_MB_32 (by decide)
theorem rb_MB_34 : rb MB_34 := rb_CL rb_MB_33
theorem rb_MB_35 : rb MB_35 := rb_C_X6 rb_MB_34
theorem rb_MB_36 : rb MB_36 := rb_WR rb_MB_35 (by decide)
theorem rb_MB_37 : rb MB_37 := rb_CL rb_MB_36
theorem rb_MB_38 : rb MB_38 := rb_C_X6 rb_MB_37
theorem rb_MB_39 : rb MB_39 := rb_WR rb_MB_38 (by decide)
theorem rb_MB_40 : rb MB_40 := rb_CL rb_MB_39
theorem rb_MB_41 : rb MB_41 := rb_C_X6 rb_MB_40
theorem rb_MB_42 : rb MB_42 := rb_WR rb_MB_41 (by decide)
theorem rb_MB_43 : rb MB_43 := rb_CL rb_MB_42
theorem rb_MB_44 : rb MB_44 := rb_C_X6 rb_MB_43
theorem rb_MB_45 : rb MB_45 := rb_WR rb_MB_44 (by decide)
theorem rb_MB_46 : rb MB_46 := rb_CL rb_MB_45
theorem rb_MB_47 : rb MB_47 := rb_C_X6 rb_MB_46
theorem rb_MB_48 : rb MB_48 := rb_WR rb_MB_47 (by decide)
theorem rb_MB_49 : rb MB_49 := rb_CL rb_MB_48
theorem rb_MB_50 : rb MB_50 := rb_C_X6 rb_MB_49
theorem rb_MB_51 : rb MB_51 := rb_WR rb_MB_50 (by decide)
theorem rb_MC : rb MC := rb_CL rb_MB_51
theorem rb_MD_1 : rb MD_1 := rb_CL rb_MC
theorem rb_MD_2 : rb MD_2 := rb_WR rb_MD_1 (by decide)
theorem rb_MD_3 : rb MD_3 := rb_CL rb_MD_2
theorem rb_MD_4 : rb MD_4 := rb_WR rb_MD_3 (by decide)
theorem rb_MD_5 : rb MD_5 := rb_CL rb_MD_4
theorem rb_MD_6 : rb MD_6 := rb_WR rb_MD_5 (by decide)
theorem rb_MD_7 : rb MD_7 := rb_CL rb_MD_6
theorem rb_MD_8 : rb MD_8 := rb_WR rb_MD_7 (by decide)
theorem rb_MD_9 : rb MD_9 := rb_CL rb_MD_8
theorem rb_MD_10 : rb MD_10 := rb_WR rb_MD_9 (by decide)
theorem rb_MD_11 : rb MD_11 := rb_CL rb_MD_10
theorem rb_MD_12 : rb MD_12 := rb_WR rb_MD_11 (by decide)
theorem rb_MD_13 : rb MD_13 := rb_CL rb_MD_12
theorem rb_MD_14 : rb MD_14 := rb_WR rb_MD_13 (by decide)
theorem rb_MD_15 : rb MD_15 := rb_CL rb_MD_14
theorem rb_MD_16 : rb MD_16 := rb_WR rb_MD_15 (by decide)
theorem rb_MD_17 : rb MD_17 := rb_CL rb_MD_16
theorem rb_MD_18 : rb MD_18 := rb_WR rb_MD_17 (by decide)
theorem rb_MD_19 : rb MD_19 := rb_CL rb_MD_18
theorem rb_MD_20 : rb MD_20 := rb_WR rb_MD_19 (by decide)
theorem rb_MD_21 : rb MD_21 := rb_CL rb_MD_20
theorem rb_MD_22 : rb MD_22 := rb_WR rb_MD_21 (by decide)
theorem rb_MD_23 : rb MD_23 := rb_CL rb_MD_22
theorem rb_MD_24 : rb MD_24 := rb_WR rb_MD_23 (by decide)
theorem rb_MD_25 : rb MD_25 := rb_CL rb_MD_24
theorem rb_MD_26 : rb MD_26 := rb_WR rb_MD_25 (by decide)
theorem rb_MD_27 : rb MD_27 := rb_CL rb_MD_26
theorem rb_MD_28 : rb MD_28 := rb_WR rb_MD_27 (by decide)
theorem rb_MD_29 : rb MD_29 := rb_CL rb_MD_28
theorem rb_MD_30 : rb MD_30 := rb_WR rb_MD_29 (by decide)
theorem rb_MD_31 : rb MD_31 := rb_CL rb_MD_30
theorem rb_MD_32 : rb MD_32 := rb_WR rb_MD_31 (by decide)
theorem rb_MD_33 : rb MD_33 := rb_CL rb_MD_32
theorem rb_MD_34 : rb MD_34 := rb_WR rb_MD_33 (by decide)
theorem rb_MD_35 : rb MD_35 := rb_CL rb_MD_34
theorem rb_MD_36 : rb MD_36 := rb_WR rb_MD_35 (by decide)
theorem rb_MD_37 : rb MD_37 := rb_CL rb_MD_36
theorem rb_MD_38 : rb MD_38 := rb_WR rb_MD_37 (by decide)
theorem rb_MD_39 : rb MD_39 := rb_WI rb_MD_38
theorem rb_MD_40 : rb MD_40 := rb_WI rb_MD_39
theorem rb_MD_41 : rb MD_41 := rb_WI rb_MD_40
theorem rb_MD_42 : rb MD_42 := rb_WI rb_MD_41
theorem rb_MD_43 : rb MD_43 := rb_WI rb_MD_42
theorem rb_MD_44 : rb MD_44 := rb_WI rb_MD_43
theorem rb_MD_45 : rb MD_45 := rb_WI rb_MD_44
theorem rb_MD_46 : rb MD_46 := rb_WI rb_MD_45
theorem rb_MD_47 : rb MD_47 := rb_WI rb_MD_46
theorem rb_MD_48 : rb MD_48 := rb_WI rb_MD_47
theorem rb_MD_49 : rb MD_49 := rb_WI rb_MD_48
theorem rb_MD_50 : rb MD_50 := rb_WI rb_MD_49
theorem rb_MD_51 : rb MD_51 := rb_WI rb_MD_50
theorem rb_ME : rb ME := rb_MD_51
theorem st_refB (k : Nat) (hk : 29 ≤ k) : ∀ i, i < 73 → ME.2.2 i k = RHO i k := by
  intro i hi
  rw [rb_ME i k hk]
  have h : ∀ i, i < 73 → (RHT.getD i []).length ≤ 29 := by decide +kernel
  have h2 := h i hi
  unfold RHO
  rw [List.getD_eq_getElem?_getD, List.getElem?_eq_none (by omega)]
  rfl
theorem st_ref22 (i : Nat) (hi : i < 73) (k : Nat) : ME.2.2 i k = RHO i k := by
  rcases Nat.lt_or_ge k 29 with h | h
  · exact st_ref i hi k h
  · exact st_refB k h i hi
theorem st_wl {X : gX} {ad : Nat → Nat} : g_wl X ad (SH.take 73) ME = g_wl X ad SH (gF (ME.1, ME.2.1)) := by
  have hSH : SH.take 73 = SH := rfl
  rw [hSH]
  unfold g_wl
  refine List.map_congr_left (fun i hi => ?_)
  have hi2 : i < 73 := List.mem_range.mp hi
  have hr := st_ref i hi2
  have hc : ∀ i, i < 73 → ((SH.getD i (0, 0)).1 = 3 → (SH.getD i (0, 0)).2 ≤ 29) ∧ (4 ≤ (SH.getD i (0, 0)).1 → (SH.getD i (0, 0)).2 ≤ 29) := by decide +kernel
  have hc2 := hc i hi2
  refine congrArg (fun z => (ad i, z)) ?_
  generalize SH.getD i (0, 0) = cc at hc2
  obtain ⟨c1, c2⟩ := cc
  match c1, hc2 with
  | 0, _ => rfl
  | 1, _ => rfl
  | 2, _ => rfl
  | 3, h =>
    show Sum.inl (X.2.2.1 3, c2, _) = Sum.inl (X.2.2.1 3, c2, _)
    refine congrArg (fun z => (Sum.inl (X.2.2.1 3, c2, Sum.inr (Sum.inr (Sum.inr (Sum.inr z)))) : va_E)) ?_
    funext b
    show (ME.2.2 i b).map ad = (RHO i b).map ad
    rw [st_ref22 i hi2 b]
  | ci + 4, h =>
    show Sum.inr (ci, _) = Sum.inr (ci, _)
    congr 2
    refine List.map_congr_left (fun q hq => ?_)
    have hq2 : q < 29 := Nat.lt_of_lt_of_le (List.mem_range.mp hq) (h.2 (by show 4 ≤ ci + 4; omega))
    cases g_ty ci q <;> simp only [g_fv, gF, hr q hq2]
theorem st_go {X : gX} {ad : Nat → Nat} {nm : String} {r : Int32 × gN} (h : f_L_law_L18 X.2.2.2.2.2.2.1 X.2.2.2.2.2.2.2 FU 0 (ME.1, ME.2.1) = some r) (h1 : r.1 = 1) : g_go X RL nm cL_law 4 ret room_1 (law_Z X) 0 [(0, .ref X.2.2.2.2.2.1)] [] ad [] M0 0 0 := by
  have hcl : g_cl0 [] M0 := fun i k r hi => absurd hi (by simp)
  refine go_new hcl cl6.1 inX8 cl6.2.2.1 tw_91 tw_92 tw_72 (fun q hq => dv_ok ((by decide : ∀ q, q < 11 → g_okT (g_ty 6 q) = true) q hq)) (by decide) dL_law_0 (fun ad1 he1 => ?_)
  have hcl1 : g_cl0 (SH.take 1) MA := cl_push hcl
  change g_go X _ _ _ _ _ _ _ 3 [(0, .ref X.2.2.2.2.2.1)] [.ref (ad1 0)] ad1 (SH.take 1) MA 1 11
  refine go_dup rfl dL_law_3 ?_
  refine go_callI (st := [.ref (ad1 0)]) (As := []) (i_X8_init_0 () hcl1) tw_93 tw_94 rfl me_X8_init.1 me_X8_init.2.1 me_X8_init.2.2.1 me_X8_init.2.2.2 (by decide) rfl (Nat.le_of_ble_eq_true rfl) (by decide) dL_law_4 (fun v ad2 sh1 μ1 hq => ?_)
  obtain ⟨rfl, he2, rfl, rfl, hcl2⟩ := hq
  rw [← he2 0 (by decide)]
  change g_go X _ _ _ _ _ _ _ 7 [(0, .ref X.2.2.2.2.2.1)] [.ref (ad2 0)] ad2 (SH.take 53) MB_51 53 1976
  refine go_astore_n (l' := [(1, .ref (ad2 0)), (0, .ref X.2.2.2.2.2.1)]) dL_law_7 rfl (by decide) rfl ?_
  refine go_new hcl2 cl7.1 inX9 cl7.2.2.1 tw_906 tw_907 tw_79 (fun q hq => dv_ok ((by decide : ∀ q, q < 29 → g_okT (g_ty 7 q) = true) q hq)) (by decide) dL_law_8 (fun ad3 he3 => ?_)
  have hcl3 : g_cl0 (SH.take 54) MC := cl_push hcl2
  rw [← he3 0 (by decide)]
  change g_go X _ _ _ _ _ _ _ 11 [(1, .ref (ad3 0)), (0, .ref X.2.2.2.2.2.1)] [.ref (ad3 53)] ad3 (SH.take 54) MC 54 2005
  refine go_dup rfl dL_law_11 ?_
  refine go_callI (st := [.ref (ad3 53)]) (As := []) (i_X9_init () hcl3) tw_908 tw_909 rfl me_X9_init.1 me_X9_init.2.1 me_X9_init.2.2.1 me_X9_init.2.2.2 (by decide) rfl (Nat.le_of_ble_eq_true rfl) (by decide) dL_law_12 (fun v ad4 sh1 μ1 hq => ?_)
  obtain ⟨rfl, he4, rfl, rfl, hcl4⟩ := hq
  rw [← he4 0 (by decide), ← he4 53 (by decide)]
  change g_go X _ _ _ _ _ _ _ 15 [(1, .ref (ad4 0)), (0, .ref X.2.2.2.2.2.1)] [.ref (ad4 53)] ad4 (SH.take 73) ME 73 3815
  refine go_mem st_wl ?_
  refine go_astore_n (l' := [(2, .ref (ad4 53)), (1, .ref (ad4 0)), (0, .ref X.2.2.2.2.2.1)]) dL_law_15 rfl (by decide) rfl ?_
  refine go_iconst kz_iconst_0 dL_law_16 ?_
  refine go_istore_n (l' := [(3, .int 0), (2, .ref (ad4 53)), (1, .ref (ad4 0)), (0, .ref X.2.2.2.2.2.1)]) dL_law_17 rfl (by decide) rfl ?_
  refine go_sub (l' := [(0, .ref X.2.2.2.2.2.1), (1, .ref (ad4 0)), (2, .ref (ad4 53)), (3, .int 0)]) [3, 2, 1, 0] rfl ?_
  exact m_L_law_L18 FU 0 _ r h h1
theorem start_of (hp : ∀ (L : Nat) (xs : Nat → Int32), L ≤ 3072 → ∃ r, f_L_law_L18 L xs FU 0 (ME.1, ME.2.1) = some r ∧ r.1 = 1) {p : Program} {e : Env} {s : State} {m : MethodId} {below : List Frame} {meth : Method} {c : Code} (l : Launch) (hflags : l.flags = flags0) {b L : Nat} {xs : Nat → Int32} (hL : L ≤ 3072) (C0 : lw_At p s m meth c b L xs) : W p l e room_1 s m #[Value.ref b] below meth c s.heap [] 0 0 (lw_Z below #[Value.ref b] s) (entryFrame m ([Value.ref b] : List Value).toArray 4) := by
  obtain ⟨hx, hb, hr, hml, hown, hts, hX, hbl, hlocks, hgv⟩ := C0
  obtain ⟨X, hX1, hX2, hE⟩ := st_env hts hX hbl hgv
  obtain ⟨r, h, h1⟩ := hp L xs hL
  have hl := lv_entry ([.ref b]) (n := 4) (Nat.le_of_ble_eq_true rfl)
  rw [lg_entry_eq]
  generalize (lg_sl ([.ref b]) ++ List.replicate (4 - (lg_sl ([.ref b])).length) Slot.unset).toArray = ls at hl ⊢
  have e1 : X.2.2.2.2.2.1 = b := by rw [hX2]
  have e2 : X.2.2.2.2.2.2.1 = L := by rw [hX2]
  have e3 : X.2.2.2.2.2.2.2 = xs := by rw [hX2]
  have hl : lv_has ls 4 [(0, .ref X.2.2.2.2.2.1)] := by rw [e1]; exact hl
  have hg := st_go (X := X) (ad := fun _ => 0) (nm := meth.name) (r := r) (by rw [e2, e3]; exact h) h1
  have hW := hg p l e s m #[Value.ref b] below meth c s.heap [] ls hx hb hml hown (fun w hw => hts w (List.mem_filter.mp hw).1) hr hlocks rfl hE va_S.rf ⟨fun k q hq => by simp [g_wl] at hq, ⟨fun i j p q hq => by simp [g_wl] at hq, fun k q hq => by simp [g_wl] at hq⟩⟩ hl
  intro T hT Y
  obtain ⟨t, a, bb⟩ := hW T hT Y
  exact ⟨t, a, bb (Nat.le_of_eq hX1.symm)⟩
