/-! each method as a function of the memory (f_), and that the machine does it (m_); written by my own program out of the decoded rows -/
noncomputable def f_X9_above (x0 : Int32) (ν : gN) : Option (Int32 × gN) :=
  if x0 = 3 then
    some (1, ν)
  else
    if x0 = 5 then
      some (2, ν)
    else
      if x0 = 6 then
        some (3, ν)
      else
        some (0, ν)
theorem me_X9_above : g_me yX9_above cX9_above 1 ((Option.some .int)) 1 := ⟨tw_1053, tw_79, ⟨by decide +kernel, by decide +kernel, by decide +kernel⟩, by decide⟩
set_option maxRecDepth 20000 in
set_option maxHeartbeats 2000000 in
theorem m_X9_above {X : gX} {ad : Nat → Nat} {x0 : Int32} {ν : gN} {r : Int32 × gN}  (h : f_X9_above x0 ν = some r) : h_ct X ad yX9_above cX9_above 1 ((Option.some .int)) 1 [.int x0] ν (some (.int r.1), r.2) := by
  rw [f_X9_above] at h
  refine h_ct_of (l := [(0, .int x0)]) (by decide) (Nat.le_of_ble_eq_true rfl) rfl ?_
  refine go_iload_n rfl 0 rfl dX9_above_0 ?_
  refine go_iconst kz_iconst_3 dX9_above_1 ?_
  refine go_icmp_ne (tgt := 9) dX9_above_2 rfl (fun hc => ?_) (fun hc => ?_)
  · replace h := q_f h hc
    refine go_iload_n rfl 0 rfl dX9_above_9 ?_
    refine go_iconst kz_iconst_5 dX9_above_10 ?_
    refine go_icmp_ne (tgt := 18) dX9_above_11 rfl (fun hc => ?_) (fun hc => ?_)
    · replace h := q_f h hc
      refine go_iload_n rfl 0 rfl dX9_above_18 ?_
      refine go_bipush kz_bipush_6 dX9_above_19 ?_
      refine go_icmp_ne (tgt := 28) dX9_above_21 rfl (fun hc => ?_) (fun hc => ?_)
      · replace h := q_f h hc
        refine go_iconst kz_iconst_0 dX9_above_28 ?_
        exact h_iret h dX9_above_29 rfl
      · replace h := q_t h hc
        refine go_iconst kz_iconst_3 dX9_above_24 ?_
        refine go_goto (tgt := 29) dX9_above_25 rfl ?_
        exact h_iret h dX9_above_29 rfl
    · replace h := q_t h hc
      refine go_iconst kz_iconst_2 dX9_above_14 ?_
      refine go_goto (tgt := 29) dX9_above_15 rfl ?_
      exact h_iret h dX9_above_29 rfl
  · replace h := q_t h hc
    refine go_iconst kz_iconst_1 dX9_above_5 ?_
    refine go_goto (tgt := 29) dX9_above_6 rfl ?_
    exact h_iret h dX9_above_29 rfl
noncomputable def f_X9_ran (x1 : Int32) (ν : gN) : Option (gN) :=
  if 20 ≤ (ν.1 53 18) then
    qL (nWI ν 53 18 ((ν.1 53 18) + 1)) (fun ν_1 =>
      some ν_1)
  else
    if inb (ν.1 53 18) 20 = true then
      qL (nWI ν 67 (ν.1 53 18).toNatClampNeg x1) (fun ν_4 =>
        qL (nWI ν_4 53 18 ((ν_4.1 53 18) + 1)) (fun ν_6 =>
          some ν_6))
    else none
theorem me_X9_ran : g_me yX9_ran cX9_ran 2 (none) 1 := ⟨tw_1356, tw_79, ⟨by decide +kernel, by decide +kernel, by decide +kernel⟩, by decide⟩
set_option maxRecDepth 20000 in
set_option maxHeartbeats 2000000 in
theorem m_X9_ran {X : gX} {ad : Nat → Nat} {x1 : Int32} {ν : gN} {r : gN}  (h : f_X9_ran x1 ν = some r) : h_ct X ad yX9_ran cX9_ran 2 (none) 1 [.ref (ad 53), .int x1] ν (none, r) := by
  rw [f_X9_ran] at h
  refine h_ct_of (l := [(0, .ref (ad 53)), (1, .int x1)]) (by decide) (Nat.le_of_ble_eq_true rfl) rfl ?_
  refine go_aload_n rfl 0 rfl dX9_ran_0 ?_
  refine h_geti 18 cl7 rfl (by decide) tw_930 rfl dX9_ran_1 ?_
  refine go_bipush kz_bipush_20 dX9_ran_4 ?_
  refine go_icmp_ge (tgt := 19) dX9_ran_6 rfl (fun hc => ?_) (fun hc => ?_)
  · replace h := q_t h hc
    refine go_aload_n rfl 0 rfl dX9_ran_19 ?_
    refine go_dup rfl dX9_ran_20 ?_
    refine h_geti 18 cl7 rfl (by decide) tw_930 rfl dX9_ran_21 ?_
    refine go_iconst kz_iconst_1 dX9_ran_24 ?_
    refine go_iadd dX9_ran_25 ?_
    obtain ⟨ν_1, e_2, h⟩ := q_l h
    refine h_puti 18 cl7 rfl (by decide) tw_930 rfl rfl e_2 dX9_ran_26 ?_
    exact h_vret h dX9_ran_29 rfl
  · replace h := q_f h hc
    refine go_aload_n rfl 0 rfl dX9_ran_9 ?_
    refine h_getr 19 cl7 rfl (by decide) tw_931 67 rfl dX9_ran_10 ?_
    refine go_aload_n rfl 0 rfl dX9_ran_13 ?_
    refine h_geti 18 cl7 rfl (by decide) tw_930 rfl dX9_ran_14 ?_
    refine go_iload_n rfl 1 rfl dX9_ran_17 ?_
    obtain ⟨hg_3, h⟩ := q_g h
    obtain ⟨ν_4, e_5, h⟩ := q_l h
    refine h_iast 20 rfl hg_3 e_5 dX9_ran_18 ?_
    refine go_aload_n rfl 0 rfl dX9_ran_19 ?_
    refine go_dup rfl dX9_ran_20 ?_
    refine h_geti 18 cl7 rfl (by decide) tw_930 rfl dX9_ran_21 ?_
    refine go_iconst kz_iconst_1 dX9_ran_24 ?_
    refine go_iadd dX9_ran_25 ?_
    obtain ⟨ν_6, e_7, h⟩ := q_l h
    refine h_puti 18 cl7 rfl (by decide) tw_930 rfl rfl e_7 dX9_ran_26 ?_
    exact h_vret h dX9_ran_29 rfl
noncomputable def f_X9_runsBy : Nat → Int32 → Int32 → Int32 → gN → Option (Int32 × gN)
  | 0, _, _, _, _ => none
  | n + 1, x1, x2, x3, ν =>
    if x2 = 0 then
      (f_X9_ran 10 ν).bind (fun r_2 =>
        some (x3 + x1, r_2))
    else
    if x2 = 1 then
      (f_X9_ran 20 ν).bind (fun r_5 =>
        (f_X9_runsBy n x1 0 x3 r_5).bind (fun r_7 =>
          if inb x1 7 = true then
            some (r_7.1 + (r_7.2.1 55 x1.toNatClampNeg), r_7.2)
          else none))
    else
    if x2 = 2 then
      (f_X9_above x2 ν).bind (fun r_11 =>
        (f_X9_runsBy n x1 r_11.1 x3 r_11.2).bind (fun r_13 =>
          some (r_13.1, r_13.2)))
    else
    if x2 = 3 then
      (f_X9_ran 40 ν).bind (fun r_16 =>
        (f_X9_runsBy n x1 1 (x3 + 1) r_16).bind (fun r_18 =>
          some (r_18.1, r_18.2)))
    else
    if x2 = 4 then
      (f_X9_ran 51 ν).bind (fun r_21 =>
        (f_X9_runsBy n x1 0 x3 r_21).bind (fun r_23 =>
          some (r_23.1 - x1, r_23.2)))
    else
    if x2 = 5 then
      (f_X9_above x2 ν).bind (fun r_26 =>
        (f_X9_runsBy n x1 r_26.1 x3 r_26.2).bind (fun r_28 =>
          some (r_28.1, r_28.2)))
    else
    if x2 = 6 then
      (f_X9_ran 70 ν).bind (fun r_31 =>
        (f_X9_runsBy n x1 3 x3 r_31).bind (fun r_33 =>
          some (r_33.1 * 2, r_33.2)))
    else
    (f_X9_above x2 ν).bind (fun r_35 =>
      (f_X9_runsBy n x1 r_35.1 x3 r_35.2).bind (fun r_37 =>
        some (r_37.1, r_37.2)))
theorem me_X9_runsBy : g_me yX9_runsBy cX9_runsBy 4 ((Option.some .int)) 3 := ⟨tw_1352, tw_79, ⟨by decide +kernel, by decide +kernel, by decide +kernel⟩, by decide⟩
set_option maxRecDepth 20000 in
set_option maxHeartbeats 2000000 in
theorem m_X9_runsBy {X : gX} {ad : Nat → Nat} : ∀ (n : Nat) (x1 : Int32) (x2 : Int32) (x3 : Int32) (ν : gN) (r : Int32 × gN) , f_X9_runsBy n x1 x2 x3 ν = some r → h_ct X ad yX9_runsBy cX9_runsBy 4 ((Option.some .int)) (2 + n) [.ref (ad 53), .int x1, .int x2, .int x3] ν (some (.int r.1), r.2) := by
  intro n
  induction n with
  | zero => intro x1 x2 x3 ν r h; rw [f_X9_runsBy] at h; exact q_n h
  | succ n ih =>
    intro x1 x2 x3 ν r h
    rw [f_X9_runsBy] at h
    refine h_ct_of (l := [(0, .ref (ad 53)), (1, .int x1), (2, .int x2), (3, .int x3)]) (by decide) (Nat.le_of_ble_eq_true rfl) rfl ?_
    refine go_iload_n rfl 2 rfl dX9_runsBy_0 ?_
    by_cases hk_1 : x2 = 0
    · replace h := q_t h hk_1
      refine h_tbT (tgt := 44) (off := 43) hk_1 dX9_runsBy_1 (by decide) (by decide) rfl rfl ?_
      refine go_aload_n rfl 0 rfl dX9_runsBy_44 ?_
      refine go_bipush kz_bipush_10 dX9_runsBy_45 ?_
      obtain ⟨r_2, h_3, h⟩ := q_b h
      refine h_callVv (st := []) [.int 10] (m_X9_ran h_3) me_X9_ran (g_recv cl7.1 rfl) tw_1353 tw_1355 tw_68 (hdd_of (by omega)) ⟨Nat.zero_le _, Nat.zero_le _⟩ rfl rfl (Nat.le_of_ble_eq_true rfl) dX9_runsBy_47 ?_
      refine go_iload_n rfl 3 rfl dX9_runsBy_50 ?_
      refine go_iload_n rfl 1 rfl dX9_runsBy_51 ?_
      refine go_iadd dX9_runsBy_52 ?_
      exact h_iret h dX9_runsBy_53 rfl
    replace h := q_f h hk_1
    by_cases hk_4 : x2 = 1
    · replace h := q_t h hk_4
      refine h_tbT (tgt := 54) (off := 53) hk_4 dX9_runsBy_1 (by decide) (by decide) rfl rfl ?_
      refine go_aload_n rfl 0 rfl dX9_runsBy_54 ?_
      refine go_bipush kz_bipush_20 dX9_runsBy_55 ?_
      obtain ⟨r_5, h_6, h⟩ := q_b h
      refine h_callVv (st := []) [.int 20] (m_X9_ran h_6) me_X9_ran (g_recv cl7.1 rfl) tw_1353 tw_1355 tw_68 (hdd_of (by omega)) ⟨Nat.zero_le _, Nat.zero_le _⟩ rfl rfl (Nat.le_of_ble_eq_true rfl) dX9_runsBy_57 ?_
      refine go_aload_n rfl 0 rfl dX9_runsBy_60 ?_
      refine go_iload_n rfl 1 rfl dX9_runsBy_61 ?_
      refine go_iconst kz_iconst_0 dX9_runsBy_62 ?_
      refine go_iload_n rfl 3 rfl dX9_runsBy_63 ?_
      obtain ⟨r_7, h_8, h⟩ := q_b h
      refine h_callVi (st := []) [.int x1, .int 0, .int x3] (ih _ _ _ _ _ h_8) me_X9_runsBy (g_recv cl7.1 rfl) tw_1349 tw_1351 tw_67 (hdd_of (by omega)) ⟨Nat.zero_le _, Nat.zero_le _⟩ rfl rfl (Nat.le_of_ble_eq_true rfl) dX9_runsBy_64 ?_
      refine go_aload_n rfl 0 rfl dX9_runsBy_67 ?_
      refine h_getr 2 cl7 rfl (by decide) tw_914 55 rfl dX9_runsBy_68 ?_
      refine go_iload_n rfl 1 rfl dX9_runsBy_71 ?_
      obtain ⟨hg_9, h⟩ := q_g h
      refine h_iald 7 rfl hg_9 dX9_runsBy_72 ?_
      refine go_iadd dX9_runsBy_73 ?_
      exact h_iret h dX9_runsBy_74 rfl
    replace h := q_f h hk_4
    by_cases hk_10 : x2 = 2
    · replace h := q_t h hk_10
      refine h_tbT (tgt := 123) (off := 122) hk_10 dX9_runsBy_1 (by decide) (by decide) rfl rfl ?_
      refine go_aload_n rfl 0 rfl dX9_runsBy_123 ?_
      refine go_iload_n rfl 1 rfl dX9_runsBy_124 ?_
      refine go_iload_n rfl 2 rfl dX9_runsBy_125 ?_
      obtain ⟨r_11, h_12, h⟩ := q_b h
      refine h_callSi (st := [.int x1, .ref (ad 53)]) [.int x2] (m_X9_above h_12) me_X9_above tw_1051 tw_1052 (hdd_of (by omega)) ⟨Nat.zero_le _, Nat.zero_le _⟩ rfl rfl (Nat.le_of_ble_eq_true rfl) dX9_runsBy_126 ?_
      refine go_iload_n rfl 3 rfl dX9_runsBy_129 ?_
      obtain ⟨r_13, h_14, h⟩ := q_b h
      refine h_callVi (st := []) [.int x1, .int r_11.1, .int x3] (ih _ _ _ _ _ h_14) me_X9_runsBy (g_recv cl7.1 rfl) tw_1349 tw_1351 tw_67 (hdd_of (by omega)) ⟨Nat.zero_le _, Nat.zero_le _⟩ rfl rfl (Nat.le_of_ble_eq_true rfl) dX9_runsBy_130 ?_
      exact h_iret h dX9_runsBy_133 rfl
    replace h := q_f h hk_10
    by_cases hk_15 : x2 = 3
    · replace h := q_t h hk_15
      refine h_tbT (tgt := 75) (off := 74) hk_15 dX9_runsBy_1 (by decide) (by decide) rfl rfl ?_
      refine go_aload_n rfl 0 rfl dX9_runsBy_75 ?_
      refine go_bipush kz_bipush_40 dX9_runsBy_76 ?_
      obtain ⟨r_16, h_17, h⟩ := q_b h
      refine h_callVv (st := []) [.int 40] (m_X9_ran h_17) me_X9_ran (g_recv cl7.1 rfl) tw_1353 tw_1355 tw_68 (hdd_of (by omega)) ⟨Nat.zero_le _, Nat.zero_le _⟩ rfl rfl (Nat.le_of_ble_eq_true rfl) dX9_runsBy_78 ?_
      refine go_aload_n rfl 0 rfl dX9_runsBy_81 ?_
      refine go_iload_n rfl 1 rfl dX9_runsBy_82 ?_
      refine go_iconst kz_iconst_1 dX9_runsBy_83 ?_
      refine go_iload_n rfl 3 rfl dX9_runsBy_84 ?_
      refine go_iconst kz_iconst_1 dX9_runsBy_85 ?_
      refine go_iadd dX9_runsBy_86 ?_
      obtain ⟨r_18, h_19, h⟩ := q_b h
      refine h_callVi (st := []) [.int x1, .int 1, .int (x3 + 1)] (ih _ _ _ _ _ h_19) me_X9_runsBy (g_recv cl7.1 rfl) tw_1349 tw_1351 tw_67 (hdd_of (by omega)) ⟨Nat.zero_le _, Nat.zero_le _⟩ rfl rfl (Nat.le_of_ble_eq_true rfl) dX9_runsBy_87 ?_
      exact h_iret h dX9_runsBy_90 rfl
    replace h := q_f h hk_15
    by_cases hk_20 : x2 = 4
    · replace h := q_t h hk_20
      refine h_tbT (tgt := 91) (off := 90) hk_20 dX9_runsBy_1 (by decide) (by decide) rfl rfl ?_
      refine go_aload_n rfl 0 rfl dX9_runsBy_91 ?_
      refine go_bipush kz_bipush_51 dX9_runsBy_92 ?_
      obtain ⟨r_21, h_22, h⟩ := q_b h
      refine h_callVv (st := []) [.int 51] (m_X9_ran h_22) me_X9_ran (g_recv cl7.1 rfl) tw_1353 tw_1355 tw_68 (hdd_of (by omega)) ⟨Nat.zero_le _, Nat.zero_le _⟩ rfl rfl (Nat.le_of_ble_eq_true rfl) dX9_runsBy_94 ?_
      refine go_aload_n rfl 0 rfl dX9_runsBy_97 ?_
      refine go_iload_n rfl 1 rfl dX9_runsBy_98 ?_
      refine go_iconst kz_iconst_0 dX9_runsBy_99 ?_
      refine go_iload_n rfl 3 rfl dX9_runsBy_100 ?_
      obtain ⟨r_23, h_24, h⟩ := q_b h
      refine h_callVi (st := []) [.int x1, .int 0, .int x3] (ih _ _ _ _ _ h_24) me_X9_runsBy (g_recv cl7.1 rfl) tw_1349 tw_1351 tw_67 (hdd_of (by omega)) ⟨Nat.zero_le _, Nat.zero_le _⟩ rfl rfl (Nat.le_of_ble_eq_true rfl) dX9_runsBy_101 ?_
      refine go_iload_n rfl 1 rfl dX9_runsBy_104 ?_
      refine go_isub dX9_runsBy_105 ?_
      exact h_iret h dX9_runsBy_106 rfl
    replace h := q_f h hk_20
    by_cases hk_25 : x2 = 5
    · replace h := q_t h hk_25
      refine h_tbT (tgt := 123) (off := 122) hk_25 dX9_runsBy_1 (by decide) (by decide) rfl rfl ?_
      refine go_aload_n rfl 0 rfl dX9_runsBy_123 ?_
      refine go_iload_n rfl 1 rfl dX9_runsBy_124 ?_
      refine go_iload_n rfl 2 rfl dX9_runsBy_125 ?_
      obtain ⟨r_26, h_27, h⟩ := q_b h
      refine h_callSi (st := [.int x1, .ref (ad 53)]) [.int x2] (m_X9_above h_27) me_X9_above tw_1051 tw_1052 (hdd_of (by omega)) ⟨Nat.zero_le _, Nat.zero_le _⟩ rfl rfl (Nat.le_of_ble_eq_true rfl) dX9_runsBy_126 ?_
      refine go_iload_n rfl 3 rfl dX9_runsBy_129 ?_
      obtain ⟨r_28, h_29, h⟩ := q_b h
      refine h_callVi (st := []) [.int x1, .int r_26.1, .int x3] (ih _ _ _ _ _ h_29) me_X9_runsBy (g_recv cl7.1 rfl) tw_1349 tw_1351 tw_67 (hdd_of (by omega)) ⟨Nat.zero_le _, Nat.zero_le _⟩ rfl rfl (Nat.le_of_ble_eq_true rfl) dX9_runsBy_130 ?_
      exact h_iret h dX9_runsBy_133 rfl
    replace h := q_f h hk_25
    by_cases hk_30 : x2 = 6
    · replace h := q_t h hk_30
      refine h_tbT (tgt := 107) (off := 106) hk_30 dX9_runsBy_1 (by decide) (by decide) rfl rfl ?_
      refine go_aload_n rfl 0 rfl dX9_runsBy_107 ?_
      refine go_bipush kz_bipush_70 dX9_runsBy_108 ?_
      obtain ⟨r_31, h_32, h⟩ := q_b h
      refine h_callVv (st := []) [.int 70] (m_X9_ran h_32) me_X9_ran (g_recv cl7.1 rfl) tw_1353 tw_1355 tw_68 (hdd_of (by omega)) ⟨Nat.zero_le _, Nat.zero_le _⟩ rfl rfl (Nat.le_of_ble_eq_true rfl) dX9_runsBy_110 ?_
      refine go_aload_n rfl 0 rfl dX9_runsBy_113 ?_
      refine go_iload_n rfl 1 rfl dX9_runsBy_114 ?_
      refine go_iconst kz_iconst_3 dX9_runsBy_115 ?_
      refine go_iload_n rfl 3 rfl dX9_runsBy_116 ?_
      obtain ⟨r_33, h_34, h⟩ := q_b h
      refine h_callVi (st := []) [.int x1, .int 3, .int x3] (ih _ _ _ _ _ h_34) me_X9_runsBy (g_recv cl7.1 rfl) tw_1349 tw_1351 tw_67 (hdd_of (by omega)) ⟨Nat.zero_le _, Nat.zero_le _⟩ rfl rfl (Nat.le_of_ble_eq_true rfl) dX9_runsBy_117 ?_
      refine go_iconst kz_iconst_2 dX9_runsBy_120 ?_
      refine go_imul dX9_runsBy_121 ?_
      exact h_iret h dX9_runsBy_122 rfl
    replace h := q_f h hk_30
    have hk_1 := h_nT hk_1 (a := 0) (by decide)
    have hk_4 := h_nT hk_4 (a := 1) (by decide)
    have hk_10 := h_nT hk_10 (a := 2) (by decide)
    have hk_15 := h_nT hk_15 (a := 3) (by decide)
    have hk_20 := h_nT hk_20 (a := 4) (by decide)
    have hk_25 := h_nT hk_25 (a := 5) (by decide)
    have hk_30 := h_nT hk_30 (a := 6) (by decide)
    refine go_tableOut (tgt := 123) dX9_runsBy_1 (by omega) rfl ?_
    refine go_aload_n rfl 0 rfl dX9_runsBy_123 ?_
    refine go_iload_n rfl 1 rfl dX9_runsBy_124 ?_
    refine go_iload_n rfl 2 rfl dX9_runsBy_125 ?_
    obtain ⟨r_35, h_36, h⟩ := q_b h
    refine h_callSi (st := [.int x1, .ref (ad 53)]) [.int x2] (m_X9_above h_36) me_X9_above tw_1051 tw_1052 (hdd_of (by omega)) ⟨Nat.zero_le _, Nat.zero_le _⟩ rfl rfl (Nat.le_of_ble_eq_true rfl) dX9_runsBy_126 ?_
    refine go_iload_n rfl 3 rfl dX9_runsBy_129 ?_
    obtain ⟨r_37, h_38, h⟩ := q_b h
    refine h_callVi (st := []) [.int x1, .int r_35.1, .int x3] (ih _ _ _ _ _ h_38) me_X9_runsBy (g_recv cl7.1 rfl) tw_1349 tw_1351 tw_67 (hdd_of (by omega)) ⟨Nat.zero_le _, Nat.zero_le _⟩ rfl rfl (Nat.le_of_ble_eq_true rfl) dX9_runsBy_130 ?_
    exact h_iret h dX9_runsBy_133 rfl
noncomputable def f_X9_hidesBy : Nat → Int32 → Int32 → Int32 → gN → Option (Int32 × gN)
  | 0, _, _, _, _ => none
  | n + 1, x1, x2, x3, ν =>
    if x2 = 0 then
      (f_X9_ran 11 ν).bind (fun r_2 =>
        if inb x1 7 = true then
          (f_X9_runsBy 10 x1 (r_2.1 54 x1.toNatClampNeg) x3 r_2).bind (fun r_5 =>
            some (r_5.1 * 2, r_5.2))
        else none)
    else
    if x2 = 2 then
      (f_X9_ran 30 ν).bind (fun r_8 =>
        (f_X9_hidesBy n x1 0 x3 r_8).bind (fun r_10 =>
          some (r_10.1 * 3, r_10.2)))
    else
    if x2 = 6 then
      (f_X9_ran 71 ν).bind (fun r_13 =>
        if inb x1 7 = true then
          (f_X9_hidesBy n x1 3 (x3 - (r_13.1 55 x1.toNatClampNeg)) r_13).bind (fun r_16 =>
            some (r_16.1, r_16.2))
        else none)
    else
    (f_X9_above x2 ν).bind (fun r_18 =>
      (f_X9_hidesBy n x1 r_18.1 x3 r_18.2).bind (fun r_20 =>
        some (r_20.1, r_20.2)))
theorem me_X9_hidesBy : g_me yX9_hidesBy cX9_hidesBy 4 ((Option.some .int)) 3 := ⟨tw_1360, tw_79, ⟨by decide +kernel, by decide +kernel, by decide +kernel⟩, by decide⟩
set_option maxRecDepth 20000 in
set_option maxHeartbeats 2000000 in
theorem m_X9_hidesBy {X : gX} {ad : Nat → Nat} : ∀ (n : Nat) (x1 : Int32) (x2 : Int32) (x3 : Int32) (ν : gN) (r : Int32 × gN) , f_X9_hidesBy n x1 x2 x3 ν = some r → h_ct X ad yX9_hidesBy cX9_hidesBy 4 ((Option.some .int)) (13 + n) [.ref (ad 53), .int x1, .int x2, .int x3] ν (some (.int r.1), r.2) := by
  intro n
  induction n with
  | zero => intro x1 x2 x3 ν r h; rw [f_X9_hidesBy] at h; exact q_n h
  | succ n ih =>
    intro x1 x2 x3 ν r h
    rw [f_X9_hidesBy] at h
    refine h_ct_of (l := [(0, .ref (ad 53)), (1, .int x1), (2, .int x2), (3, .int x3)]) (by decide) (Nat.le_of_ble_eq_true rfl) rfl ?_
    refine go_iload_n rfl 2 rfl dX9_hidesBy_0 ?_
    by_cases hk_1 : x2 = 0
    · replace h := q_t h hk_1
      refine h_lkT (tgt := 36) (off := 35) hk_1 dX9_hidesBy_1 (by decide) rfl rfl ?_
      refine go_aload_n rfl 0 rfl dX9_hidesBy_36 ?_
      refine go_bipush kz_bipush_11 dX9_hidesBy_37 ?_
      obtain ⟨r_2, h_3, h⟩ := q_b h
      refine h_callVv (st := []) [.int 11] (m_X9_ran h_3) me_X9_ran (g_recv cl7.1 rfl) tw_1353 tw_1355 tw_68 (hdd_of (by omega)) ⟨Nat.zero_le _, Nat.zero_le _⟩ rfl rfl (Nat.le_of_ble_eq_true rfl) dX9_hidesBy_39 ?_
      refine go_aload_n rfl 0 rfl dX9_hidesBy_42 ?_
      refine go_iload_n rfl 1 rfl dX9_hidesBy_43 ?_
      refine go_aload_n rfl 0 rfl dX9_hidesBy_44 ?_
      refine h_getr 1 cl7 rfl (by decide) tw_913 54 rfl dX9_hidesBy_45 ?_
      refine go_iload_n rfl 1 rfl dX9_hidesBy_48 ?_
      obtain ⟨hg_4, h⟩ := q_g h
      refine h_iald 7 rfl hg_4 dX9_hidesBy_49 ?_
      refine go_iload_n rfl 3 rfl dX9_hidesBy_50 ?_
      obtain ⟨r_5, h_6, h⟩ := q_b h
      refine h_callVi (st := []) [.int x1, .int (r_2.1 54 x1.toNatClampNeg), .int x3] (m_X9_runsBy 10 _ _ _ _ _ h_6) me_X9_runsBy (g_recv cl7.1 rfl) tw_1349 tw_1351 tw_67 (hdd_of (by omega)) ⟨Nat.zero_le _, Nat.zero_le _⟩ rfl rfl (Nat.le_of_ble_eq_true rfl) dX9_hidesBy_51 ?_
      refine go_iconst kz_iconst_2 dX9_hidesBy_54 ?_
      refine go_imul dX9_hidesBy_55 ?_
      exact h_iret h dX9_hidesBy_56 rfl
    replace h := q_f h hk_1
    by_cases hk_7 : x2 = 2
    · replace h := q_t h hk_7
      refine h_lkT (tgt := 57) (off := 56) hk_7 dX9_hidesBy_1 (by decide) rfl rfl ?_
      refine go_aload_n rfl 0 rfl dX9_hidesBy_57 ?_
      refine go_bipush kz_bipush_30 dX9_hidesBy_58 ?_
      obtain ⟨r_8, h_9, h⟩ := q_b h
      refine h_callVv (st := []) [.int 30] (m_X9_ran h_9) me_X9_ran (g_recv cl7.1 rfl) tw_1353 tw_1355 tw_68 (hdd_of (by omega)) ⟨Nat.zero_le _, Nat.zero_le _⟩ rfl rfl (Nat.le_of_ble_eq_true rfl) dX9_hidesBy_60 ?_
      refine go_aload_n rfl 0 rfl dX9_hidesBy_63 ?_
      refine go_iload_n rfl 1 rfl dX9_hidesBy_64 ?_
      refine go_iconst kz_iconst_0 dX9_hidesBy_65 ?_
      refine go_iload_n rfl 3 rfl dX9_hidesBy_66 ?_
      obtain ⟨r_10, h_11, h⟩ := q_b h
      refine h_callVi (st := []) [.int x1, .int 0, .int x3] (ih _ _ _ _ _ h_11) me_X9_hidesBy (g_recv cl7.1 rfl) tw_1357 tw_1359 tw_69 (hdd_of (by omega)) ⟨Nat.zero_le _, Nat.zero_le _⟩ rfl rfl (Nat.le_of_ble_eq_true rfl) dX9_hidesBy_67 ?_
      refine go_iconst kz_iconst_3 dX9_hidesBy_70 ?_
      refine go_imul dX9_hidesBy_71 ?_
      exact h_iret h dX9_hidesBy_72 rfl
    replace h := q_f h hk_7
    by_cases hk_12 : x2 = 6
    · replace h := q_t h hk_12
      refine h_lkT (tgt := 73) (off := 72) hk_12 dX9_hidesBy_1 (by decide) rfl rfl ?_
      refine go_aload_n rfl 0 rfl dX9_hidesBy_73 ?_
      refine go_bipush kz_bipush_71 dX9_hidesBy_74 ?_
      obtain ⟨r_13, h_14, h⟩ := q_b h
      refine h_callVv (st := []) [.int 71] (m_X9_ran h_14) me_X9_ran (g_recv cl7.1 rfl) tw_1353 tw_1355 tw_68 (hdd_of (by omega)) ⟨Nat.zero_le _, Nat.zero_le _⟩ rfl rfl (Nat.le_of_ble_eq_true rfl) dX9_hidesBy_76 ?_
      refine go_aload_n rfl 0 rfl dX9_hidesBy_79 ?_
      refine go_iload_n rfl 1 rfl dX9_hidesBy_80 ?_
      refine go_iconst kz_iconst_3 dX9_hidesBy_81 ?_
      refine go_iload_n rfl 3 rfl dX9_hidesBy_82 ?_
      refine go_aload_n rfl 0 rfl dX9_hidesBy_83 ?_
      refine h_getr 2 cl7 rfl (by decide) tw_914 55 rfl dX9_hidesBy_84 ?_
      refine go_iload_n rfl 1 rfl dX9_hidesBy_87 ?_
      obtain ⟨hg_15, h⟩ := q_g h
      refine h_iald 7 rfl hg_15 dX9_hidesBy_88 ?_
      refine go_isub dX9_hidesBy_89 ?_
      obtain ⟨r_16, h_17, h⟩ := q_b h
      refine h_callVi (st := []) [.int x1, .int 3, .int (x3 - (r_13.1 55 x1.toNatClampNeg))] (ih _ _ _ _ _ h_17) me_X9_hidesBy (g_recv cl7.1 rfl) tw_1357 tw_1359 tw_69 (hdd_of (by omega)) ⟨Nat.zero_le _, Nat.zero_le _⟩ rfl rfl (Nat.le_of_ble_eq_true rfl) dX9_hidesBy_90 ?_
      exact h_iret h dX9_hidesBy_93 rfl
    replace h := q_f h hk_12
    refine go_lookup (tgt := 94) (off := 93) dX9_hidesBy_1 (by decide) ((lv_osw hk_1 (by decide)).trans ((lv_osw hk_7 (by decide)).trans ((lv_osw hk_12 (by decide)).trans rfl))) rfl ?_
    refine go_aload_n rfl 0 rfl dX9_hidesBy_94 ?_
    refine go_iload_n rfl 1 rfl dX9_hidesBy_95 ?_
    refine go_iload_n rfl 2 rfl dX9_hidesBy_96 ?_
    obtain ⟨r_18, h_19, h⟩ := q_b h
    refine h_callSi (st := [.int x1, .ref (ad 53)]) [.int x2] (m_X9_above h_19) me_X9_above tw_1051 tw_1052 (hdd_of (by omega)) ⟨Nat.zero_le _, Nat.zero_le _⟩ rfl rfl (Nat.le_of_ble_eq_true rfl) dX9_hidesBy_97 ?_
    refine go_iload_n rfl 3 rfl dX9_hidesBy_100 ?_
    obtain ⟨r_20, h_21, h⟩ := q_b h
    refine h_callVi (st := []) [.int x1, .int r_18.1, .int x3] (ih _ _ _ _ _ h_21) me_X9_hidesBy (g_recv cl7.1 rfl) tw_1357 tw_1359 tw_69 (hdd_of (by omega)) ⟨Nat.zero_le _, Nat.zero_le _⟩ rfl rfl (Nat.le_of_ble_eq_true rfl) dX9_hidesBy_101 ?_
    exact h_iret h dX9_hidesBy_104 rfl
noncomputable def f_X9_within (x0 : Int32) (x1 : Int32) (x2 : Int32) (ν : gN) : Option (Int32 × gN) :=
  if x0 < x1 then
    some (0, ν)
  else
    if x2 < x0 then
      some (0, ν)
    else
      some (1, ν)
theorem me_X9_within : g_me yX9_within cX9_within 3 ((Option.some .boolean)) 3 := ⟨tw_1007, tw_79, ⟨by decide +kernel, by decide +kernel, by decide +kernel⟩, by decide⟩
set_option maxRecDepth 20000 in
set_option maxHeartbeats 2000000 in
theorem m_X9_within {X : gX} {ad : Nat → Nat} {x0 : Int32} {x1 : Int32} {x2 : Int32} {ν : gN} {r : Int32 × gN}  (h : f_X9_within x0 x1 x2 ν = some r) : h_ct X ad yX9_within cX9_within 3 ((Option.some .boolean)) 1 [.int x0, .int x1, .int x2] ν (some (.int r.1), r.2) := by
  rw [f_X9_within] at h
  refine h_ct_of (l := [(0, .int x0), (1, .int x1), (2, .int x2)]) (by decide) (Nat.le_of_ble_eq_true rfl) rfl ?_
  refine go_iload_n rfl 0 rfl dX9_within_0 ?_
  refine go_iload_n rfl 1 rfl dX9_within_1 ?_
  refine go_icmp_lt (tgt := 14) dX9_within_2 rfl (fun hc => ?_) (fun hc => ?_)
  · replace h := q_t h hc
    refine go_iconst kz_iconst_0 dX9_within_14 ?_
    exact h_zret rfl h dX9_within_15 rfl
  · replace h := q_f h hc
    refine go_iload_n rfl 0 rfl dX9_within_5 ?_
    refine go_iload_n rfl 2 rfl dX9_within_6 ?_
    refine go_icmp_gt (tgt := 14) dX9_within_7 rfl (fun hc => ?_) (fun hc => ?_)
    · replace h := q_t h hc
      refine go_iconst kz_iconst_0 dX9_within_14 ?_
      exact h_zret rfl h dX9_within_15 rfl
    · replace h := q_f h hc
      refine go_iconst kz_iconst_1 dX9_within_10 ?_
      refine go_goto (tgt := 15) dX9_within_11 rfl ?_
      exact h_zret rfl h dX9_within_15 rfl
noncomputable def f_X9_isOne (x1 : Int32) (ν : gN) : Option (Int32 × gN) :=
  (f_X9_within x1 0 ((ν.1 53 0) - 1) ν).bind (fun r_1 =>
    if zb r_1.1 = true then
      some (r_1.1, r_1.2)
    else none)
theorem me_X9_isOne : g_me yX9_isOne cX9_isOne 2 ((Option.some .boolean)) 1 := ⟨tw_1039, tw_79, ⟨by decide +kernel, by decide +kernel, by decide +kernel⟩, by decide⟩
set_option maxRecDepth 20000 in
set_option maxHeartbeats 2000000 in
theorem m_X9_isOne {X : gX} {ad : Nat → Nat} {x1 : Int32} {ν : gN} {r : Int32 × gN}  (h : f_X9_isOne x1 ν = some r) : h_ct X ad yX9_isOne cX9_isOne 2 ((Option.some .boolean)) 2 [.ref (ad 53), .int x1] ν (some (.int r.1), r.2) := by
  rw [f_X9_isOne] at h
  refine h_ct_of (l := [(0, .ref (ad 53)), (1, .int x1)]) (by decide) (Nat.le_of_ble_eq_true rfl) rfl ?_
  refine go_iload_n rfl 1 rfl dX9_isOne_0 ?_
  refine go_iconst kz_iconst_0 dX9_isOne_1 ?_
  refine go_aload_n rfl 0 rfl dX9_isOne_2 ?_
  refine h_geti 0 cl7 rfl (by decide) tw_912 rfl dX9_isOne_3 ?_
  refine go_iconst kz_iconst_1 dX9_isOne_6 ?_
  refine go_isub dX9_isOne_7 ?_
  obtain ⟨r_1, h_2, h⟩ := q_b h
  refine h_callSi (st := []) [.int x1, .int 0, .int ((ν.1 53 0) - 1)] (m_X9_within h_2) me_X9_within tw_1005 tw_1006 (hdd_of (by decide)) ⟨Nat.zero_le _, Nat.zero_le _⟩ rfl rfl (Nat.le_of_ble_eq_true rfl) dX9_isOne_8 ?_
  obtain ⟨hg_3, h⟩ := q_g h
  exact h_zret hg_3 h dX9_isOne_11 rfl
noncomputable def f_X9_sitsBy : Nat → Int32 → Int32 → Int32 → gN → Option (Int32 × gN)
  | 0, _, _, _, _ => none
  | n + 1, x1, x2, x3, ν =>
    if x2 = 0 then
      (f_X9_ran 12 ν).bind (fun r_2 =>
        if inb x1 7 = true then
          (f_X9_hidesBy 10 x1 (r_2.1 54 x1.toNatClampNeg) x3 r_2).bind (fun r_5 =>
            if inb x1 7 = true then
              if inb x1 7 = true then
                (f_X9_runsBy 10 x1 (r_5.2.1 54 x1.toNatClampNeg) (x3 - (r_5.2.1 55 x1.toNatClampNeg)) r_5.2).bind (fun r_9 =>
                  some (r_5.1 ^^^ r_9.1, r_9.2))
              else none
            else none)
        else none)
    else
    if x2 = 4 then
      (f_X9_ran 50 ν).bind (fun r_12 =>
        (f_X9_sitsBy n x1 0 x3 r_12).bind (fun r_14 =>
          some (-r_14.1, r_14.2)))
    else
    if x2 = 5 then
      (f_X9_ran 60 ν).bind (fun r_17 =>
        (f_X9_sitsBy n x1 2 x3 r_17).bind (fun r_19 =>
          some (r_19.1 ^^^ 5, r_19.2)))
    else
    (f_X9_above x2 ν).bind (fun r_21 =>
      (f_X9_sitsBy n x1 r_21.1 x3 r_21.2).bind (fun r_23 =>
        some (r_23.1, r_23.2)))
theorem me_X9_sitsBy : g_me yX9_sitsBy cX9_sitsBy 5 ((Option.some .int)) 3 := ⟨tw_1364, tw_79, ⟨by decide +kernel, by decide +kernel, by decide +kernel⟩, by decide⟩
set_option maxRecDepth 20000 in
set_option maxHeartbeats 2000000 in
theorem m_X9_sitsBy {X : gX} {ad : Nat → Nat} : ∀ (n : Nat) (x1 : Int32) (x2 : Int32) (x3 : Int32) (ν : gN) (r : Int32 × gN) , f_X9_sitsBy n x1 x2 x3 ν = some r → h_ct X ad yX9_sitsBy cX9_sitsBy 5 ((Option.some .int)) (24 + n) [.ref (ad 53), .int x1, .int x2, .int x3] ν (some (.int r.1), r.2) := by
  intro n
  induction n with
  | zero => intro x1 x2 x3 ν r h; rw [f_X9_sitsBy] at h; exact q_n h
  | succ n ih =>
    intro x1 x2 x3 ν r h
    rw [f_X9_sitsBy] at h
    refine h_ct_of (l := [(0, .ref (ad 53)), (1, .int x1), (2, .int x2), (3, .int x3)]) (by decide) (Nat.le_of_ble_eq_true rfl) rfl ?_
    refine go_iload_n rfl 2 rfl dX9_sitsBy_0 ?_
    by_cases hk_1 : x2 = 0
    · replace h := q_t h hk_1
      refine h_lkT (tgt := 36) (off := 35) hk_1 dX9_sitsBy_1 (by decide) rfl rfl ?_
      refine go_aload_n rfl 0 rfl dX9_sitsBy_36 ?_
      refine go_bipush kz_bipush_12 dX9_sitsBy_37 ?_
      obtain ⟨r_2, h_3, h⟩ := q_b h
      refine h_callVv (st := []) [.int 12] (m_X9_ran h_3) me_X9_ran (g_recv cl7.1 rfl) tw_1353 tw_1355 tw_68 (hdd_of (by omega)) ⟨Nat.zero_le _, Nat.zero_le _⟩ rfl rfl (Nat.le_of_ble_eq_true rfl) dX9_sitsBy_39 ?_
      refine go_aload_n rfl 0 rfl dX9_sitsBy_42 ?_
      refine go_iload_n rfl 1 rfl dX9_sitsBy_43 ?_
      refine go_aload_n rfl 0 rfl dX9_sitsBy_44 ?_
      refine h_getr 1 cl7 rfl (by decide) tw_913 54 rfl dX9_sitsBy_45 ?_
      refine go_iload_n rfl 1 rfl dX9_sitsBy_48 ?_
      obtain ⟨hg_4, h⟩ := q_g h
      refine h_iald 7 rfl hg_4 dX9_sitsBy_49 ?_
      refine go_iload_n rfl 3 rfl dX9_sitsBy_50 ?_
      obtain ⟨r_5, h_6, h⟩ := q_b h
      refine h_callVi (st := []) [.int x1, .int (r_2.1 54 x1.toNatClampNeg), .int x3] (m_X9_hidesBy 10 _ _ _ _ _ h_6) me_X9_hidesBy (g_recv cl7.1 rfl) tw_1357 tw_1359 tw_69 (hdd_of (by omega)) ⟨Nat.zero_le _, Nat.zero_le _⟩ rfl rfl (Nat.le_of_ble_eq_true rfl) dX9_sitsBy_51 ?_
      refine go_istore (l' := [(4, .int r_5.1), (0, .ref (ad 53)), (1, .int x1), (2, .int x2), (3, .int x3)]) dX9_sitsBy_54 (by decide) rfl ?_
      refine go_iload 0 rfl dX9_sitsBy_56 ?_
      refine go_aload_n rfl 1 rfl dX9_sitsBy_58 ?_
      refine go_iload_n rfl 2 rfl dX9_sitsBy_59 ?_
      refine go_aload_n rfl 1 rfl dX9_sitsBy_60 ?_
      refine h_getr 1 cl7 rfl (by decide) tw_913 54 rfl dX9_sitsBy_61 ?_
      refine go_iload_n rfl 2 rfl dX9_sitsBy_64 ?_
      obtain ⟨hg_7, h⟩ := q_g h
      refine h_iald 7 rfl hg_7 dX9_sitsBy_65 ?_
      refine go_iload_n rfl 4 rfl dX9_sitsBy_66 ?_
      refine go_aload_n rfl 1 rfl dX9_sitsBy_67 ?_
      refine h_getr 2 cl7 rfl (by decide) tw_914 55 rfl dX9_sitsBy_68 ?_
      refine go_iload_n rfl 2 rfl dX9_sitsBy_71 ?_
      obtain ⟨hg_8, h⟩ := q_g h
      refine h_iald 7 rfl hg_8 dX9_sitsBy_72 ?_
      refine go_isub dX9_sitsBy_73 ?_
      obtain ⟨r_9, h_10, h⟩ := q_b h
      refine h_callVi (st := [.int r_5.1]) [.int x1, .int (r_5.2.1 54 x1.toNatClampNeg), .int (x3 - (r_5.2.1 55 x1.toNatClampNeg))] (m_X9_runsBy 10 _ _ _ _ _ h_10) me_X9_runsBy (g_recv cl7.1 rfl) tw_1349 tw_1351 tw_67 (hdd_of (by omega)) ⟨Nat.zero_le _, Nat.zero_le _⟩ rfl rfl (Nat.le_of_ble_eq_true rfl) dX9_sitsBy_74 ?_
      refine go_ixor dX9_sitsBy_77 ?_
      exact h_iret h dX9_sitsBy_78 rfl
    replace h := q_f h hk_1
    by_cases hk_11 : x2 = 4
    · replace h := q_t h hk_11
      refine h_lkT (tgt := 79) (off := 78) hk_11 dX9_sitsBy_1 (by decide) rfl rfl ?_
      refine go_aload_n rfl 0 rfl dX9_sitsBy_79 ?_
      refine go_bipush kz_bipush_50 dX9_sitsBy_80 ?_
      obtain ⟨r_12, h_13, h⟩ := q_b h
      refine h_callVv (st := []) [.int 50] (m_X9_ran h_13) me_X9_ran (g_recv cl7.1 rfl) tw_1353 tw_1355 tw_68 (hdd_of (by omega)) ⟨Nat.zero_le _, Nat.zero_le _⟩ rfl rfl (Nat.le_of_ble_eq_true rfl) dX9_sitsBy_82 ?_
      refine go_aload_n rfl 0 rfl dX9_sitsBy_85 ?_
      refine go_iload_n rfl 1 rfl dX9_sitsBy_86 ?_
      refine go_iconst kz_iconst_0 dX9_sitsBy_87 ?_
      refine go_iload_n rfl 3 rfl dX9_sitsBy_88 ?_
      obtain ⟨r_14, h_15, h⟩ := q_b h
      refine h_callVi (st := []) [.int x1, .int 0, .int x3] (ih _ _ _ _ _ h_15) me_X9_sitsBy (g_recv cl7.1 rfl) tw_1361 tw_1363 tw_70 (hdd_of (by omega)) ⟨Nat.zero_le _, Nat.zero_le _⟩ rfl rfl (Nat.le_of_ble_eq_true rfl) dX9_sitsBy_89 ?_
      refine go_ineg dX9_sitsBy_92 ?_
      exact h_iret h dX9_sitsBy_93 rfl
    replace h := q_f h hk_11
    by_cases hk_16 : x2 = 5
    · replace h := q_t h hk_16
      refine h_lkT (tgt := 94) (off := 93) hk_16 dX9_sitsBy_1 (by decide) rfl rfl ?_
      refine go_aload_n rfl 0 rfl dX9_sitsBy_94 ?_
      refine go_bipush kz_bipush_60 dX9_sitsBy_95 ?_
      obtain ⟨r_17, h_18, h⟩ := q_b h
      refine h_callVv (st := []) [.int 60] (m_X9_ran h_18) me_X9_ran (g_recv cl7.1 rfl) tw_1353 tw_1355 tw_68 (hdd_of (by omega)) ⟨Nat.zero_le _, Nat.zero_le _⟩ rfl rfl (Nat.le_of_ble_eq_true rfl) dX9_sitsBy_97 ?_
      refine go_aload_n rfl 0 rfl dX9_sitsBy_100 ?_
      refine go_iload_n rfl 1 rfl dX9_sitsBy_101 ?_
      refine go_iconst kz_iconst_2 dX9_sitsBy_102 ?_
      refine go_iload_n rfl 3 rfl dX9_sitsBy_103 ?_
      obtain ⟨r_19, h_20, h⟩ := q_b h
      refine h_callVi (st := []) [.int x1, .int 2, .int x3] (ih _ _ _ _ _ h_20) me_X9_sitsBy (g_recv cl7.1 rfl) tw_1361 tw_1363 tw_70 (hdd_of (by omega)) ⟨Nat.zero_le _, Nat.zero_le _⟩ rfl rfl (Nat.le_of_ble_eq_true rfl) dX9_sitsBy_104 ?_
      refine go_iconst kz_iconst_5 dX9_sitsBy_107 ?_
      refine go_ixor dX9_sitsBy_108 ?_
      exact h_iret h dX9_sitsBy_109 rfl
    replace h := q_f h hk_16
    refine go_lookup (tgt := 110) (off := 109) dX9_sitsBy_1 (by decide) ((lv_osw hk_1 (by decide)).trans ((lv_osw hk_11 (by decide)).trans ((lv_osw hk_16 (by decide)).trans rfl))) rfl ?_
    refine go_aload_n rfl 0 rfl dX9_sitsBy_110 ?_
    refine go_iload_n rfl 1 rfl dX9_sitsBy_111 ?_
    refine go_iload_n rfl 2 rfl dX9_sitsBy_112 ?_
    obtain ⟨r_21, h_22, h⟩ := q_b h
    refine h_callSi (st := [.int x1, .ref (ad 53)]) [.int x2] (m_X9_above h_22) me_X9_above tw_1051 tw_1052 (hdd_of (by omega)) ⟨Nat.zero_le _, Nat.zero_le _⟩ rfl rfl (Nat.le_of_ble_eq_true rfl) dX9_sitsBy_113 ?_
    refine go_iload_n rfl 3 rfl dX9_sitsBy_116 ?_
    obtain ⟨r_23, h_24, h⟩ := q_b h
    refine h_callVi (st := []) [.int x1, .int r_21.1, .int x3] (ih _ _ _ _ _ h_24) me_X9_sitsBy (g_recv cl7.1 rfl) tw_1361 tw_1363 tw_70 (hdd_of (by omega)) ⟨Nat.zero_le _, Nat.zero_le _⟩ rfl rfl (Nat.le_of_ble_eq_true rfl) dX9_sitsBy_117 ?_
    exact h_iret h dX9_sitsBy_120 rfl
noncomputable def f_X9_act (x1 : Int32) (x2 : Int32) (x3 : Int32) (ν : gN) : Option (Int32 × gN) :=
  qL (nWI ν 53 18 0) (fun ν_1 =>
    (f_X9_isOne x1 ν_1).bind (fun r_3 =>
      if r_3.1 = 0 then
        some (0, r_3.2)
      else
        (f_X9_within x2 0 2 r_3.2).bind (fun r_5 =>
          if r_5.1 = 0 then
            some (0, r_5.2)
          else
            if inb x1 7 = true then
              if x2 = 0 then
                (f_X9_runsBy 10 x1 (r_5.2.1 54 x1.toNatClampNeg) x3 r_5.2).bind (fun r_12 =>
                  some (r_12.1, r_12.2))
              else
                if x2 = 1 then
                  (f_X9_hidesBy 10 x1 (r_5.2.1 54 x1.toNatClampNeg) x3 r_5.2).bind (fun r_10 =>
                    some (r_10.1, r_10.2))
                else
                  (f_X9_sitsBy 10 x1 (r_5.2.1 54 x1.toNatClampNeg) x3 r_5.2).bind (fun r_8 =>
                    some (r_8.1, r_8.2))
            else none)))
theorem me_X9_act : g_me yX9_act cX9_act 5 ((Option.some .int)) 3 := ⟨tw_1348, tw_79, ⟨by decide +kernel, by decide +kernel, by decide +kernel⟩, by decide⟩
set_option maxRecDepth 20000 in
set_option maxHeartbeats 2000000 in
theorem m_X9_act {X : gX} {ad : Nat → Nat} {x1 : Int32} {x2 : Int32} {x3 : Int32} {ν : gN} {r : Int32 × gN}  (h : f_X9_act x1 x2 x3 ν = some r) : h_ct X ad yX9_act cX9_act 5 ((Option.some .int)) 35 [.ref (ad 53), .int x1, .int x2, .int x3] ν (some (.int r.1), r.2) := by
  rw [f_X9_act] at h
  refine h_ct_of (l := [(0, .ref (ad 53)), (1, .int x1), (2, .int x2), (3, .int x3)]) (by decide) (Nat.le_of_ble_eq_true rfl) rfl ?_
  refine go_aload_n rfl 0 rfl dX9_act_0 ?_
  refine go_iconst kz_iconst_0 dX9_act_1 ?_
  obtain ⟨ν_1, e_2, h⟩ := q_l h
  refine h_puti 18 cl7 rfl (by decide) tw_930 rfl rfl e_2 dX9_act_2 ?_
  refine go_aload_n rfl 0 rfl dX9_act_5 ?_
  refine go_iload_n rfl 1 rfl dX9_act_6 ?_
  obtain ⟨r_3, h_4, h⟩ := q_b h
  refine h_callVi (st := []) [.int x1] (m_X9_isOne h_4) me_X9_isOne (g_recv cl7.1 rfl) tw_1036 tw_1038 tw_26 (hdd_of (by decide)) ⟨Nat.zero_le _, Nat.zero_le _⟩ rfl rfl (Nat.le_of_ble_eq_true rfl) dX9_act_7 ?_
  refine go_if_eq (tgt := 22) dX9_act_10 rfl (fun hc => ?_) (fun hc => ?_)
  · replace h := q_t h hc
    refine go_iconst kz_iconst_0 dX9_act_22 ?_
    exact h_iret h dX9_act_23 rfl
  · replace h := q_f h hc
    refine go_iload_n rfl 2 rfl dX9_act_13 ?_
    refine go_iconst kz_iconst_0 dX9_act_14 ?_
    refine go_iconst kz_iconst_2 dX9_act_15 ?_
    obtain ⟨r_5, h_6, h⟩ := q_b h
    refine h_callSi (st := []) [.int x2, .int 0, .int 2] (m_X9_within h_6) me_X9_within tw_1005 tw_1006 (hdd_of (by decide)) ⟨Nat.zero_le _, Nat.zero_le _⟩ rfl rfl (Nat.le_of_ble_eq_true rfl) dX9_act_16 ?_
    refine go_if_ne (tgt := 24) dX9_act_19 rfl (fun hc => ?_) (fun hc => ?_)
    · replace h := q_f h hc
      refine go_aload_n rfl 0 rfl dX9_act_24 ?_
      refine h_getr 1 cl7 rfl (by decide) tw_913 54 rfl dX9_act_25 ?_
      refine go_iload_n rfl 1 rfl dX9_act_28 ?_
      obtain ⟨hg_7, h⟩ := q_g h
      refine h_iald 7 rfl hg_7 dX9_act_29 ?_
      refine go_istore (l' := [(4, .int (r_5.2.1 54 x1.toNatClampNeg)), (0, .ref (ad 53)), (1, .int x1), (2, .int x2), (3, .int x3)]) dX9_act_30 (by decide) rfl ?_
      refine go_iload_n rfl 3 rfl dX9_act_32 ?_
      refine go_if_ne (tgt := 47) dX9_act_33 rfl (fun hc => ?_) (fun hc => ?_)
      · replace h := q_f h hc
        refine go_iload_n rfl 3 rfl dX9_act_47 ?_
        refine go_iconst kz_iconst_1 dX9_act_48 ?_
        refine go_icmp_ne (tgt := 63) dX9_act_49 rfl (fun hc => ?_) (fun hc => ?_)
        · replace h := q_f h hc
          refine go_aload_n rfl 1 rfl dX9_act_63 ?_
          refine go_iload_n rfl 2 rfl dX9_act_64 ?_
          refine go_iload 0 rfl dX9_act_65 ?_
          refine go_iload_n rfl 4 rfl dX9_act_67 ?_
          obtain ⟨r_8, h_9, h⟩ := q_b h
          refine h_callVi (st := []) [.int x1, .int (r_5.2.1 54 x1.toNatClampNeg), .int x3] (m_X9_sitsBy 10 _ _ _ _ _ h_9) me_X9_sitsBy (g_recv cl7.1 rfl) tw_1361 tw_1363 tw_70 (hdd_of (by decide)) ⟨Nat.zero_le _, Nat.zero_le _⟩ rfl rfl (Nat.le_of_ble_eq_true rfl) dX9_act_68 ?_
          exact h_iret h dX9_act_71 rfl
        · replace h := q_t h hc
          refine go_aload_n rfl 1 rfl dX9_act_52 ?_
          refine go_iload_n rfl 2 rfl dX9_act_53 ?_
          refine go_iload 0 rfl dX9_act_54 ?_
          refine go_iload_n rfl 4 rfl dX9_act_56 ?_
          obtain ⟨r_10, h_11, h⟩ := q_b h
          refine h_callVi (st := []) [.int x1, .int (r_5.2.1 54 x1.toNatClampNeg), .int x3] (m_X9_hidesBy 10 _ _ _ _ _ h_11) me_X9_hidesBy (g_recv cl7.1 rfl) tw_1357 tw_1359 tw_69 (hdd_of (by decide)) ⟨Nat.zero_le _, Nat.zero_le _⟩ rfl rfl (Nat.le_of_ble_eq_true rfl) dX9_act_57 ?_
          refine go_goto (tgt := 71) dX9_act_60 rfl ?_
          exact h_iret h dX9_act_71 rfl
      · replace h := q_t h hc
        refine go_aload_n rfl 1 rfl dX9_act_36 ?_
        refine go_iload_n rfl 2 rfl dX9_act_37 ?_
        refine go_iload 0 rfl dX9_act_38 ?_
        refine go_iload_n rfl 4 rfl dX9_act_40 ?_
        obtain ⟨r_12, h_13, h⟩ := q_b h
        refine h_callVi (st := []) [.int x1, .int (r_5.2.1 54 x1.toNatClampNeg), .int x3] (m_X9_runsBy 10 _ _ _ _ _ h_13) me_X9_runsBy (g_recv cl7.1 rfl) tw_1349 tw_1351 tw_67 (hdd_of (by decide)) ⟨Nat.zero_le _, Nat.zero_le _⟩ rfl rfl (Nat.le_of_ble_eq_true rfl) dX9_act_41 ?_
        refine go_goto (tgt := 71) dX9_act_44 rfl ?_
        exact h_iret h dX9_act_71 rfl
    · replace h := q_t h hc
      refine go_iconst kz_iconst_0 dX9_act_22 ?_
      exact h_iret h dX9_act_23 rfl
noncomputable def f_X9_fenced (x1 : Int32) (x2 : Int32) (ν : gN) : Option (gN) :=
  if inb x1 49 = true then
    if zb x2 = true then
      qL (nWI ν 60 x1.toNatClampNeg x2) (fun ν_2 =>
        qL (nWI ν_2 53 24 0) (fun ν_5 =>
          some ν_5))
    else none
  else none
theorem me_X9_fenced : g_me yX9_fenced cX9_fenced 3 (none) 2 := ⟨tw_1088, tw_79, ⟨by decide +kernel, by decide +kernel, by decide +kernel⟩, by decide⟩
set_option maxRecDepth 20000 in
set_option maxHeartbeats 2000000 in
theorem m_X9_fenced {X : gX} {ad : Nat → Nat} {x1 : Int32} {x2 : Int32} {ν : gN} {r : gN}  (h : f_X9_fenced x1 x2 ν = some r) : h_ct X ad yX9_fenced cX9_fenced 3 (none) 1 [.ref (ad 53), .int x1, .int x2] ν (none, r) := by
  rw [f_X9_fenced] at h
  refine h_ct_of (l := [(0, .ref (ad 53)), (1, .int x1), (2, .int x2)]) (by decide) (Nat.le_of_ble_eq_true rfl) rfl ?_
  refine go_aload_n rfl 0 rfl dX9_fenced_0 ?_
  refine h_getr 7 cl7 rfl (by decide) tw_919 60 rfl dX9_fenced_1 ?_
  refine go_iload_n rfl 1 rfl dX9_fenced_4 ?_
  refine go_iload_n rfl 2 rfl dX9_fenced_5 ?_
  obtain ⟨hg_1, h⟩ := q_g h
  obtain ⟨hg_4, h⟩ := q_g h
  obtain ⟨ν_2, e_3, h⟩ := q_l h
  refine h_zast 49 rfl hg_1 hg_4 e_3 dX9_fenced_6 ?_
  refine go_aload_n rfl 0 rfl dX9_fenced_7 ?_
  refine go_iconst kz_iconst_0 dX9_fenced_8 ?_
  obtain ⟨ν_5, e_6, h⟩ := q_l h
  refine h_putz 24 cl7 rfl (by decide) tw_936 rfl rfl rfl e_6 dX9_fenced_9 ?_
  exact h_vret h dX9_fenced_12 rfl
noncomputable def f_X9_again_L2 (y1 : Nat) (k83 : gN → Option (gN)) : Nat → Int32 → gN → Option (gN)
  | 0, _, _ => none
  | n + 1, y2, ν =>
    if 7 ≤ y2 then
      k83  ν
    else
      if inb y2 96 = true then
        if inb y2 7 = true then
          qL (nWI ν 54 y2.toNatClampNeg (ν.1 y1 y2.toNatClampNeg)) (fun ν_3 =>
            if inb (7 + y2) 96 = true then
              if inb y2 7 = true then
                qL (nWI ν_3 55 y2.toNatClampNeg (ν_3.1 y1 (7 + y2).toNatClampNeg)) (fun ν_7 =>
                  if inb (14 + y2) 96 = true then
                    if inb y2 7 = true then
                      qL (nWI ν_7 56 y2.toNatClampNeg (ν_7.1 y1 (14 + y2).toNatClampNeg)) (fun ν_11 =>
                        if inb (21 + y2) 96 = true then
                          if inb y2 7 = true then
                            qL (nWI ν_11 57 y2.toNatClampNeg (ν_11.1 y1 (21 + y2).toNatClampNeg)) (fun ν_15 =>
                              if inb (28 + y2) 96 = true then
                                if inb y2 7 = true then
                                  qL (nWI ν_15 58 y2.toNatClampNeg (ν_15.1 y1 (28 + y2).toNatClampNeg)) (fun ν_19 =>
                                    if inb (35 + y2) 96 = true then
                                      if inb y2 7 = true then
                                        qL (nWI ν_19 59 y2.toNatClampNeg (ν_19.1 y1 (35 + y2).toNatClampNeg)) (fun ν_23 =>
                                          f_X9_again_L2 y1 k83 n (y2 + 1) ν_23)
                                      else none
                                    else none)
                                else none
                              else none)
                          else none
                        else none)
                    else none
                  else none)
              else none
            else none)
        else none
      else none
noncomputable def f_X9_again_L85 (y1 : Nat) (k141 : gN → Option (gN)) : Nat → Int32 → gN → Option (gN)
  | 0, _, _ => none
  | n + 1, y2, ν =>
    if 49 ≤ y2 then
      k141  ν
    else
      if inb y2 49 = true then
        if inb (42 + y2) 96 = true then
          if (ν.1 y1 (42 + y2).toNatClampNeg) = 1 then
            if (ν.1 60 y2.toNatClampNeg) = 1 then
              f_X9_again_L85 y1 k141 n (y2 + 1) ν
            else
              if inb (42 + y2) 96 = true then
                if (ν.1 y1 (42 + y2).toNatClampNeg) = 1 then
                  (f_X9_fenced y2 1 ν).bind (fun r_36 =>
                    f_X9_again_L85 y1 k141 n (y2 + 1) r_36)
                else
                  (f_X9_fenced y2 0 ν).bind (fun r_34 =>
                    f_X9_again_L85 y1 k141 n (y2 + 1) r_34)
              else none
          else
            if (ν.1 60 y2.toNatClampNeg) = 0 then
              f_X9_again_L85 y1 k141 n (y2 + 1) ν
            else
              if inb (42 + y2) 96 = true then
                if (ν.1 y1 (42 + y2).toNatClampNeg) = 1 then
                  (f_X9_fenced y2 1 ν).bind (fun r_31 =>
                    f_X9_again_L85 y1 k141 n (y2 + 1) r_31)
                else
                  (f_X9_fenced y2 0 ν).bind (fun r_29 =>
                    f_X9_again_L85 y1 k141 n (y2 + 1) r_29)
              else none
        else none
      else none
noncomputable def f_X9_again_L143 (y1 : Nat) (k166 : gN → Option (gN)) : Nat → Int32 → gN → Option (gN)
  | 0, _, _ => none
  | n + 1, y2, ν =>
    if 4 ≤ y2 then
      k166  ν
    else
      if inb (91 + y2) 96 = true then
        if inb y2 4 = true then
          qL (nWI ν 61 y2.toNatClampNeg (ν.1 y1 (91 + y2).toNatClampNeg)) (fun ν_41 =>
            f_X9_again_L143 y1 k166 n (y2 + 1) ν_41)
        else none
      else none
noncomputable def f_X9_again (a1 : Nat) (ν : gN) : Option (gN) :=
  f_X9_again_L2 a1 (fun ν_25 =>
    f_X9_again_L85 a1 (fun ν_38 =>
      f_X9_again_L143 a1 (fun ν_43 =>
        if inb 95 96 = true then
          qL (nWI ν_43 53 0 (ν_43.1 a1 (95 : Int32).toNatClampNeg)) (fun ν_45 =>
            some ν_45)
        else none) FU 0 ν_38) FU 0 ν_25) FU 0 ν
theorem me_X9_again : g_me yX9_again cX9_again 3 (none) 1 := ⟨tw_1159, tw_79, ⟨by decide +kernel, by decide +kernel, by decide +kernel⟩, by decide⟩
set_option maxRecDepth 20000 in
set_option maxHeartbeats 2000000 in
theorem m_X9_again_L2 {X : gX} {ad : Nat → Nat} {y1 : Nat} {k83 : gN → Option (gN)} (hy1 : SH[y1]? = some (0, 96)) : ∀ (n : Nat) (y2 : Int32) (ν : gN) (r : gN), f_X9_again_L2 y1 k83 n y2 ν = some r → (∀ (ν1 : gN), k83 ν1 = some r → h_go X ad RX9 "again" cX9_again 3 (none) 2 (none, r) 83 [(0, .ref (ad 53)), (1, .ref (ad y1))] [] ν1) → h_go X ad RX9 "again" cX9_again 3 (none) 2 (none, r) 2 [(0, .ref (ad 53)), (1, .ref (ad y1)), (2, .int y2)] [] ν := by
  intro n
  induction n with
  | zero => intro y2 ν r h hk83; rw [f_X9_again_L2] at h; exact q_n h
  | succ n ih =>
    intro y2 ν r h hk83
    rw [f_X9_again_L2] at h
    refine go_iload_n rfl 2 rfl dX9_again_2 ?_
    refine go_bipush kz_bipush_7 dX9_again_3 ?_
    refine go_icmp_ge (tgt := 83) dX9_again_5 rfl (fun hc => ?_) (fun hc => ?_)
    · replace h := q_t h hc
      refine go_sub (l' := [(0, .ref (ad 53)), (1, .ref (ad y1))]) [0, 1] rfl ?_
      exact hk83  _ h
    · replace h := q_f h hc
      refine go_aload_n rfl 0 rfl dX9_again_8 ?_
      refine h_getr 1 cl7 rfl (by decide) tw_913 54 rfl dX9_again_9 ?_
      refine go_iload_n rfl 2 rfl dX9_again_12 ?_
      refine go_aload_n rfl 1 rfl dX9_again_13 ?_
      refine go_iload_n rfl 2 rfl dX9_again_14 ?_
      obtain ⟨hg_1, h⟩ := q_g h
      refine h_iald 96 hy1 hg_1 dX9_again_15 ?_
      obtain ⟨hg_2, h⟩ := q_g h
      obtain ⟨ν_3, e_4, h⟩ := q_l h
      refine h_iast 7 rfl hg_2 e_4 dX9_again_16 ?_
      refine go_aload_n rfl 0 rfl dX9_again_17 ?_
      refine h_getr 2 cl7 rfl (by decide) tw_914 55 rfl dX9_again_18 ?_
      refine go_iload_n rfl 2 rfl dX9_again_21 ?_
      refine go_aload_n rfl 1 rfl dX9_again_22 ?_
      refine go_bipush kz_bipush_7 dX9_again_23 ?_
      refine go_iload_n rfl 2 rfl dX9_again_25 ?_
      refine go_iadd dX9_again_26 ?_
      obtain ⟨hg_5, h⟩ := q_g h
      refine h_iald 96 hy1 hg_5 dX9_again_27 ?_
      obtain ⟨hg_6, h⟩ := q_g h
      obtain ⟨ν_7, e_8, h⟩ := q_l h
      refine h_iast 7 rfl hg_6 e_8 dX9_again_28 ?_
      refine go_aload_n rfl 0 rfl dX9_again_29 ?_
      refine h_getr 3 cl7 rfl (by decide) tw_915 56 rfl dX9_again_30 ?_
      refine go_iload_n rfl 2 rfl dX9_again_33 ?_
      refine go_aload_n rfl 1 rfl dX9_again_34 ?_
      refine go_bipush kz_bipush_14 dX9_again_35 ?_
      refine go_iload_n rfl 2 rfl dX9_again_37 ?_
      refine go_iadd dX9_again_38 ?_
      obtain ⟨hg_9, h⟩ := q_g h
      refine h_iald 96 hy1 hg_9 dX9_again_39 ?_
      obtain ⟨hg_10, h⟩ := q_g h
      obtain ⟨ν_11, e_12, h⟩ := q_l h
      refine h_iast 7 rfl hg_10 e_12 dX9_again_40 ?_
      refine go_aload_n rfl 0 rfl dX9_again_41 ?_
      refine h_getr 4 cl7 rfl (by decide) tw_916 57 rfl dX9_again_42 ?_
      refine go_iload_n rfl 2 rfl dX9_again_45 ?_
      refine go_aload_n rfl 1 rfl dX9_again_46 ?_
      refine go_bipush kz_bipush_21 dX9_again_47 ?_
      refine go_iload_n rfl 2 rfl dX9_again_49 ?_
      refine go_iadd dX9_again_50 ?_
      obtain ⟨hg_13, h⟩ := q_g h
      refine h_iald 96 hy1 hg_13 dX9_again_51 ?_
      obtain ⟨hg_14, h⟩ := q_g h
      obtain ⟨ν_15, e_16, h⟩ := q_l h
      refine h_iast 7 rfl hg_14 e_16 dX9_again_52 ?_
      refine go_aload_n rfl 0 rfl dX9_again_53 ?_
      refine h_getr 5 cl7 rfl (by decide) tw_917 58 rfl dX9_again_54 ?_
      refine go_iload_n rfl 2 rfl dX9_again_57 ?_
      refine go_aload_n rfl 1 rfl dX9_again_58 ?_
      refine go_bipush kz_bipush_28 dX9_again_59 ?_
      refine go_iload_n rfl 2 rfl dX9_again_61 ?_
      refine go_iadd dX9_again_62 ?_
      obtain ⟨hg_17, h⟩ := q_g h
      refine h_iald 96 hy1 hg_17 dX9_again_63 ?_
      obtain ⟨hg_18, h⟩ := q_g h
      obtain ⟨ν_19, e_20, h⟩ := q_l h
      refine h_iast 7 rfl hg_18 e_20 dX9_again_64 ?_
      refine go_aload_n rfl 0 rfl dX9_again_65 ?_
      refine h_getr 6 cl7 rfl (by decide) tw_918 59 rfl dX9_again_66 ?_
      refine go_iload_n rfl 2 rfl dX9_again_69 ?_
      refine go_aload_n rfl 1 rfl dX9_again_70 ?_
      refine go_bipush kz_bipush_35 dX9_again_71 ?_
      refine go_iload_n rfl 2 rfl dX9_again_73 ?_
      refine go_iadd dX9_again_74 ?_
      obtain ⟨hg_21, h⟩ := q_g h
      refine h_iald 96 hy1 hg_21 dX9_again_75 ?_
      obtain ⟨hg_22, h⟩ := q_g h
      obtain ⟨ν_23, e_24, h⟩ := q_l h
      refine h_iast 7 rfl hg_22 e_24 dX9_again_76 ?_
      refine h_iinc (l' := [(2, .int (y2 + 1)), (0, .ref (ad 53)), (1, .ref (ad y1))]) dX9_again_77 2 rfl kz_iconst_1 (by decide) rfl ?_
      refine go_goto (tgt := 2) dX9_again_80 rfl ?_
      refine go_sub (l' := [(0, .ref (ad 53)), (1, .ref (ad y1)), (2, .int (y2 + 1))]) [1, 2, 0] rfl ?_
      exact ih _ _ _ h hk83
set_option maxRecDepth 20000 in
set_option maxHeartbeats 2000000 in
theorem m_X9_again_L85 {X : gX} {ad : Nat → Nat} {y1 : Nat} {k141 : gN → Option (gN)} (hy1 : SH[y1]? = some (0, 96)) : ∀ (n : Nat) (y2 : Int32) (ν : gN) (r : gN), f_X9_again_L85 y1 k141 n y2 ν = some r → (∀ (ν1 : gN), k141 ν1 = some r → h_go X ad RX9 "again" cX9_again 3 (none) 2 (none, r) 141 [(0, .ref (ad 53)), (1, .ref (ad y1))] [] ν1) → h_go X ad RX9 "again" cX9_again 3 (none) 2 (none, r) 85 [(0, .ref (ad 53)), (1, .ref (ad y1)), (2, .int y2)] [] ν := by
  intro n
  induction n with
  | zero => intro y2 ν r h hk141; rw [f_X9_again_L85] at h; exact q_n h
  | succ n ih =>
    intro y2 ν r h hk141
    rw [f_X9_again_L85] at h
    refine go_iload_n rfl 2 rfl dX9_again_85 ?_
    refine go_bipush kz_bipush_49 dX9_again_86 ?_
    refine go_icmp_ge (tgt := 141) dX9_again_88 rfl (fun hc => ?_) (fun hc => ?_)
    · replace h := q_t h hc
      refine go_sub (l' := [(0, .ref (ad 53)), (1, .ref (ad y1))]) [0, 1] rfl ?_
      exact hk141  _ h
    · replace h := q_f h hc
      refine go_aload_n rfl 0 rfl dX9_again_91 ?_
      refine h_getr 7 cl7 rfl (by decide) tw_919 60 rfl dX9_again_92 ?_
      refine go_iload_n rfl 2 rfl dX9_again_95 ?_
      obtain ⟨hg_26, h⟩ := q_g h
      refine h_zald 49 rfl hg_26 dX9_again_96 ?_
      refine go_aload_n rfl 1 rfl dX9_again_97 ?_
      refine go_bipush kz_bipush_42 dX9_again_98 ?_
      refine go_iload_n rfl 2 rfl dX9_again_100 ?_
      refine go_iadd dX9_again_101 ?_
      obtain ⟨hg_27, h⟩ := q_g h
      refine h_iald 96 hy1 hg_27 dX9_again_102 ?_
      refine go_iconst kz_iconst_1 dX9_again_103 ?_
      refine go_icmp_ne (tgt := 111) dX9_again_104 rfl (fun hc => ?_) (fun hc => ?_)
      · replace h := q_f h hc
        refine go_iconst kz_iconst_0 dX9_again_111 ?_
        refine go_icmp_eq (tgt := 135) dX9_again_112 rfl (fun hc => ?_) (fun hc => ?_)
        · replace h := q_t h hc
          refine h_iinc (l' := [(2, .int (y2 + 1)), (0, .ref (ad 53)), (1, .ref (ad y1))]) dX9_again_135 2 rfl kz_iconst_1 (by decide) rfl ?_
          refine go_goto (tgt := 85) dX9_again_138 rfl ?_
          refine go_sub (l' := [(0, .ref (ad 53)), (1, .ref (ad y1)), (2, .int (y2 + 1))]) [1, 2, 0] rfl ?_
          exact ih _ _ _ h hk141
        · replace h := q_f h hc
          refine go_aload_n rfl 0 rfl dX9_again_115 ?_
          refine go_iload_n rfl 2 rfl dX9_again_116 ?_
          refine go_aload_n rfl 1 rfl dX9_again_117 ?_
          refine go_bipush kz_bipush_42 dX9_again_118 ?_
          refine go_iload_n rfl 2 rfl dX9_again_120 ?_
          refine go_iadd dX9_again_121 ?_
          obtain ⟨hg_28, h⟩ := q_g h
          refine h_iald 96 hy1 hg_28 dX9_again_122 ?_
          refine go_iconst kz_iconst_1 dX9_again_123 ?_
          refine go_icmp_ne (tgt := 131) dX9_again_124 rfl (fun hc => ?_) (fun hc => ?_)
          · replace h := q_f h hc
            refine go_iconst kz_iconst_0 dX9_again_131 ?_
            obtain ⟨r_29, h_30, h⟩ := q_b h
            refine h_callVv (st := []) [.int y2, .int 0] (m_X9_fenced h_30) me_X9_fenced (g_recv cl7.1 rfl) tw_1085 tw_1087 tw_32 (hdd_of (by decide)) ⟨Nat.zero_le _, Nat.zero_le _⟩ rfl rfl (Nat.le_of_ble_eq_true rfl) dX9_again_132 ?_
            refine h_iinc (l' := [(2, .int (y2 + 1)), (0, .ref (ad 53)), (1, .ref (ad y1))]) dX9_again_135 2 rfl kz_iconst_1 (by decide) rfl ?_
            refine go_goto (tgt := 85) dX9_again_138 rfl ?_
            refine go_sub (l' := [(0, .ref (ad 53)), (1, .ref (ad y1)), (2, .int (y2 + 1))]) [1, 2, 0] rfl ?_
            exact ih _ _ _ h hk141
          · replace h := q_t h hc
            refine go_iconst kz_iconst_1 dX9_again_127 ?_
            refine go_goto (tgt := 132) dX9_again_128 rfl ?_
            obtain ⟨r_31, h_32, h⟩ := q_b h
            refine h_callVv (st := []) [.int y2, .int 1] (m_X9_fenced h_32) me_X9_fenced (g_recv cl7.1 rfl) tw_1085 tw_1087 tw_32 (hdd_of (by decide)) ⟨Nat.zero_le _, Nat.zero_le _⟩ rfl rfl (Nat.le_of_ble_eq_true rfl) dX9_again_132 ?_
            refine h_iinc (l' := [(2, .int (y2 + 1)), (0, .ref (ad 53)), (1, .ref (ad y1))]) dX9_again_135 2 rfl kz_iconst_1 (by decide) rfl ?_
            refine go_goto (tgt := 85) dX9_again_138 rfl ?_
            refine go_sub (l' := [(0, .ref (ad 53)), (1, .ref (ad y1)), (2, .int (y2 + 1))]) [1, 2, 0] rfl ?_
            exact ih _ _ _ h hk141
      · replace h := q_t h hc
        refine go_iconst kz_iconst_1 dX9_again_107 ?_
        refine go_goto (tgt := 112) dX9_again_108 rfl ?_
        refine go_icmp_eq (tgt := 135) dX9_again_112 rfl (fun hc => ?_) (fun hc => ?_)
        · replace h := q_t h hc
          refine h_iinc (l' := [(2, .int (y2 + 1)), (0, .ref (ad 53)), (1, .ref (ad y1))]) dX9_again_135 2 rfl kz_iconst_1 (by decide) rfl ?_
          refine go_goto (tgt := 85) dX9_again_138 rfl ?_
          refine go_sub (l' := [(0, .ref (ad 53)), (1, .ref (ad y1)), (2, .int (y2 + 1))]) [1, 2, 0] rfl ?_
          exact ih _ _ _ h hk141
        · replace h := q_f h hc
          refine go_aload_n rfl 0 rfl dX9_again_115 ?_
          refine go_iload_n rfl 2 rfl dX9_again_116 ?_
          refine go_aload_n rfl 1 rfl dX9_again_117 ?_
          refine go_bipush kz_bipush_42 dX9_again_118 ?_
          refine go_iload_n rfl 2 rfl dX9_again_120 ?_
          refine go_iadd dX9_again_121 ?_
          obtain ⟨hg_33, h⟩ := q_g h
          refine h_iald 96 hy1 hg_33 dX9_again_122 ?_
          refine go_iconst kz_iconst_1 dX9_again_123 ?_
          refine go_icmp_ne (tgt := 131) dX9_again_124 rfl (fun hc => ?_) (fun hc => ?_)
          · replace h := q_f h hc
            refine go_iconst kz_iconst_0 dX9_again_131 ?_
            obtain ⟨r_34, h_35, h⟩ := q_b h
            refine h_callVv (st := []) [.int y2, .int 0] (m_X9_fenced h_35) me_X9_fenced (g_recv cl7.1 rfl) tw_1085 tw_1087 tw_32 (hdd_of (by decide)) ⟨Nat.zero_le _, Nat.zero_le _⟩ rfl rfl (Nat.le_of_ble_eq_true rfl) dX9_again_132 ?_
            refine h_iinc (l' := [(2, .int (y2 + 1)), (0, .ref (ad 53)), (1, .ref (ad y1))]) dX9_again_135 2 rfl kz_iconst_1 (by decide) rfl ?_
            refine go_goto (tgt := 85) dX9_again_138 rfl ?_
            refine go_sub (l' := [(0, .ref (ad 53)), (1, .ref (ad y1)), (2, .int (y2 + 1))]) [1, 2, 0] rfl ?_
            exact ih _ _ _ h hk141
          · replace h := q_t h hc
            refine go_iconst kz_iconst_1 dX9_again_127 ?_
            refine go_goto (tgt := 132) dX9_again_128 rfl ?_
            obtain ⟨r_36, h_37, h⟩ := q_b h
            refine h_callVv (st := []) [.int y2, .int 1] (m_X9_fenced h_37) me_X9_fenced (g_recv cl7.1 rfl) tw_1085 tw_1087 tw_32 (hdd_of (by decide)) ⟨Nat.zero_le _, Nat.zero_le _⟩ rfl rfl (Nat.le_of_ble_eq_true rfl) dX9_again_132 ?_
            refine h_iinc (l' := [(2, .int (y2 + 1)), (0, .ref (ad 53)), (1, .ref (ad y1))]) dX9_again_135 2 rfl kz_iconst_1 (by decide) rfl ?_
            refine go_goto (tgt := 85) dX9_again_138 rfl ?_
            refine go_sub (l' := [(0, .ref (ad 53)), (1, .ref (ad y1)), (2, .int (y2 + 1))]) [1, 2, 0] rfl ?_
            exact ih _ _ _ h hk141
set_option maxRecDepth 20000 in
set_option maxHeartbeats 2000000 in
theorem m_X9_again_L143 {X : gX} {ad : Nat → Nat} {y1 : Nat} {k166 : gN → Option (gN)} (hy1 : SH[y1]? = some (0, 96)) : ∀ (n : Nat) (y2 : Int32) (ν : gN) (r : gN), f_X9_again_L143 y1 k166 n y2 ν = some r → (∀ (ν1 : gN), k166 ν1 = some r → h_go X ad RX9 "again" cX9_again 3 (none) 2 (none, r) 166 [(0, .ref (ad 53)), (1, .ref (ad y1))] [] ν1) → h_go X ad RX9 "again" cX9_again 3 (none) 2 (none, r) 143 [(0, .ref (ad 53)), (1, .ref (ad y1)), (2, .int y2)] [] ν := by
  intro n
  induction n with
  | zero => intro y2 ν r h hk166; rw [f_X9_again_L143] at h; exact q_n h
  | succ n ih =>
    intro y2 ν r h hk166
    rw [f_X9_again_L143] at h
    refine go_iload_n rfl 2 rfl dX9_again_143 ?_
    refine go_iconst kz_iconst_4 dX9_again_144 ?_
    refine go_icmp_ge (tgt := 166) dX9_again_145 rfl (fun hc => ?_) (fun hc => ?_)
    · replace h := q_t h hc
      refine go_sub (l' := [(0, .ref (ad 53)), (1, .ref (ad y1))]) [0, 1] rfl ?_
      exact hk166  _ h
    · replace h := q_f h hc
      refine go_aload_n rfl 0 rfl dX9_again_148 ?_
      refine h_getr 8 cl7 rfl (by decide) tw_920 61 rfl dX9_again_149 ?_
      refine go_iload_n rfl 2 rfl dX9_again_152 ?_
      refine go_aload_n rfl 1 rfl dX9_again_153 ?_
      refine go_bipush kz_bipush_91 dX9_again_154 ?_
      refine go_iload_n rfl 2 rfl dX9_again_156 ?_
      refine go_iadd dX9_again_157 ?_
      obtain ⟨hg_39, h⟩ := q_g h
      refine h_iald 96 hy1 hg_39 dX9_again_158 ?_
      obtain ⟨hg_40, h⟩ := q_g h
      obtain ⟨ν_41, e_42, h⟩ := q_l h
      refine h_iast 4 rfl hg_40 e_42 dX9_again_159 ?_
      refine h_iinc (l' := [(2, .int (y2 + 1)), (0, .ref (ad 53)), (1, .ref (ad y1))]) dX9_again_160 2 rfl kz_iconst_1 (by decide) rfl ?_
      refine go_goto (tgt := 143) dX9_again_163 rfl ?_
      refine go_sub (l' := [(0, .ref (ad 53)), (1, .ref (ad y1)), (2, .int (y2 + 1))]) [1, 2, 0] rfl ?_
      exact ih _ _ _ h hk166
set_option maxRecDepth 20000 in
set_option maxHeartbeats 2000000 in
theorem m_X9_again {X : gX} {ad : Nat → Nat} {a1 : Nat} {ν : gN} {r : gN} (ha1 : SH[a1]? = some (0, 96)) (h : f_X9_again a1 ν = some r) : h_ct X ad yX9_again cX9_again 3 (none) 2 [.ref (ad 53), .ref (ad a1)] ν (none, r) := by
  rw [f_X9_again] at h
  refine h_ct_of (l := [(0, .ref (ad 53)), (1, .ref (ad a1))]) (by decide) (Nat.le_of_ble_eq_true rfl) rfl ?_
  refine go_iconst kz_iconst_0 dX9_again_0 ?_
  refine go_istore_n (l' := [(2, .int 0), (0, .ref (ad 53)), (1, .ref (ad a1))]) dX9_again_1 rfl (by decide) rfl ?_
  refine go_sub (l' := [(0, .ref (ad 53)), (1, .ref (ad a1)), (2, .int 0)]) [1, 2, 0] rfl ?_
  refine m_X9_again_L2 ha1 FU _ _ _ h (fun ν_25 h => ?_)
  refine go_iconst kz_iconst_0 dX9_again_83 ?_
  refine go_istore_n (l' := [(2, .int 0), (0, .ref (ad 53)), (1, .ref (ad a1))]) dX9_again_84 rfl (by decide) rfl ?_
  refine go_sub (l' := [(0, .ref (ad 53)), (1, .ref (ad a1)), (2, .int 0)]) [1, 2, 0] rfl ?_
  refine m_X9_again_L85 ha1 FU _ _ _ h (fun ν_38 h => ?_)
  refine go_iconst kz_iconst_0 dX9_again_141 ?_
  refine go_istore_n (l' := [(2, .int 0), (0, .ref (ad 53)), (1, .ref (ad a1))]) dX9_again_142 rfl (by decide) rfl ?_
  refine go_sub (l' := [(0, .ref (ad 53)), (1, .ref (ad a1)), (2, .int 0)]) [1, 2, 0] rfl ?_
  refine m_X9_again_L143 ha1 FU _ _ _ h (fun ν_43 h => ?_)
  refine go_aload_n rfl 0 rfl dX9_again_166 ?_
  refine go_aload_n rfl 1 rfl dX9_again_167 ?_
  refine go_bipush kz_bipush_95 dX9_again_168 ?_
  obtain ⟨hg_44, h⟩ := q_g h
  refine h_iald 96 ha1 hg_44 dX9_again_170 ?_
  obtain ⟨ν_45, e_46, h⟩ := q_l h
  refine h_puti 0 cl7 rfl (by decide) tw_912 rfl rfl e_46 dX9_again_171 ?_
  exact h_vret h dX9_again_174 rfl
noncomputable def f_X9_areThere (x1 : Int32) (ν : gN) : Option (Int32 × gN) :=
  (f_X9_within x1 0 ((j_shl 1 (ν.1 53 0)) - 1) ν).bind (fun r_1 =>
    if zb r_1.1 = true then
      some (r_1.1, r_1.2)
    else none)
theorem me_X9_areThere : g_me yX9_areThere cX9_areThere 2 ((Option.some .boolean)) 1 := ⟨tw_1283, tw_79, ⟨by decide +kernel, by decide +kernel, by decide +kernel⟩, by decide⟩
set_option maxRecDepth 20000 in
set_option maxHeartbeats 2000000 in
theorem m_X9_areThere {X : gX} {ad : Nat → Nat} {x1 : Int32} {ν : gN} {r : Int32 × gN}  (h : f_X9_areThere x1 ν = some r) : h_ct X ad yX9_areThere cX9_areThere 2 ((Option.some .boolean)) 2 [.ref (ad 53), .int x1] ν (some (.int r.1), r.2) := by
  rw [f_X9_areThere] at h
  refine h_ct_of (l := [(0, .ref (ad 53)), (1, .int x1)]) (by decide) (Nat.le_of_ble_eq_true rfl) rfl ?_
  refine go_iload_n rfl 1 rfl dX9_areThere_0 ?_
  refine go_iconst kz_iconst_0 dX9_areThere_1 ?_
  refine go_iconst kz_iconst_1 dX9_areThere_2 ?_
  refine go_aload_n rfl 0 rfl dX9_areThere_3 ?_
  refine h_geti 0 cl7 rfl (by decide) tw_912 rfl dX9_areThere_4 ?_
  refine h_ishl dX9_areThere_7 ?_
  refine go_iconst kz_iconst_1 dX9_areThere_8 ?_
  refine go_isub dX9_areThere_9 ?_
  obtain ⟨r_1, h_2, h⟩ := q_b h
  refine h_callSi (st := []) [.int x1, .int 0, .int ((j_shl 1 (ν.1 53 0)) - 1)] (m_X9_within h_2) me_X9_within tw_1005 tw_1006 (hdd_of (by decide)) ⟨Nat.zero_le _, Nat.zero_le _⟩ rfl rfl (Nat.le_of_ble_eq_true rfl) dX9_areThere_10 ?_
  obtain ⟨hg_3, h⟩ := q_g h
  exact h_zret hg_3 h dX9_areThere_13 rfl
noncomputable def f_X9_no (x1 : Int32) (ν : gN) : Option (Int32 × gN) :=
  if inb (-x1) 8 = true then
    if inb (-x1) 8 = true then
      qL (nWI ν 68 (-x1).toNatClampNeg ((ν.1 68 (-x1).toNatClampNeg) + 1)) (fun ν_3 =>
        some (x1, ν_3))
    else none
  else none
theorem me_X9_no : g_me yX9_no cX9_no 2 ((Option.some .int)) 1 := ⟨tw_1011, tw_79, ⟨by decide +kernel, by decide +kernel, by decide +kernel⟩, by decide⟩
set_option maxRecDepth 20000 in
set_option maxHeartbeats 2000000 in
theorem m_X9_no {X : gX} {ad : Nat → Nat} {x1 : Int32} {ν : gN} {r : Int32 × gN}  (h : f_X9_no x1 ν = some r) : h_ct X ad yX9_no cX9_no 2 ((Option.some .int)) 1 [.ref (ad 53), .int x1] ν (some (.int r.1), r.2) := by
  rw [f_X9_no] at h
  refine h_ct_of (l := [(0, .ref (ad 53)), (1, .int x1)]) (by decide) (Nat.le_of_ble_eq_true rfl) rfl ?_
  refine go_aload_n rfl 0 rfl dX9_no_0 ?_
  refine h_getr 20 cl7 rfl (by decide) tw_932 68 rfl dX9_no_1 ?_
  refine go_iload_n rfl 1 rfl dX9_no_4 ?_
  refine go_ineg dX9_no_5 ?_
  refine go_dup2 rfl rfl dX9_no_6 ?_
  obtain ⟨hg_1, h⟩ := q_g h
  refine h_iald 8 rfl hg_1 dX9_no_7 ?_
  refine go_iconst kz_iconst_1 dX9_no_8 ?_
  refine go_iadd dX9_no_9 ?_
  obtain ⟨hg_2, h⟩ := q_g h
  obtain ⟨ν_3, e_4, h⟩ := q_l h
  refine h_iast 8 rfl hg_2 e_4 dX9_no_10 ?_
  refine go_iload_n rfl 1 rfl dX9_no_11 ?_
  exact h_iret h dX9_no_12 rfl
noncomputable def f_X9_ask (x1 : Int32) (x2 : Int32) (ν : gN) : Option (Int32 × gN) :=
  (f_X9_within x1 0 1 ν).bind (fun r_1 =>
    if r_1.1 = 0 then
      (f_X9_no (-6) r_1.2).bind (fun r_3 =>
        some (r_3.1, r_3.2))
    else
      if x1 = 0 then
        (f_X9_within x2 1 4 r_1.2).bind (fun r_13 =>
          if r_13.1 = 0 then
            (f_X9_no (-6) r_13.2).bind (fun r_15 =>
              some (r_15.1, r_15.2))
          else
            if inb x1 4 = true then
              if inb x1 4 = true then
                qL (nWI r_13.2 61 x1.toNatClampNeg x2) (fun ν_19 =>
                  some (r_13.2.1 61 x1.toNatClampNeg, ν_19))
              else none
            else none)
      else
        (f_X9_within x2 0 40 r_1.2).bind (fun r_5 =>
          if r_5.1 = 0 then
            (f_X9_no (-6) r_5.2).bind (fun r_11 =>
              some (r_11.1, r_11.2))
          else
            if inb x1 4 = true then
              if inb x1 4 = true then
                qL (nWI r_5.2 61 x1.toNatClampNeg x2) (fun ν_9 =>
                  some (r_5.2.1 61 x1.toNatClampNeg, ν_9))
              else none
            else none))
theorem me_X9_ask : g_me yX9_ask cX9_ask 4 ((Option.some .int)) 2 := ⟨tw_1096, tw_79, ⟨by decide +kernel, by decide +kernel, by decide +kernel⟩, by decide⟩
set_option maxRecDepth 20000 in
set_option maxHeartbeats 2000000 in
theorem m_X9_ask {X : gX} {ad : Nat → Nat} {x1 : Int32} {x2 : Int32} {ν : gN} {r : Int32 × gN}  (h : f_X9_ask x1 x2 ν = some r) : h_ct X ad yX9_ask cX9_ask 4 ((Option.some .int)) 2 [.ref (ad 53), .int x1, .int x2] ν (some (.int r.1), r.2) := by
  rw [f_X9_ask] at h
  refine h_ct_of (l := [(0, .ref (ad 53)), (1, .int x1), (2, .int x2)]) (by decide) (Nat.le_of_ble_eq_true rfl) rfl ?_
  refine go_iload_n rfl 1 rfl dX9_ask_0 ?_
  refine go_iconst kz_iconst_0 dX9_ask_1 ?_
  refine go_iconst kz_iconst_1 dX9_ask_2 ?_
  obtain ⟨r_1, h_2, h⟩ := q_b h
  refine h_callSi (st := []) [.int x1, .int 0, .int 1] (m_X9_within h_2) me_X9_within tw_1005 tw_1006 (hdd_of (by decide)) ⟨Nat.zero_le _, Nat.zero_le _⟩ rfl rfl (Nat.le_of_ble_eq_true rfl) dX9_ask_3 ?_
  refine go_if_eq (tgt := 35) dX9_ask_6 rfl (fun hc => ?_) (fun hc => ?_)
  · replace h := q_t h hc
    refine go_aload_n rfl 0 rfl dX9_ask_35 ?_
    refine go_bipush kz_bipush_m6 dX9_ask_36 ?_
    obtain ⟨r_3, h_4, h⟩ := q_b h
    refine h_callVi (st := []) [.int (-6)] (m_X9_no h_4) me_X9_no (g_recv cl7.1 rfl) tw_1008 tw_1010 tw_23 (hdd_of (by decide)) ⟨Nat.zero_le _, Nat.zero_le _⟩ rfl rfl (Nat.le_of_ble_eq_true rfl) dX9_ask_38 ?_
    exact h_iret h dX9_ask_41 rfl
  · replace h := q_f h hc
    refine go_iload_n rfl 1 rfl dX9_ask_9 ?_
    refine go_if_ne (tgt := 25) dX9_ask_10 rfl (fun hc => ?_) (fun hc => ?_)
    · replace h := q_f h hc
      refine go_iload_n rfl 2 rfl dX9_ask_25 ?_
      refine go_iconst kz_iconst_0 dX9_ask_26 ?_
      refine go_bipush kz_bipush_40 dX9_ask_27 ?_
      obtain ⟨r_5, h_6, h⟩ := q_b h
      refine h_callSi (st := []) [.int x2, .int 0, .int 40] (m_X9_within h_6) me_X9_within tw_1005 tw_1006 (hdd_of (by decide)) ⟨Nat.zero_le _, Nat.zero_le _⟩ rfl rfl (Nat.le_of_ble_eq_true rfl) dX9_ask_29 ?_
      refine go_if_ne (tgt := 42) dX9_ask_32 rfl (fun hc => ?_) (fun hc => ?_)
      · replace h := q_f h hc
        refine go_aload_n rfl 0 rfl dX9_ask_42 ?_
        refine h_getr 8 cl7 rfl (by decide) tw_920 61 rfl dX9_ask_43 ?_
        refine go_iload_n rfl 1 rfl dX9_ask_46 ?_
        obtain ⟨hg_7, h⟩ := q_g h
        refine h_iald 4 rfl hg_7 dX9_ask_47 ?_
        refine go_istore_n (l' := [(3, .int (r_5.2.1 61 x1.toNatClampNeg)), (0, .ref (ad 53)), (1, .int x1), (2, .int x2)]) dX9_ask_48 rfl (by decide) rfl ?_
        refine go_aload_n rfl 1 rfl dX9_ask_49 ?_
        refine h_getr 8 cl7 rfl (by decide) tw_920 61 rfl dX9_ask_50 ?_
        refine go_iload_n rfl 2 rfl dX9_ask_53 ?_
        refine go_iload_n rfl 3 rfl dX9_ask_54 ?_
        obtain ⟨hg_8, h⟩ := q_g h
        obtain ⟨ν_9, e_10, h⟩ := q_l h
        refine h_iast 4 rfl hg_8 e_10 dX9_ask_55 ?_
        refine go_iload_n rfl 0 rfl dX9_ask_56 ?_
        exact h_iret h dX9_ask_57 rfl
      · replace h := q_t h hc
        refine go_aload_n rfl 0 rfl dX9_ask_35 ?_
        refine go_bipush kz_bipush_m6 dX9_ask_36 ?_
        obtain ⟨r_11, h_12, h⟩ := q_b h
        refine h_callVi (st := []) [.int (-6)] (m_X9_no h_12) me_X9_no (g_recv cl7.1 rfl) tw_1008 tw_1010 tw_23 (hdd_of (by decide)) ⟨Nat.zero_le _, Nat.zero_le _⟩ rfl rfl (Nat.le_of_ble_eq_true rfl) dX9_ask_38 ?_
        exact h_iret h dX9_ask_41 rfl
    · replace h := q_t h hc
      refine go_iload_n rfl 2 rfl dX9_ask_13 ?_
      refine go_iconst kz_iconst_1 dX9_ask_14 ?_
      refine go_iconst kz_iconst_4 dX9_ask_15 ?_
      obtain ⟨r_13, h_14, h⟩ := q_b h
      refine h_callSi (st := []) [.int x2, .int 1, .int 4] (m_X9_within h_14) me_X9_within tw_1005 tw_1006 (hdd_of (by decide)) ⟨Nat.zero_le _, Nat.zero_le _⟩ rfl rfl (Nat.le_of_ble_eq_true rfl) dX9_ask_16 ?_
      refine go_if_eq (tgt := 35) dX9_ask_19 rfl (fun hc => ?_) (fun hc => ?_)
      · replace h := q_t h hc
        refine go_aload_n rfl 0 rfl dX9_ask_35 ?_
        refine go_bipush kz_bipush_m6 dX9_ask_36 ?_
        obtain ⟨r_15, h_16, h⟩ := q_b h
        refine h_callVi (st := []) [.int (-6)] (m_X9_no h_16) me_X9_no (g_recv cl7.1 rfl) tw_1008 tw_1010 tw_23 (hdd_of (by decide)) ⟨Nat.zero_le _, Nat.zero_le _⟩ rfl rfl (Nat.le_of_ble_eq_true rfl) dX9_ask_38 ?_
        exact h_iret h dX9_ask_41 rfl
      · replace h := q_f h hc
        refine go_goto (tgt := 42) dX9_ask_22 rfl ?_
        refine go_aload_n rfl 0 rfl dX9_ask_42 ?_
        refine h_getr 8 cl7 rfl (by decide) tw_920 61 rfl dX9_ask_43 ?_
        refine go_iload_n rfl 1 rfl dX9_ask_46 ?_
        obtain ⟨hg_17, h⟩ := q_g h
        refine h_iald 4 rfl hg_17 dX9_ask_47 ?_
        refine go_istore_n (l' := [(3, .int (r_13.2.1 61 x1.toNatClampNeg)), (0, .ref (ad 53)), (1, .int x1), (2, .int x2)]) dX9_ask_48 rfl (by decide) rfl ?_
        refine go_aload_n rfl 1 rfl dX9_ask_49 ?_
        refine h_getr 8 cl7 rfl (by decide) tw_920 61 rfl dX9_ask_50 ?_
        refine go_iload_n rfl 2 rfl dX9_ask_53 ?_
        refine go_iload_n rfl 3 rfl dX9_ask_54 ?_
        obtain ⟨hg_18, h⟩ := q_g h
        obtain ⟨ν_19, e_20, h⟩ := q_l h
        refine h_iast 4 rfl hg_18 e_20 dX9_ask_55 ?_
        refine go_iload_n rfl 0 rfl dX9_ask_56 ?_
        exact h_iret h dX9_ask_57 rfl
noncomputable def f_X9_smell (x1 : Int32) (ν : gN) : Option (Int32 × gN) :=
  if inb x1 7 = true then
    if (ν.1 54 x1.toNatClampNeg) = 2 then
      if inb x1 7 = true then
        some ((ν.1 56 x1.toNatClampNeg) / 2, ν)
      else none
    else
    if (ν.1 54 x1.toNatClampNeg) = 3 then
      if inb x1 7 = true then
        if inb x1 7 = true then
          some ((ν.1 56 x1.toNatClampNeg) + (ν.1 55 x1.toNatClampNeg), ν)
        else none
      else none
    else
    if (ν.1 54 x1.toNatClampNeg) = 4 then
      if inb x1 7 = true then
        some (ν.1 56 x1.toNatClampNeg, ν)
      else none
    else
    if (ν.1 54 x1.toNatClampNeg) = 5 then
      if inb x1 7 = true then
        some ((ν.1 56 x1.toNatClampNeg) / 2, ν)
      else none
    else
    if (ν.1 54 x1.toNatClampNeg) = 6 then
      if inb x1 7 = true then
        if inb x1 7 = true then
          some (((ν.1 56 x1.toNatClampNeg) + (ν.1 55 x1.toNatClampNeg)) + 3, ν)
        else none
      else none
    else
    if inb x1 7 = true then
      some (ν.1 56 x1.toNatClampNeg, ν)
    else none
  else none
theorem me_X9_smell : g_me yX9_smell cX9_smell 2 ((Option.some .int)) 1 := ⟨tw_1057, tw_79, ⟨by decide +kernel, by decide +kernel, by decide +kernel⟩, by decide⟩
set_option maxRecDepth 20000 in
set_option maxHeartbeats 2000000 in
theorem m_X9_smell {X : gX} {ad : Nat → Nat} {x1 : Int32} {ν : gN} {r : Int32 × gN}  (h : f_X9_smell x1 ν = some r) : h_ct X ad yX9_smell cX9_smell 2 ((Option.some .int)) 1 [.ref (ad 53), .int x1] ν (some (.int r.1), r.2) := by
  rw [f_X9_smell] at h
  refine h_ct_of (l := [(0, .ref (ad 53)), (1, .int x1)]) (by decide) (Nat.le_of_ble_eq_true rfl) rfl ?_
  refine go_aload_n rfl 0 rfl dX9_smell_0 ?_
  refine h_getr 1 cl7 rfl (by decide) tw_913 54 rfl dX9_smell_1 ?_
  refine go_iload_n rfl 1 rfl dX9_smell_4 ?_
  obtain ⟨hg_1, h⟩ := q_g h
  refine h_iald 7 rfl hg_1 dX9_smell_5 ?_
  by_cases hk_2 : (ν.1 54 x1.toNatClampNeg) = 2
  · replace h := q_t h hk_2
    refine h_tbT (tgt := 40) (off := 34) hk_2 dX9_smell_6 (by decide) (by decide) rfl rfl ?_
    refine go_aload_n rfl 0 rfl dX9_smell_40 ?_
    refine h_getr 3 cl7 rfl (by decide) tw_915 56 rfl dX9_smell_41 ?_
    refine go_iload_n rfl 1 rfl dX9_smell_44 ?_
    obtain ⟨hg_3, h⟩ := q_g h
    refine h_iald 7 rfl hg_3 dX9_smell_45 ?_
    refine go_iconst kz_iconst_2 dX9_smell_46 ?_
    refine go_idiv (by decide) dX9_smell_47 ?_
    exact h_iret h dX9_smell_48 rfl
  replace h := q_f h hk_2
  by_cases hk_4 : (ν.1 54 x1.toNatClampNeg) = 3
  · replace h := q_t h hk_4
    refine h_tbT (tgt := 49) (off := 43) hk_4 dX9_smell_6 (by decide) (by decide) rfl rfl ?_
    refine go_aload_n rfl 0 rfl dX9_smell_49 ?_
    refine h_getr 3 cl7 rfl (by decide) tw_915 56 rfl dX9_smell_50 ?_
    refine go_iload_n rfl 1 rfl dX9_smell_53 ?_
    obtain ⟨hg_5, h⟩ := q_g h
    refine h_iald 7 rfl hg_5 dX9_smell_54 ?_
    refine go_aload_n rfl 0 rfl dX9_smell_55 ?_
    refine h_getr 2 cl7 rfl (by decide) tw_914 55 rfl dX9_smell_56 ?_
    refine go_iload_n rfl 1 rfl dX9_smell_59 ?_
    obtain ⟨hg_6, h⟩ := q_g h
    refine h_iald 7 rfl hg_6 dX9_smell_60 ?_
    refine go_iadd dX9_smell_61 ?_
    exact h_iret h dX9_smell_62 rfl
  replace h := q_f h hk_4
  by_cases hk_7 : (ν.1 54 x1.toNatClampNeg) = 4
  · replace h := q_t h hk_7
    refine h_tbT (tgt := 79) (off := 73) hk_7 dX9_smell_6 (by decide) (by decide) rfl rfl ?_
    refine go_aload_n rfl 0 rfl dX9_smell_79 ?_
    refine h_getr 3 cl7 rfl (by decide) tw_915 56 rfl dX9_smell_80 ?_
    refine go_iload_n rfl 1 rfl dX9_smell_83 ?_
    obtain ⟨hg_8, h⟩ := q_g h
    refine h_iald 7 rfl hg_8 dX9_smell_84 ?_
    exact h_iret h dX9_smell_85 rfl
  replace h := q_f h hk_7
  by_cases hk_9 : (ν.1 54 x1.toNatClampNeg) = 5
  · replace h := q_t h hk_9
    refine h_tbT (tgt := 40) (off := 34) hk_9 dX9_smell_6 (by decide) (by decide) rfl rfl ?_
    refine go_aload_n rfl 0 rfl dX9_smell_40 ?_
    refine h_getr 3 cl7 rfl (by decide) tw_915 56 rfl dX9_smell_41 ?_
    refine go_iload_n rfl 1 rfl dX9_smell_44 ?_
    obtain ⟨hg_10, h⟩ := q_g h
    refine h_iald 7 rfl hg_10 dX9_smell_45 ?_
    refine go_iconst kz_iconst_2 dX9_smell_46 ?_
    refine go_idiv (by decide) dX9_smell_47 ?_
    exact h_iret h dX9_smell_48 rfl
  replace h := q_f h hk_9
  by_cases hk_11 : (ν.1 54 x1.toNatClampNeg) = 6
  · replace h := q_t h hk_11
    refine h_tbT (tgt := 63) (off := 57) hk_11 dX9_smell_6 (by decide) (by decide) rfl rfl ?_
    refine go_aload_n rfl 0 rfl dX9_smell_63 ?_
    refine h_getr 3 cl7 rfl (by decide) tw_915 56 rfl dX9_smell_64 ?_
    refine go_iload_n rfl 1 rfl dX9_smell_67 ?_
    obtain ⟨hg_12, h⟩ := q_g h
    refine h_iald 7 rfl hg_12 dX9_smell_68 ?_
    refine go_aload_n rfl 0 rfl dX9_smell_69 ?_
    refine h_getr 2 cl7 rfl (by decide) tw_914 55 rfl dX9_smell_70 ?_
    refine go_iload_n rfl 1 rfl dX9_smell_73 ?_
    obtain ⟨hg_13, h⟩ := q_g h
    refine h_iald 7 rfl hg_13 dX9_smell_74 ?_
    refine go_iadd dX9_smell_75 ?_
    refine go_iconst kz_iconst_3 dX9_smell_76 ?_
    refine go_iadd dX9_smell_77 ?_
    exact h_iret h dX9_smell_78 rfl
  replace h := q_f h hk_11
  have hk_2 := h_nT hk_2 (a := 2) (by decide)
  have hk_4 := h_nT hk_4 (a := 3) (by decide)
  have hk_7 := h_nT hk_7 (a := 4) (by decide)
  have hk_9 := h_nT hk_9 (a := 5) (by decide)
  have hk_11 := h_nT hk_11 (a := 6) (by decide)
  refine go_tableOut (tgt := 79) dX9_smell_6 (by omega) rfl ?_
  refine go_aload_n rfl 0 rfl dX9_smell_79 ?_
  refine h_getr 3 cl7 rfl (by decide) tw_915 56 rfl dX9_smell_80 ?_
  refine go_iload_n rfl 1 rfl dX9_smell_83 ?_
  obtain ⟨hg_14, h⟩ := q_g h
  refine h_iald 7 rfl hg_14 dX9_smell_84 ?_
  exact h_iret h dX9_smell_85 rfl
noncomputable def f_X9_isOut (x1 : Int32) (ν : gN) : Option (Int32 × gN) :=
  (f_X9_smell x1 ν).bind (fun r_1 =>
    if inb 1 4 = true then
      if r_1.1 ≤ (r_1.2.1 61 (1 : Int32).toNatClampNeg) then
        some (0, r_1.2)
      else
        some (1, r_1.2)
    else none)
theorem me_X9_isOut : g_me yX9_isOut cX9_isOut 2 ((Option.some .boolean)) 1 := ⟨tw_1108, tw_79, ⟨by decide +kernel, by decide +kernel, by decide +kernel⟩, by decide⟩
set_option maxRecDepth 20000 in
set_option maxHeartbeats 2000000 in
theorem m_X9_isOut {X : gX} {ad : Nat → Nat} {x1 : Int32} {ν : gN} {r : Int32 × gN}  (h : f_X9_isOut x1 ν = some r) : h_ct X ad yX9_isOut cX9_isOut 2 ((Option.some .boolean)) 2 [.ref (ad 53), .int x1] ν (some (.int r.1), r.2) := by
  rw [f_X9_isOut] at h
  refine h_ct_of (l := [(0, .ref (ad 53)), (1, .int x1)]) (by decide) (Nat.le_of_ble_eq_true rfl) rfl ?_
  refine go_aload_n rfl 0 rfl dX9_isOut_0 ?_
  refine go_iload_n rfl 1 rfl dX9_isOut_1 ?_
  obtain ⟨r_1, h_2, h⟩ := q_b h
  refine h_callVi (st := []) [.int x1] (m_X9_smell h_2) me_X9_smell (g_recv cl7.1 rfl) tw_1054 tw_1056 tw_27 (hdd_of (by decide)) ⟨Nat.zero_le _, Nat.zero_le _⟩ rfl rfl (Nat.le_of_ble_eq_true rfl) dX9_isOut_2 ?_
  refine go_aload_n rfl 0 rfl dX9_isOut_5 ?_
  refine h_getr 8 cl7 rfl (by decide) tw_920 61 rfl dX9_isOut_6 ?_
  refine go_iconst kz_iconst_1 dX9_isOut_9 ?_
  obtain ⟨hg_3, h⟩ := q_g h
  refine h_iald 4 rfl hg_3 dX9_isOut_10 ?_
  refine go_icmp_le (tgt := 18) dX9_isOut_11 rfl (fun hc => ?_) (fun hc => ?_)
  · replace h := q_t h hc
    refine go_iconst kz_iconst_0 dX9_isOut_18 ?_
    exact h_zret rfl h dX9_isOut_19 rfl
  · replace h := q_f h hc
    refine go_iconst kz_iconst_1 dX9_isOut_14 ?_
    refine go_goto (tgt := 19) dX9_isOut_15 rfl ?_
    exact h_zret rfl h dX9_isOut_19 rfl
noncomputable def f_X9_no10 (x1 : Int32) (ν : gN) : Option (Int32 × gN) :=
  (f_X9_no x1 ν).bind (fun r_1 =>
    some (r_1.1 - 10, r_1.2))
theorem me_X9_no10 : g_me yX9_no10 cX9_no10 2 ((Option.some .int)) 1 := ⟨tw_1238, tw_79, ⟨by decide +kernel, by decide +kernel, by decide +kernel⟩, by decide⟩
set_option maxRecDepth 20000 in
set_option maxHeartbeats 2000000 in
theorem m_X9_no10 {X : gX} {ad : Nat → Nat} {x1 : Int32} {ν : gN} {r : Int32 × gN}  (h : f_X9_no10 x1 ν = some r) : h_ct X ad yX9_no10 cX9_no10 2 ((Option.some .int)) 2 [.ref (ad 53), .int x1] ν (some (.int r.1), r.2) := by
  rw [f_X9_no10] at h
  refine h_ct_of (l := [(0, .ref (ad 53)), (1, .int x1)]) (by decide) (Nat.le_of_ble_eq_true rfl) rfl ?_
  refine go_aload_n rfl 0 rfl dX9_no10_0 ?_
  refine go_iload_n rfl 1 rfl dX9_no10_1 ?_
  obtain ⟨r_1, h_2, h⟩ := q_b h
  refine h_callVi (st := []) [.int x1] (m_X9_no h_2) me_X9_no (g_recv cl7.1 rfl) tw_1008 tw_1010 tw_23 (hdd_of (by decide)) ⟨Nat.zero_le _, Nat.zero_le _⟩ rfl rfl (Nat.le_of_ble_eq_true rfl) dX9_no10_2 ?_
  refine go_bipush kz_bipush_10 dX9_no10_5 ?_
  refine go_isub dX9_no10_7 ?_
  exact h_iret h dX9_no10_8 rfl
noncomputable def f_X9_outNow_L4  (k32 : Int32 → gN → Option (Int32 × gN)) : Nat → Int32 → Int32 → gN → Option (Int32 × gN)
  | 0, _, _, _ => none
  | n + 1, y1, y2, ν =>
    if (ν.1 53 0) ≤ y2 then
      k32 y1 ν
    else
      (f_X9_isOut y2 ν).bind (fun r_1 =>
        if r_1.1 = 0 then
          f_X9_outNow_L4 k32 n y1 (y2 + 1) r_1.2
        else
          f_X9_outNow_L4 k32 n (y1 ||| (j_shl 1 y2)) (y2 + 1) r_1.2)
noncomputable def f_X9_outNow  (ν : gN) : Option (Int32 × gN) :=
  f_X9_outNow_L4  (fun z1_3 ν_4 =>
    some (z1_3, ν_4)) FU 0 0 ν
theorem me_X9_outNow : g_me yX9_outNow cX9_outNow 3 ((Option.some .int)) 0 := ⟨tw_1195, tw_79, ⟨by decide +kernel, by decide +kernel, by decide +kernel⟩, by decide⟩
set_option maxRecDepth 20000 in
set_option maxHeartbeats 2000000 in
theorem m_X9_outNow_L4 {X : gX} {ad : Nat → Nat}  {k32 : Int32 → gN → Option (Int32 × gN)}  : ∀ (n : Nat) (y1 : Int32) (y2 : Int32) (ν : gN) (r : Int32 × gN), f_X9_outNow_L4 k32 n y1 y2 ν = some r → (∀ (z1 : Int32) (ν1 : gN), k32 z1 ν1 = some r → h_go X ad RX9 "outNow" cX9_outNow 3 ((Option.some .int)) 3 (some (.int r.1), r.2) 32 [(1, .int z1)] [] ν1) → h_go X ad RX9 "outNow" cX9_outNow 3 ((Option.some .int)) 3 (some (.int r.1), r.2) 4 [(0, .ref (ad 53)), (1, .int y1), (2, .int y2)] [] ν := by
  intro n
  induction n with
  | zero => intro y1 y2 ν r h hk32; rw [f_X9_outNow_L4] at h; exact q_n h
  | succ n ih =>
    intro y1 y2 ν r h hk32
    rw [f_X9_outNow_L4] at h
    refine go_iload_n rfl 2 rfl dX9_outNow_4 ?_
    refine go_aload_n rfl 0 rfl dX9_outNow_5 ?_
    refine h_geti 0 cl7 rfl (by decide) tw_912 rfl dX9_outNow_6 ?_
    refine go_icmp_ge (tgt := 32) dX9_outNow_9 rfl (fun hc => ?_) (fun hc => ?_)
    · replace h := q_t h hc
      refine go_sub (l' := [(1, .int y1)]) [1] rfl ?_
      exact hk32 _ _ h
    · replace h := q_f h hc
      refine go_aload_n rfl 0 rfl dX9_outNow_12 ?_
      refine go_iload_n rfl 2 rfl dX9_outNow_13 ?_
      obtain ⟨r_1, h_2, h⟩ := q_b h
      refine h_callVi (st := []) [.int y2] (m_X9_isOut h_2) me_X9_isOut (g_recv cl7.1 rfl) tw_1105 tw_1107 tw_34 (hdd_of (by decide)) ⟨Nat.zero_le _, Nat.zero_le _⟩ rfl rfl (Nat.le_of_ble_eq_true rfl) dX9_outNow_14 ?_
      refine go_if_eq (tgt := 26) dX9_outNow_17 rfl (fun hc => ?_) (fun hc => ?_)
      · replace h := q_t h hc
        refine h_iinc (l' := [(2, .int (y2 + 1)), (0, .ref (ad 53)), (1, .int y1)]) dX9_outNow_26 2 rfl kz_iconst_1 (by decide) rfl ?_
        refine go_goto (tgt := 4) dX9_outNow_29 rfl ?_
        refine go_sub (l' := [(0, .ref (ad 53)), (1, .int y1), (2, .int (y2 + 1))]) [1, 2, 0] rfl ?_
        exact ih _ _ _ _ h hk32
      · replace h := q_f h hc
        refine go_iload_n rfl 1 rfl dX9_outNow_20 ?_
        refine go_iconst kz_iconst_1 dX9_outNow_21 ?_
        refine go_iload_n rfl 2 rfl dX9_outNow_22 ?_
        refine h_ishl dX9_outNow_23 ?_
        refine go_ior dX9_outNow_24 ?_
        refine go_istore_n (l' := [(1, .int (y1 ||| (j_shl 1 y2))), (0, .ref (ad 53)), (2, .int y2)]) dX9_outNow_25 rfl (by decide) rfl ?_
        refine h_iinc (l' := [(2, .int (y2 + 1)), (1, .int (y1 ||| (j_shl 1 y2))), (0, .ref (ad 53))]) dX9_outNow_26 2 rfl kz_iconst_1 (by decide) rfl ?_
        refine go_goto (tgt := 4) dX9_outNow_29 rfl ?_
        refine go_sub (l' := [(0, .ref (ad 53)), (1, .int (y1 ||| (j_shl 1 y2))), (2, .int (y2 + 1))]) [2, 1, 0] rfl ?_
        exact ih _ _ _ _ h hk32
set_option maxRecDepth 20000 in
set_option maxHeartbeats 2000000 in
theorem m_X9_outNow {X : gX} {ad : Nat → Nat}  {ν : gN} {r : Int32 × gN}  (h : f_X9_outNow  ν = some r) : h_ct X ad yX9_outNow cX9_outNow 3 ((Option.some .int)) 3 [.ref (ad 53)] ν (some (.int r.1), r.2) := by
  rw [f_X9_outNow] at h
  refine h_ct_of (l := [(0, .ref (ad 53))]) (by decide) (Nat.le_of_ble_eq_true rfl) rfl ?_
  refine go_iconst kz_iconst_0 dX9_outNow_0 ?_
  refine go_istore_n (l' := [(1, .int 0), (0, .ref (ad 53))]) dX9_outNow_1 rfl (by decide) rfl ?_
  refine go_iconst kz_iconst_0 dX9_outNow_2 ?_
  refine go_istore_n (l' := [(2, .int 0), (1, .int 0), (0, .ref (ad 53))]) dX9_outNow_3 rfl (by decide) rfl ?_
  refine go_sub (l' := [(0, .ref (ad 53)), (1, .int 0), (2, .int 0)]) [2, 1, 0] rfl ?_
  refine m_X9_outNow_L4  FU _ _ _ _ h (fun z1_3 ν_4 h => ?_)
  refine go_iload_n rfl 0 rfl dX9_outNow_32 ?_
  exact h_iret h dX9_outNow_33 rfl
noncomputable def f_X9_bell_L30 (y1 : Int32) (y2 : Int32) (k85 : Int32 → gN → Option (Int32 × gN)) : Nat → Int32 → Int32 → Int32 → gN → Option (Int32 × gN)
  | 0, _, _, _, _ => none
  | n + 1, y3, y4, y5, ν =>
    if 40 < y5 then
      k85 y3 ν
    else
      if inb 1 4 = true then
        qL (nWI ν 61 (1 : Int32).toNatClampNeg y5) (fun ν_5 =>
          (f_X9_outNow  ν_5).bind (fun r_7 =>
            (f_J6_bitCount_0f7a4 r_7.1 r_7.2).bind (fun r_9 =>
              (f_X9_isOut y1 r_9.2).bind (fun r_11 =>
                if r_11.1 = 0 then
                  f_X9_bell_L30 y1 y2 k85 n y3 y4 (y5 + 1) r_11.2
                else
                  if r_9.1 < y4 then
                    f_X9_bell_L30 y1 y2 k85 n y5 r_9.1 (y5 + 1) r_11.2
                  else
                    f_X9_bell_L30 y1 y2 k85 n y3 y4 (y5 + 1) r_11.2))))
      else none
noncomputable def f_X9_bell (x1 : Int32) (ν : gN) : Option (Int32 × gN) :=
  (f_X9_isOne x1 ν).bind (fun r_1 =>
    if r_1.1 = 0 then
      (f_X9_no10 (-1) r_1.2).bind (fun r_18 =>
        some (r_18.1, r_18.2))
    else
      if inb 1 4 = true then
        f_X9_bell_L30 x1 (r_1.2.1 61 (1 : Int32).toNatClampNeg) (fun z3_13 ν_14 =>
          if inb 1 4 = true then
            qL (nWI ν_14 61 (1 : Int32).toNatClampNeg (r_1.2.1 61 (1 : Int32).toNatClampNeg)) (fun ν_16 =>
              some (z3_13, ν_16))
          else none) FU (-1) 8 0 r_1.2
      else none)
theorem me_X9_bell : g_me yX9_bell cX9_bell 7 ((Option.some .int)) 1 := ⟨tw_1303, tw_79, ⟨by decide +kernel, by decide +kernel, by decide +kernel⟩, by decide⟩
set_option maxRecDepth 20000 in
set_option maxHeartbeats 2000000 in
theorem m_X9_bell_L30 {X : gX} {ad : Nat → Nat} {y1 : Int32} {y2 : Int32} {k85 : Int32 → gN → Option (Int32 × gN)}  : ∀ (n : Nat) (y3 : Int32) (y4 : Int32) (y5 : Int32) (ν : gN) (r : Int32 × gN), f_X9_bell_L30 y1 y2 k85 n y3 y4 y5 ν = some r → (∀ (z3 : Int32) (ν1 : gN), k85 z3 ν1 = some r → h_go X ad RX9 "bell" cX9_bell 7 ((Option.some .int)) 4 (some (.int r.1), r.2) 85 [(0, .ref (ad 53)), (2, .int y2), (3, .int z3)] [] ν1) → h_go X ad RX9 "bell" cX9_bell 7 ((Option.some .int)) 4 (some (.int r.1), r.2) 30 [(0, .ref (ad 53)), (1, .int y1), (2, .int y2), (3, .int y3), (4, .int y4), (5, .int y5)] [] ν := by
  intro n
  induction n with
  | zero => intro y3 y4 y5 ν r h hk85; rw [f_X9_bell_L30] at h; exact q_n h
  | succ n ih =>
    intro y3 y4 y5 ν r h hk85
    rw [f_X9_bell_L30] at h
    refine go_iload 5 rfl dX9_bell_30 ?_
    refine go_bipush kz_bipush_40 dX9_bell_32 ?_
    refine go_icmp_gt (tgt := 85) dX9_bell_34 rfl (fun hc => ?_) (fun hc => ?_)
    · replace h := q_t h hc
      refine go_sub (l' := [(0, .ref (ad 53)), (2, .int y2), (3, .int y3)]) [0, 2, 3] rfl ?_
      exact hk85 _ _ h
    · replace h := q_f h hc
      refine go_aload_n rfl 0 rfl dX9_bell_37 ?_
      refine h_getr 8 cl7 rfl (by decide) tw_920 61 rfl dX9_bell_38 ?_
      refine go_iconst kz_iconst_1 dX9_bell_41 ?_
      refine go_iload 5 rfl dX9_bell_42 ?_
      obtain ⟨hg_4, h⟩ := q_g h
      obtain ⟨ν_5, e_6, h⟩ := q_l h
      refine h_iast 4 rfl hg_4 e_6 dX9_bell_44 ?_
      refine go_aload_n rfl 0 rfl dX9_bell_45 ?_
      obtain ⟨r_7, h_8, h⟩ := q_b h
      refine h_callVi (st := []) [] (m_X9_outNow h_8) me_X9_outNow (g_recv cl7.1 rfl) tw_1192 tw_1194 tw_49 (hdd_of (by decide)) ⟨Nat.zero_le _, Nat.zero_le _⟩ rfl rfl (Nat.le_of_ble_eq_true rfl) dX9_bell_46 ?_
      obtain ⟨r_9, h_10, h⟩ := q_b h
      refine h_callSi (st := []) [.int r_7.1] (m_J6_bitCount_0f7a4 h_10) me_J6_bitCount_0f7a4 tw_1292 tw_795 (hdd_of (by decide)) ⟨Nat.zero_le _, Nat.zero_le _⟩ rfl rfl (Nat.le_of_ble_eq_true rfl) dX9_bell_49 ?_
      refine go_istore (l' := [(6, .int r_9.1), (0, .ref (ad 53)), (1, .int y1), (2, .int y2), (3, .int y3), (4, .int y4), (5, .int y5)]) dX9_bell_52 (by decide) rfl ?_
      refine go_aload_n rfl 1 rfl dX9_bell_54 ?_
      refine go_iload_n rfl 2 rfl dX9_bell_55 ?_
      obtain ⟨r_11, h_12, h⟩ := q_b h
      refine h_callVi (st := []) [.int y1] (m_X9_isOut h_12) me_X9_isOut (g_recv cl7.1 rfl) tw_1105 tw_1107 tw_34 (hdd_of (by decide)) ⟨Nat.zero_le _, Nat.zero_le _⟩ rfl rfl (Nat.le_of_ble_eq_true rfl) dX9_bell_56 ?_
      refine go_if_eq (tgt := 79) dX9_bell_59 rfl (fun hc => ?_) (fun hc => ?_)
      · replace h := q_t h hc
        refine h_iinc (l' := [(5, .int (y5 + 1)), (6, .int r_9.1), (0, .ref (ad 53)), (1, .int y1), (2, .int y2), (3, .int y3), (4, .int y4)]) dX9_bell_79 6 rfl kz_iconst_1 (by decide) rfl ?_
        refine go_goto (tgt := 30) dX9_bell_82 rfl ?_
        refine go_sub (l' := [(0, .ref (ad 53)), (1, .int y1), (2, .int y2), (3, .int y3), (4, .int y4), (5, .int (y5 + 1))]) [2, 3, 4, 5, 6, 0] rfl ?_
        exact ih _ _ _ _ _ h hk85
      · replace h := q_f h hc
        refine go_iload 0 rfl dX9_bell_62 ?_
        refine go_iload 5 rfl dX9_bell_64 ?_
        refine go_icmp_lt (tgt := 72) dX9_bell_66 rfl (fun hc => ?_) (fun hc => ?_)
        · replace h := q_t h hc
          refine go_iload 0 rfl dX9_bell_72 ?_
          refine go_istore (l' := [(4, .int r_9.1), (6, .int r_9.1), (0, .ref (ad 53)), (1, .int y1), (2, .int y2), (3, .int y3), (5, .int y5)]) dX9_bell_74 (by decide) rfl ?_
          refine go_iload 6 rfl dX9_bell_76 ?_
          refine go_istore_n (l' := [(3, .int y5), (4, .int r_9.1), (6, .int r_9.1), (0, .ref (ad 53)), (1, .int y1), (2, .int y2), (5, .int y5)]) dX9_bell_78 rfl (by decide) rfl ?_
          refine h_iinc (l' := [(5, .int (y5 + 1)), (3, .int y5), (4, .int r_9.1), (6, .int r_9.1), (0, .ref (ad 53)), (1, .int y1), (2, .int y2)]) dX9_bell_79 6 rfl kz_iconst_1 (by decide) rfl ?_
          refine go_goto (tgt := 30) dX9_bell_82 rfl ?_
          refine go_sub (l' := [(0, .ref (ad 53)), (1, .int y1), (2, .int y2), (3, .int y5), (4, .int r_9.1), (5, .int (y5 + 1))]) [4, 5, 6, 1, 2, 0] rfl ?_
          exact ih _ _ _ _ _ h hk85
        · replace h := q_f h hc
          refine go_goto (tgt := 79) dX9_bell_69 rfl ?_
          refine h_iinc (l' := [(5, .int (y5 + 1)), (6, .int r_9.1), (0, .ref (ad 53)), (1, .int y1), (2, .int y2), (3, .int y3), (4, .int y4)]) dX9_bell_79 6 rfl kz_iconst_1 (by decide) rfl ?_
          refine go_goto (tgt := 30) dX9_bell_82 rfl ?_
          refine go_sub (l' := [(0, .ref (ad 53)), (1, .int y1), (2, .int y2), (3, .int y3), (4, .int y4), (5, .int (y5 + 1))]) [2, 3, 4, 5, 6, 0] rfl ?_
          exact ih _ _ _ _ _ h hk85
set_option maxRecDepth 20000 in
set_option maxHeartbeats 2000000 in
theorem m_X9_bell {X : gX} {ad : Nat → Nat} {x1 : Int32} {ν : gN} {r : Int32 × gN}  (h : f_X9_bell x1 ν = some r) : h_ct X ad yX9_bell cX9_bell 7 ((Option.some .int)) 4 [.ref (ad 53), .int x1] ν (some (.int r.1), r.2) := by
  rw [f_X9_bell] at h
  refine h_ct_of (l := [(0, .ref (ad 53)), (1, .int x1)]) (by decide) (Nat.le_of_ble_eq_true rfl) rfl ?_
  refine go_aload_n rfl 0 rfl dX9_bell_0 ?_
  refine go_iload_n rfl 1 rfl dX9_bell_1 ?_
  obtain ⟨r_1, h_2, h⟩ := q_b h
  refine h_callVi (st := []) [.int x1] (m_X9_isOne h_2) me_X9_isOne (g_recv cl7.1 rfl) tw_1036 tw_1038 tw_26 (hdd_of (by decide)) ⟨Nat.zero_le _, Nat.zero_le _⟩ rfl rfl (Nat.le_of_ble_eq_true rfl) dX9_bell_2 ?_
  refine go_if_ne (tgt := 14) dX9_bell_5 rfl (fun hc => ?_) (fun hc => ?_)
  · replace h := q_f h hc
    refine go_aload_n rfl 0 rfl dX9_bell_14 ?_
    refine h_getr 8 cl7 rfl (by decide) tw_920 61 rfl dX9_bell_15 ?_
    refine go_iconst kz_iconst_1 dX9_bell_18 ?_
    obtain ⟨hg_3, h⟩ := q_g h
    refine h_iald 4 rfl hg_3 dX9_bell_19 ?_
    refine go_istore_n (l' := [(2, .int (r_1.2.1 61 (1 : Int32).toNatClampNeg)), (0, .ref (ad 53)), (1, .int x1)]) dX9_bell_20 rfl (by decide) rfl ?_
    refine go_iconst kz_iconst_m1 dX9_bell_21 ?_
    refine go_istore_n (l' := [(3, .int (-1)), (2, .int (r_1.2.1 61 (1 : Int32).toNatClampNeg)), (0, .ref (ad 53)), (1, .int x1)]) dX9_bell_22 rfl (by decide) rfl ?_
    refine go_bipush kz_bipush_8 dX9_bell_23 ?_
    refine go_istore (l' := [(4, .int 8), (3, .int (-1)), (2, .int (r_1.2.1 61 (1 : Int32).toNatClampNeg)), (0, .ref (ad 53)), (1, .int x1)]) dX9_bell_25 (by decide) rfl ?_
    refine go_iconst kz_iconst_0 dX9_bell_27 ?_
    refine go_istore (l' := [(5, .int 0), (4, .int 8), (3, .int (-1)), (2, .int (r_1.2.1 61 (1 : Int32).toNatClampNeg)), (0, .ref (ad 53)), (1, .int x1)]) dX9_bell_28 (by decide) rfl ?_
    refine go_sub (l' := [(0, .ref (ad 53)), (1, .int x1), (2, .int (r_1.2.1 61 (1 : Int32).toNatClampNeg)), (3, .int (-1)), (4, .int 8), (5, .int 0)]) [4, 5, 3, 2, 1, 0] rfl ?_
    refine m_X9_bell_L30  FU _ _ _ _ _ h (fun z3_13 ν_14 h => ?_)
    refine go_aload_n rfl 0 rfl dX9_bell_85 ?_
    refine h_getr 8 cl7 rfl (by decide) tw_920 61 rfl dX9_bell_86 ?_
    refine go_iconst kz_iconst_1 dX9_bell_89 ?_
    refine go_iload_n rfl 1 rfl dX9_bell_90 ?_
    obtain ⟨hg_15, h⟩ := q_g h
    obtain ⟨ν_16, e_17, h⟩ := q_l h
    refine h_iast 4 rfl hg_15 e_17 dX9_bell_91 ?_
    refine go_iload_n rfl 2 rfl dX9_bell_92 ?_
    exact h_iret h dX9_bell_93 rfl
  · replace h := q_t h hc
    refine go_aload_n rfl 0 rfl dX9_bell_8 ?_
    refine go_iconst kz_iconst_m1 dX9_bell_9 ?_
    obtain ⟨r_18, h_19, h⟩ := q_b h
    refine h_callVi (st := []) [.int (-1)] (m_X9_no10 h_19) me_X9_no10 (g_recv cl7.1 rfl) tw_1235 tw_1237 tw_56 (hdd_of (by decide)) ⟨Nat.zero_le _, Nat.zero_le _⟩ rfl rfl (Nat.le_of_ble_eq_true rfl) dX9_bell_10 ?_
    exact h_iret h dX9_bell_13 rfl
noncomputable def f_X9_isSquare (x0 : Int32) (ν : gN) : Option (Int32 × gN) :=
  (f_X9_within x0 0 48 ν).bind (fun r_1 =>
    if zb r_1.1 = true then
      some (r_1.1, r_1.2)
    else none)
theorem me_X9_isSquare : g_me yX9_isSquare cX9_isSquare 1 ((Option.some .boolean)) 1 := ⟨tw_1068, tw_79, ⟨by decide +kernel, by decide +kernel, by decide +kernel⟩, by decide⟩
set_option maxRecDepth 20000 in
set_option maxHeartbeats 2000000 in
theorem m_X9_isSquare {X : gX} {ad : Nat → Nat} {x0 : Int32} {ν : gN} {r : Int32 × gN}  (h : f_X9_isSquare x0 ν = some r) : h_ct X ad yX9_isSquare cX9_isSquare 1 ((Option.some .boolean)) 2 [.int x0] ν (some (.int r.1), r.2) := by
  rw [f_X9_isSquare] at h
  refine h_ct_of (l := [(0, .int x0)]) (by decide) (Nat.le_of_ble_eq_true rfl) rfl ?_
  refine go_iload_n rfl 0 rfl dX9_isSquare_0 ?_
  refine go_iconst kz_iconst_0 dX9_isSquare_1 ?_
  refine go_bipush kz_bipush_48 dX9_isSquare_2 ?_
  obtain ⟨r_1, h_2, h⟩ := q_b h
  refine h_callSi (st := []) [.int x0, .int 0, .int 48] (m_X9_within h_2) me_X9_within tw_1005 tw_1006 (hdd_of (by decide)) ⟨Nat.zero_le _, Nat.zero_le _⟩ rfl rfl (Nat.le_of_ble_eq_true rfl) dX9_isSquare_4 ?_
  obtain ⟨hg_3, h⟩ := q_g h
  exact h_zret hg_3 h dX9_isSquare_7 rfl
noncomputable def f_X9_isOpen (x1 : Int32) (ν : gN) : Option (Int32 × gN) :=
  (f_X9_isSquare x1 ν).bind (fun r_1 =>
    if r_1.1 = 0 then
      some (0, r_1.2)
    else
      if inb x1 49 = true then
        if (r_1.2.1 60 x1.toNatClampNeg) = 0 then
          some (1, r_1.2)
        else
          some (0, r_1.2)
      else none)
theorem me_X9_isOpen : g_me yX9_isOpen cX9_isOpen 2 ((Option.some .boolean)) 1 := ⟨tw_1065, tw_79, ⟨by decide +kernel, by decide +kernel, by decide +kernel⟩, by decide⟩
set_option maxRecDepth 20000 in
set_option maxHeartbeats 2000000 in
theorem m_X9_isOpen {X : gX} {ad : Nat → Nat} {x1 : Int32} {ν : gN} {r : Int32 × gN}  (h : f_X9_isOpen x1 ν = some r) : h_ct X ad yX9_isOpen cX9_isOpen 2 ((Option.some .boolean)) 3 [.ref (ad 53), .int x1] ν (some (.int r.1), r.2) := by
  rw [f_X9_isOpen] at h
  refine h_ct_of (l := [(0, .ref (ad 53)), (1, .int x1)]) (by decide) (Nat.le_of_ble_eq_true rfl) rfl ?_
  refine go_iload_n rfl 1 rfl dX9_isOpen_0 ?_
  obtain ⟨r_1, h_2, h⟩ := q_b h
  refine h_callSi (st := []) [.int x1] (m_X9_isSquare h_2) me_X9_isSquare tw_1066 tw_1067 (hdd_of (by decide)) ⟨Nat.zero_le _, Nat.zero_le _⟩ rfl rfl (Nat.le_of_ble_eq_true rfl) dX9_isOpen_1 ?_
  refine go_if_eq (tgt := 20) dX9_isOpen_4 rfl (fun hc => ?_) (fun hc => ?_)
  · replace h := q_t h hc
    refine go_iconst kz_iconst_0 dX9_isOpen_20 ?_
    exact h_zret rfl h dX9_isOpen_21 rfl
  · replace h := q_f h hc
    refine go_aload_n rfl 0 rfl dX9_isOpen_7 ?_
    refine h_getr 7 cl7 rfl (by decide) tw_919 60 rfl dX9_isOpen_8 ?_
    refine go_iload_n rfl 1 rfl dX9_isOpen_11 ?_
    obtain ⟨hg_3, h⟩ := q_g h
    refine h_zald 49 rfl hg_3 dX9_isOpen_12 ?_
    refine go_if_ne (tgt := 20) dX9_isOpen_13 rfl (fun hc => ?_) (fun hc => ?_)
    · replace h := q_f h hc
      refine go_iconst kz_iconst_0 dX9_isOpen_20 ?_
      exact h_zret rfl h dX9_isOpen_21 rfl
    · replace h := q_t h hc
      refine go_iconst kz_iconst_1 dX9_isOpen_16 ?_
      refine go_goto (tgt := 21) dX9_isOpen_17 rfl ?_
      exact h_zret rfl h dX9_isOpen_21 rfl
noncomputable def f_X9_beside (x1 : Int32) (x2 : Int32) (ν : gN) : Option (Int32 × gN) :=
  if x2 = 0 then
    if x2 = 1 then
      if (j_rem x1 7) ≤ 0 then
        if (0 : Int32) = 0 then
          some ((-1), ν)
        else
          (f_X9_isOpen (x1 - 7) ν).bind (fun r_37 =>
            if r_37.1 = 0 then
              some ((-1), r_37.2)
            else
              some (x1 - 7, r_37.2))
      else
        if (1 : Int32) = 0 then
          some ((-1), ν)
        else
          (f_X9_isOpen (x1 - 7) ν).bind (fun r_39 =>
            if r_39.1 = 0 then
              some ((-1), r_39.2)
            else
              some (x1 - 7, r_39.2))
    else
      if x2 = 2 then
        if 6 ≤ (j_rem x1 7) then
          if (0 : Int32) = 0 then
            some ((-1), ν)
          else
            (f_X9_isOpen (x1 - 7) ν).bind (fun r_33 =>
              if r_33.1 = 0 then
                some ((-1), r_33.2)
              else
                some (x1 - 7, r_33.2))
        else
          if (1 : Int32) = 0 then
            some ((-1), ν)
          else
            (f_X9_isOpen (x1 - 7) ν).bind (fun r_35 =>
              if r_35.1 = 0 then
                some ((-1), r_35.2)
              else
                some (x1 - 7, r_35.2))
      else
        if (1 : Int32) = 0 then
          some ((-1), ν)
        else
          (f_X9_isOpen (x1 - 7) ν).bind (fun r_31 =>
            if r_31.1 = 0 then
              some ((-1), r_31.2)
            else
              some (x1 - 7, r_31.2))
  else
    if x2 = 1 then
      if x2 = 1 then
        if (j_rem x1 7) ≤ 0 then
          if (0 : Int32) = 0 then
            some ((-1), ν)
          else
            (f_X9_isOpen (x1 - 1) ν).bind (fun r_27 =>
              if r_27.1 = 0 then
                some ((-1), r_27.2)
              else
                some (x1 - 1, r_27.2))
        else
          if (1 : Int32) = 0 then
            some ((-1), ν)
          else
            (f_X9_isOpen (x1 - 1) ν).bind (fun r_29 =>
              if r_29.1 = 0 then
                some ((-1), r_29.2)
              else
                some (x1 - 1, r_29.2))
      else
        if x2 = 2 then
          if 6 ≤ (j_rem x1 7) then
            if (0 : Int32) = 0 then
              some ((-1), ν)
            else
              (f_X9_isOpen (x1 - 1) ν).bind (fun r_23 =>
                if r_23.1 = 0 then
                  some ((-1), r_23.2)
                else
                  some (x1 - 1, r_23.2))
          else
            if (1 : Int32) = 0 then
              some ((-1), ν)
            else
              (f_X9_isOpen (x1 - 1) ν).bind (fun r_25 =>
                if r_25.1 = 0 then
                  some ((-1), r_25.2)
                else
                  some (x1 - 1, r_25.2))
        else
          if (1 : Int32) = 0 then
            some ((-1), ν)
          else
            (f_X9_isOpen (x1 - 1) ν).bind (fun r_21 =>
              if r_21.1 = 0 then
                some ((-1), r_21.2)
              else
                some (x1 - 1, r_21.2))
    else
      if x2 = 2 then
        if x2 = 1 then
          if (j_rem x1 7) ≤ 0 then
            if (0 : Int32) = 0 then
              some ((-1), ν)
            else
              (f_X9_isOpen (x1 + 1) ν).bind (fun r_17 =>
                if r_17.1 = 0 then
                  some ((-1), r_17.2)
                else
                  some (x1 + 1, r_17.2))
          else
            if (1 : Int32) = 0 then
              some ((-1), ν)
            else
              (f_X9_isOpen (x1 + 1) ν).bind (fun r_19 =>
                if r_19.1 = 0 then
                  some ((-1), r_19.2)
                else
                  some (x1 + 1, r_19.2))
        else
          if x2 = 2 then
            if 6 ≤ (j_rem x1 7) then
              if (0 : Int32) = 0 then
                some ((-1), ν)
              else
                (f_X9_isOpen (x1 + 1) ν).bind (fun r_13 =>
                  if r_13.1 = 0 then
                    some ((-1), r_13.2)
                  else
                    some (x1 + 1, r_13.2))
            else
              if (1 : Int32) = 0 then
                some ((-1), ν)
              else
                (f_X9_isOpen (x1 + 1) ν).bind (fun r_15 =>
                  if r_15.1 = 0 then
                    some ((-1), r_15.2)
                  else
                    some (x1 + 1, r_15.2))
          else
            if (1 : Int32) = 0 then
              some ((-1), ν)
            else
              (f_X9_isOpen (x1 + 1) ν).bind (fun r_11 =>
                if r_11.1 = 0 then
                  some ((-1), r_11.2)
                else
                  some (x1 + 1, r_11.2))
      else
        if x2 = 1 then
          if (j_rem x1 7) ≤ 0 then
            if (0 : Int32) = 0 then
              some ((-1), ν)
            else
              (f_X9_isOpen (x1 + 7) ν).bind (fun r_7 =>
                if r_7.1 = 0 then
                  some ((-1), r_7.2)
                else
                  some (x1 + 7, r_7.2))
          else
            if (1 : Int32) = 0 then
              some ((-1), ν)
            else
              (f_X9_isOpen (x1 + 7) ν).bind (fun r_9 =>
                if r_9.1 = 0 then
                  some ((-1), r_9.2)
                else
                  some (x1 + 7, r_9.2))
        else
          if x2 = 2 then
            if 6 ≤ (j_rem x1 7) then
              if (0 : Int32) = 0 then
                some ((-1), ν)
              else
                (f_X9_isOpen (x1 + 7) ν).bind (fun r_3 =>
                  if r_3.1 = 0 then
                    some ((-1), r_3.2)
                  else
                    some (x1 + 7, r_3.2))
            else
              if (1 : Int32) = 0 then
                some ((-1), ν)
              else
                (f_X9_isOpen (x1 + 7) ν).bind (fun r_5 =>
                  if r_5.1 = 0 then
                    some ((-1), r_5.2)
                  else
                    some (x1 + 7, r_5.2))
          else
            if (1 : Int32) = 0 then
              some ((-1), ν)
            else
              (f_X9_isOpen (x1 + 7) ν).bind (fun r_1 =>
                if r_1.1 = 0 then
                  some ((-1), r_1.2)
                else
                  some (x1 + 7, r_1.2))
theorem me_X9_beside : g_me yX9_beside cX9_beside 5 ((Option.some .int)) 2 := ⟨tw_1179, tw_79, ⟨by decide +kernel, by decide +kernel, by decide +kernel⟩, by decide⟩
set_option maxRecDepth 20000 in
set_option maxHeartbeats 2000000 in
theorem m_X9_beside {X : gX} {ad : Nat → Nat} {x1 : Int32} {x2 : Int32} {ν : gN} {r : Int32 × gN}  (h : f_X9_beside x1 x2 ν = some r) : h_ct X ad yX9_beside cX9_beside 5 ((Option.some .int)) 4 [.ref (ad 53), .int x1, .int x2] ν (some (.int r.1), r.2) := by
  rw [f_X9_beside] at h
  refine h_ct_of (l := [(0, .ref (ad 53)), (1, .int x1), (2, .int x2)]) (by decide) (Nat.le_of_ble_eq_true rfl) rfl ?_
  refine go_iload_n rfl 2 rfl dX9_beside_0 ?_
  refine go_if_ne (tgt := 11) dX9_beside_1 rfl (fun hc => ?_) (fun hc => ?_)
  · replace h := q_f h hc
    refine go_iload_n rfl 2 rfl dX9_beside_11 ?_
    refine go_iconst kz_iconst_1 dX9_beside_12 ?_
    refine go_icmp_ne (tgt := 22) dX9_beside_13 rfl (fun hc => ?_) (fun hc => ?_)
    · replace h := q_f h hc
      refine go_iload_n rfl 2 rfl dX9_beside_22 ?_
      refine go_iconst kz_iconst_2 dX9_beside_23 ?_
      refine go_icmp_ne (tgt := 33) dX9_beside_24 rfl (fun hc => ?_) (fun hc => ?_)
      · replace h := q_f h hc
        refine go_iload_n rfl 1 rfl dX9_beside_33 ?_
        refine go_bipush kz_bipush_7 dX9_beside_34 ?_
        refine go_iadd dX9_beside_36 ?_
        refine go_istore_n (l' := [(3, .int (x1 + 7)), (0, .ref (ad 53)), (1, .int x1), (2, .int x2)]) dX9_beside_37 rfl (by decide) rfl ?_
        refine go_iload_n rfl 3 rfl dX9_beside_38 ?_
        refine go_iconst kz_iconst_1 dX9_beside_39 ?_
        refine go_icmp_ne (tgt := 58) dX9_beside_40 rfl (fun hc => ?_) (fun hc => ?_)
        · replace h := q_f h hc
          refine go_iload_n rfl 3 rfl dX9_beside_58 ?_
          refine go_iconst kz_iconst_2 dX9_beside_59 ?_
          refine go_icmp_ne (tgt := 72) dX9_beside_60 rfl (fun hc => ?_) (fun hc => ?_)
          · replace h := q_f h hc
            refine go_iconst kz_iconst_1 dX9_beside_72 ?_
            refine go_goto (tgt := 77) dX9_beside_73 rfl ?_
            refine go_istore (l' := [(4, .int 1), (3, .int (x1 + 7)), (0, .ref (ad 53)), (1, .int x1), (2, .int x2)]) dX9_beside_77 (by decide) rfl ?_
            refine go_iload 0 rfl dX9_beside_79 ?_
            refine go_if_eq (tgt := 96) dX9_beside_81 rfl (fun hc => ?_) (fun hc => ?_)
            · replace h := q_t h hc
              refine go_iconst kz_iconst_m1 dX9_beside_96 ?_
              exact h_iret h dX9_beside_97 rfl
            · replace h := q_f h hc
              refine go_aload_n rfl 2 rfl dX9_beside_84 ?_
              refine go_iload_n rfl 1 rfl dX9_beside_85 ?_
              obtain ⟨r_1, h_2, h⟩ := q_b h
              refine h_callVi (st := []) [.int (x1 + 7)] (m_X9_isOpen h_2) me_X9_isOpen (g_recv cl7.1 rfl) tw_1062 tw_1064 tw_28 (hdd_of (by decide)) ⟨Nat.zero_le _, Nat.zero_le _⟩ rfl rfl (Nat.le_of_ble_eq_true rfl) dX9_beside_86 ?_
              refine go_if_eq (tgt := 96) dX9_beside_89 rfl (fun hc => ?_) (fun hc => ?_)
              · replace h := q_t h hc
                refine go_iconst kz_iconst_m1 dX9_beside_96 ?_
                exact h_iret h dX9_beside_97 rfl
              · replace h := q_f h hc
                refine go_iload_n rfl 1 rfl dX9_beside_92 ?_
                refine go_goto (tgt := 97) dX9_beside_93 rfl ?_
                exact h_iret h dX9_beside_97 rfl
          · replace h := q_t h hc
            refine go_iload_n rfl 2 rfl dX9_beside_63 ?_
            refine go_bipush kz_bipush_7 dX9_beside_64 ?_
            refine h_irem (by decide) dX9_beside_66 ?_
            refine go_bipush kz_bipush_6 dX9_beside_67 ?_
            refine go_icmp_ge (tgt := 76) dX9_beside_69 rfl (fun hc => ?_) (fun hc => ?_)
            · replace h := q_t h hc
              refine go_iconst kz_iconst_0 dX9_beside_76 ?_
              refine go_istore (l' := [(4, .int 0), (3, .int (x1 + 7)), (0, .ref (ad 53)), (1, .int x1), (2, .int x2)]) dX9_beside_77 (by decide) rfl ?_
              refine go_iload 0 rfl dX9_beside_79 ?_
              refine go_if_eq (tgt := 96) dX9_beside_81 rfl (fun hc => ?_) (fun hc => ?_)
              · replace h := q_t h hc
                refine go_iconst kz_iconst_m1 dX9_beside_96 ?_
                exact h_iret h dX9_beside_97 rfl
              · replace h := q_f h hc
                refine go_aload_n rfl 2 rfl dX9_beside_84 ?_
                refine go_iload_n rfl 1 rfl dX9_beside_85 ?_
                obtain ⟨r_3, h_4, h⟩ := q_b h
                refine h_callVi (st := []) [.int (x1 + 7)] (m_X9_isOpen h_4) me_X9_isOpen (g_recv cl7.1 rfl) tw_1062 tw_1064 tw_28 (hdd_of (by decide)) ⟨Nat.zero_le _, Nat.zero_le _⟩ rfl rfl (Nat.le_of_ble_eq_true rfl) dX9_beside_86 ?_
                refine go_if_eq (tgt := 96) dX9_beside_89 rfl (fun hc => ?_) (fun hc => ?_)
                · replace h := q_t h hc
                  refine go_iconst kz_iconst_m1 dX9_beside_96 ?_
                  exact h_iret h dX9_beside_97 rfl
                · replace h := q_f h hc
                  refine go_iload_n rfl 1 rfl dX9_beside_92 ?_
                  refine go_goto (tgt := 97) dX9_beside_93 rfl ?_
                  exact h_iret h dX9_beside_97 rfl
            · replace h := q_f h hc
              refine go_iconst kz_iconst_1 dX9_beside_72 ?_
              refine go_goto (tgt := 77) dX9_beside_73 rfl ?_
              refine go_istore (l' := [(4, .int 1), (3, .int (x1 + 7)), (0, .ref (ad 53)), (1, .int x1), (2, .int x2)]) dX9_beside_77 (by decide) rfl ?_
              refine go_iload 0 rfl dX9_beside_79 ?_
              refine go_if_eq (tgt := 96) dX9_beside_81 rfl (fun hc => ?_) (fun hc => ?_)
              · replace h := q_t h hc
                refine go_iconst kz_iconst_m1 dX9_beside_96 ?_
                exact h_iret h dX9_beside_97 rfl
              · replace h := q_f h hc
                refine go_aload_n rfl 2 rfl dX9_beside_84 ?_
                refine go_iload_n rfl 1 rfl dX9_beside_85 ?_
                obtain ⟨r_5, h_6, h⟩ := q_b h
                refine h_callVi (st := []) [.int (x1 + 7)] (m_X9_isOpen h_6) me_X9_isOpen (g_recv cl7.1 rfl) tw_1062 tw_1064 tw_28 (hdd_of (by decide)) ⟨Nat.zero_le _, Nat.zero_le _⟩ rfl rfl (Nat.le_of_ble_eq_true rfl) dX9_beside_86 ?_
                refine go_if_eq (tgt := 96) dX9_beside_89 rfl (fun hc => ?_) (fun hc => ?_)
                · replace h := q_t h hc
                  refine go_iconst kz_iconst_m1 dX9_beside_96 ?_
                  exact h_iret h dX9_beside_97 rfl
                · replace h := q_f h hc
                  refine go_iload_n rfl 1 rfl dX9_beside_92 ?_
                  refine go_goto (tgt := 97) dX9_beside_93 rfl ?_
                  exact h_iret h dX9_beside_97 rfl
        · replace h := q_t h hc
          refine go_iload_n rfl 2 rfl dX9_beside_43 ?_
          refine go_bipush kz_bipush_7 dX9_beside_44 ?_
          refine h_irem (by decide) dX9_beside_46 ?_
          refine go_if_le (tgt := 54) dX9_beside_47 rfl (fun hc => ?_) (fun hc => ?_)
          · replace h := q_t h hc
            refine go_iconst kz_iconst_0 dX9_beside_54 ?_
            refine go_goto (tgt := 77) dX9_beside_55 rfl ?_
            refine go_istore (l' := [(4, .int 0), (3, .int (x1 + 7)), (0, .ref (ad 53)), (1, .int x1), (2, .int x2)]) dX9_beside_77 (by decide) rfl ?_
            refine go_iload 0 rfl dX9_beside_79 ?_
            refine go_if_eq (tgt := 96) dX9_beside_81 rfl (fun hc => ?_) (fun hc => ?_)
            · replace h := q_t h hc
              refine go_iconst kz_iconst_m1 dX9_beside_96 ?_
              exact h_iret h dX9_beside_97 rfl
            · replace h := q_f h hc
              refine go_aload_n rfl 2 rfl dX9_beside_84 ?_
              refine go_iload_n rfl 1 rfl dX9_beside_85 ?_
              obtain ⟨r_7, h_8, h⟩ := q_b h
              refine h_callVi (st := []) [.int (x1 + 7)] (m_X9_isOpen h_8) me_X9_isOpen (g_recv cl7.1 rfl) tw_1062 tw_1064 tw_28 (hdd_of (by decide)) ⟨Nat.zero_le _, Nat.zero_le _⟩ rfl rfl (Nat.le_of_ble_eq_true rfl) dX9_beside_86 ?_
              refine go_if_eq (tgt := 96) dX9_beside_89 rfl (fun hc => ?_) (fun hc => ?_)
              · replace h := q_t h hc
                refine go_iconst kz_iconst_m1 dX9_beside_96 ?_
                exact h_iret h dX9_beside_97 rfl
              · replace h := q_f h hc
                refine go_iload_n rfl 1 rfl dX9_beside_92 ?_
                refine go_goto (tgt := 97) dX9_beside_93 rfl ?_
                exact h_iret h dX9_beside_97 rfl
          · replace h := q_f h hc
            refine go_iconst kz_iconst_1 dX9_beside_50 ?_
            refine go_goto (tgt := 77) dX9_beside_51 rfl ?_
            refine go_istore (l' := [(4, .int 1), (3, .int (x1 + 7)), (0, .ref (ad 53)), (1, .int x1), (2, .int x2)]) dX9_beside_77 (by decide) rfl ?_
            refine go_iload 0 rfl dX9_beside_79 ?_
            refine go_if_eq (tgt := 96) dX9_beside_81 rfl (fun hc => ?_) (fun hc => ?_)
            · replace h := q_t h hc
              refine go_iconst kz_iconst_m1 dX9_beside_96 ?_
              exact h_iret h dX9_beside_97 rfl
            · replace h := q_f h hc
              refine go_aload_n rfl 2 rfl dX9_beside_84 ?_
              refine go_iload_n rfl 1 rfl dX9_beside_85 ?_
              obtain ⟨r_9, h_10, h⟩ := q_b h
              refine h_callVi (st := []) [.int (x1 + 7)] (m_X9_isOpen h_10) me_X9_isOpen (g_recv cl7.1 rfl) tw_1062 tw_1064 tw_28 (hdd_of (by decide)) ⟨Nat.zero_le _, Nat.zero_le _⟩ rfl rfl (Nat.le_of_ble_eq_true rfl) dX9_beside_86 ?_
              refine go_if_eq (tgt := 96) dX9_beside_89 rfl (fun hc => ?_) (fun hc => ?_)
              · replace h := q_t h hc
                refine go_iconst kz_iconst_m1 dX9_beside_96 ?_
                exact h_iret h dX9_beside_97 rfl
              · replace h := q_f h hc
                refine go_iload_n rfl 1 rfl dX9_beside_92 ?_
                refine go_goto (tgt := 97) dX9_beside_93 rfl ?_
                exact h_iret h dX9_beside_97 rfl
      · replace h := q_t h hc
        refine go_iload_n rfl 1 rfl dX9_beside_27 ?_
        refine go_iconst kz_iconst_1 dX9_beside_28 ?_
        refine go_iadd dX9_beside_29 ?_
        refine go_goto (tgt := 37) dX9_beside_30 rfl ?_
        refine go_istore_n (l' := [(3, .int (x1 + 1)), (0, .ref (ad 53)), (1, .int x1), (2, .int x2)]) dX9_beside_37 rfl (by decide) rfl ?_
        refine go_iload_n rfl 3 rfl dX9_beside_38 ?_
        refine go_iconst kz_iconst_1 dX9_beside_39 ?_
        refine go_icmp_ne (tgt := 58) dX9_beside_40 rfl (fun hc => ?_) (fun hc => ?_)
        · replace h := q_f h hc
          refine go_iload_n rfl 3 rfl dX9_beside_58 ?_
          refine go_iconst kz_iconst_2 dX9_beside_59 ?_
          refine go_icmp_ne (tgt := 72) dX9_beside_60 rfl (fun hc => ?_) (fun hc => ?_)
          · replace h := q_f h hc
            refine go_iconst kz_iconst_1 dX9_beside_72 ?_
            refine go_goto (tgt := 77) dX9_beside_73 rfl ?_
            refine go_istore (l' := [(4, .int 1), (3, .int (x1 + 1)), (0, .ref (ad 53)), (1, .int x1), (2, .int x2)]) dX9_beside_77 (by decide) rfl ?_
            refine go_iload 0 rfl dX9_beside_79 ?_
            refine go_if_eq (tgt := 96) dX9_beside_81 rfl (fun hc => ?_) (fun hc => ?_)
            · replace h := q_t h hc
              refine go_iconst kz_iconst_m1 dX9_beside_96 ?_
              exact h_iret h dX9_beside_97 rfl
            · replace h := q_f h hc
              refine go_aload_n rfl 2 rfl dX9_beside_84 ?_
              refine go_iload_n rfl 1 rfl dX9_beside_85 ?_
              obtain ⟨r_11, h_12, h⟩ := q_b h
              refine h_callVi (st := []) [.int (x1 + 1)] (m_X9_isOpen h_12) me_X9_isOpen (g_recv cl7.1 rfl) tw_1062 tw_1064 tw_28 (hdd_of (by decide)) ⟨Nat.zero_le _, Nat.zero_le _⟩ rfl rfl (Nat.le_of_ble_eq_true rfl) dX9_beside_86 ?_
              refine go_if_eq (tgt := 96) dX9_beside_89 rfl (fun hc => ?_) (fun hc => ?_)
              · replace h := q_t h hc
                refine go_iconst kz_iconst_m1 dX9_beside_96 ?_
                exact h_iret h dX9_beside_97 rfl
              · replace h := q_f h hc
                refine go_iload_n rfl 1 rfl dX9_beside_92 ?_
                refine go_goto (tgt := 97) dX9_beside_93 rfl ?_
                exact h_iret h dX9_beside_97 rfl
          · replace h := q_t h hc
            refine go_iload_n rfl 2 rfl dX9_beside_63 ?_
            refine go_bipush kz_bipush_7 dX9_beside_64 ?_
            refine h_irem (by decide) dX9_beside_66 ?_
            refine go_bipush kz_bipush_6 dX9_beside_67 ?_
            refine go_icmp_ge (tgt := 76) dX9_beside_69 rfl (fun hc => ?_) (fun hc => ?_)
            · replace h := q_t h hc
              refine go_iconst kz_iconst_0 dX9_beside_76 ?_
              refine go_istore (l' := [(4, .int 0), (3, .int (x1 + 1)), (0, .ref (ad 53)), (1, .int x1), (2, .int x2)]) dX9_beside_77 (by decide) rfl ?_
              refine go_iload 0 rfl dX9_beside_79 ?_
              refine go_if_eq (tgt := 96) dX9_beside_81 rfl (fun hc => ?_) (fun hc => ?_)
              · replace h := q_t h hc
                refine go_iconst kz_iconst_m1 dX9_beside_96 ?_
                exact h_iret h dX9_beside_97 rfl
              · replace h := q_f h hc
                refine go_aload_n rfl 2 rfl dX9_beside_84 ?_
                refine go_iload_n rfl 1 rfl dX9_beside_85 ?_
                obtain ⟨r_13, h_14, h⟩ := q_b h
                refine h_callVi (st := []) [.int (x1 + 1)] (m_X9_isOpen h_14) me_X9_isOpen (g_recv cl7.1 rfl) tw_1062 tw_1064 tw_28 (hdd_of (by decide)) ⟨Nat.zero_le _, Nat.zero_le _⟩ rfl rfl (Nat.le_of_ble_eq_true rfl) dX9_beside_86 ?_
                refine go_if_eq (tgt := 96) dX9_beside_89 rfl (fun hc => ?_) (fun hc => ?_)
                · replace h := q_t h hc
                  refine go_iconst kz_iconst_m1 dX9_beside_96 ?_
                  exact h_iret h dX9_beside_97 rfl
                · replace h := q_f h hc
                  refine go_iload_n rfl 1 rfl dX9_beside_92 ?_
                  refine go_goto (tgt := 97) dX9_beside_93 rfl ?_
                  exact h_iret h dX9_beside_97 rfl
            · replace h := q_f h hc
              refine go_iconst kz_iconst_1 dX9_beside_72 ?_
              refine go_goto (tgt := 77) dX9_beside_73 rfl ?_
              refine go_istore (l' := [(4, .int 1), (3, .int (x1 + 1)), (0, .ref (ad 53)), (1, .int x1), (2, .int x2)]) dX9_beside_77 (by decide) rfl ?_
              refine go_iload 0 rfl dX9_beside_79 ?_
              refine go_if_eq (tgt := 96) dX9_beside_81 rfl (fun hc => ?_) (fun hc => ?_)
              · replace h := q_t h hc
                refine go_iconst kz_iconst_m1 dX9_beside_96 ?_
                exact h_iret h dX9_beside_97 rfl
              · replace h := q_f h hc
                refine go_aload_n rfl 2 rfl dX9_beside_84 ?_
                refine go_iload_n rfl 1 rfl dX9_beside_85 ?_
                obtain ⟨r_15, h_16, h⟩ := q_b h
                refine h_callVi (st := []) [.int (x1 + 1)] (m_X9_isOpen h_16) me_X9_isOpen (g_recv cl7.1 rfl) tw_1062 tw_1064 tw_28 (hdd_of (by decide)) ⟨Nat.zero_le _, Nat.zero_le _⟩ rfl rfl (Nat.le_of_ble_eq_true rfl) dX9_beside_86 ?_
                refine go_if_eq (tgt := 96) dX9_beside_89 rfl (fun hc => ?_) (fun hc => ?_)
                · replace h := q_t h hc
                  refine go_iconst kz_iconst_m1 dX9_beside_96 ?_
                  exact h_iret h dX9_beside_97 rfl
                · replace h := q_f h hc
                  refine go_iload_n rfl 1 rfl dX9_beside_92 ?_
                  refine go_goto (tgt := 97) dX9_beside_93 rfl ?_
                  exact h_iret h dX9_beside_97 rfl
        · replace h := q_t h hc
          refine go_iload_n rfl 2 rfl dX9_beside_43 ?_
          refine go_bipush kz_bipush_7 dX9_beside_44 ?_
          refine h_irem (by decide) dX9_beside_46 ?_
          refine go_if_le (tgt := 54) dX9_beside_47 rfl (fun hc => ?_) (fun hc => ?_)
          · replace h := q_t h hc
            refine go_iconst kz_iconst_0 dX9_beside_54 ?_
            refine go_goto (tgt := 77) dX9_beside_55 rfl ?_
            refine go_istore (l' := [(4, .int 0), (3, .int (x1 + 1)), (0, .ref (ad 53)), (1, .int x1), (2, .int x2)]) dX9_beside_77 (by decide) rfl ?_
            refine go_iload 0 rfl dX9_beside_79 ?_
            refine go_if_eq (tgt := 96) dX9_beside_81 rfl (fun hc => ?_) (fun hc => ?_)
            · replace h := q_t h hc
              refine go_iconst kz_iconst_m1 dX9_beside_96 ?_
              exact h_iret h dX9_beside_97 rfl
            · replace h := q_f h hc
              refine go_aload_n rfl 2 rfl dX9_beside_84 ?_
              refine go_iload_n rfl 1 rfl dX9_beside_85 ?_
              obtain ⟨r_17, h_18, h⟩ := q_b h
              refine h_callVi (st := []) [.int (x1 + 1)] (m_X9_isOpen h_18) me_X9_isOpen (g_recv cl7.1 rfl) tw_1062 tw_1064 tw_28 (hdd_of (by decide)) ⟨Nat.zero_le _, Nat.zero_le _⟩ rfl rfl (Nat.le_of_ble_eq_true rfl) dX9_beside_86 ?_
              refine go_if_eq (tgt := 96) dX9_beside_89 rfl (fun hc => ?_) (fun hc => ?_)
              · replace h := q_t h hc
                refine go_iconst kz_iconst_m1 dX9_beside_96 ?_
                exact h_iret h dX9_beside_97 rfl
              · replace h := q_f h hc
                refine go_iload_n rfl 1 rfl dX9_beside_92 ?_
                refine go_goto (tgt := 97) dX9_beside_93 rfl ?_
                exact h_iret h dX9_beside_97 rfl
          · replace h := q_f h hc
            refine go_iconst kz_iconst_1 dX9_beside_50 ?_
            refine go_goto (tgt := 77) dX9_beside_51 rfl ?_
            refine go_istore (l' := [(4, .int 1), (3, .int (x1 + 1)), (0, .ref (ad 53)), (1, .int x1), (2, .int x2)]) dX9_beside_77 (by decide) rfl ?_
            refine go_iload 0 rfl dX9_beside_79 ?_
            refine go_if_eq (tgt := 96) dX9_beside_81 rfl (fun hc => ?_) (fun hc => ?_)
            · replace h := q_t h hc
              refine go_iconst kz_iconst_m1 dX9_beside_96 ?_
              exact h_iret h dX9_beside_97 rfl
            · replace h := q_f h hc
              refine go_aload_n rfl 2 rfl dX9_beside_84 ?_
              refine go_iload_n rfl 1 rfl dX9_beside_85 ?_
              obtain ⟨r_19, h_20, h⟩ := q_b h
              refine h_callVi (st := []) [.int (x1 + 1)] (m_X9_isOpen h_20) me_X9_isOpen (g_recv cl7.1 rfl) tw_1062 tw_1064 tw_28 (hdd_of (by decide)) ⟨Nat.zero_le _, Nat.zero_le _⟩ rfl rfl (Nat.le_of_ble_eq_true rfl) dX9_beside_86 ?_
              refine go_if_eq (tgt := 96) dX9_beside_89 rfl (fun hc => ?_) (fun hc => ?_)
              · replace h := q_t h hc
                refine go_iconst kz_iconst_m1 dX9_beside_96 ?_
                exact h_iret h dX9_beside_97 rfl
              · replace h := q_f h hc
                refine go_iload_n rfl 1 rfl dX9_beside_92 ?_
                refine go_goto (tgt := 97) dX9_beside_93 rfl ?_
                exact h_iret h dX9_beside_97 rfl
    · replace h := q_t h hc
      refine go_iload_n rfl 1 rfl dX9_beside_16 ?_
      refine go_iconst kz_iconst_1 dX9_beside_17 ?_
      refine go_isub dX9_beside_18 ?_
      refine go_goto (tgt := 37) dX9_beside_19 rfl ?_
      refine go_istore_n (l' := [(3, .int (x1 - 1)), (0, .ref (ad 53)), (1, .int x1), (2, .int x2)]) dX9_beside_37 rfl (by decide) rfl ?_
      refine go_iload_n rfl 3 rfl dX9_beside_38 ?_
      refine go_iconst kz_iconst_1 dX9_beside_39 ?_
      refine go_icmp_ne (tgt := 58) dX9_beside_40 rfl (fun hc => ?_) (fun hc => ?_)
      · replace h := q_f h hc
        refine go_iload_n rfl 3 rfl dX9_beside_58 ?_
        refine go_iconst kz_iconst_2 dX9_beside_59 ?_
        refine go_icmp_ne (tgt := 72) dX9_beside_60 rfl (fun hc => ?_) (fun hc => ?_)
        · replace h := q_f h hc
          refine go_iconst kz_iconst_1 dX9_beside_72 ?_
          refine go_goto (tgt := 77) dX9_beside_73 rfl ?_
          refine go_istore (l' := [(4, .int 1), (3, .int (x1 - 1)), (0, .ref (ad 53)), (1, .int x1), (2, .int x2)]) dX9_beside_77 (by decide) rfl ?_
          refine go_iload 0 rfl dX9_beside_79 ?_
          refine go_if_eq (tgt := 96) dX9_beside_81 rfl (fun hc => ?_) (fun hc => ?_)
          · replace h := q_t h hc
            refine go_iconst kz_iconst_m1 dX9_beside_96 ?_
            exact h_iret h dX9_beside_97 rfl
          · replace h := q_f h hc
            refine go_aload_n rfl 2 rfl dX9_beside_84 ?_
            refine go_iload_n rfl 1 rfl dX9_beside_85 ?_
            obtain ⟨r_21, h_22, h⟩ := q_b h
            refine h_callVi (st := []) [.int (x1 - 1)] (m_X9_isOpen h_22) me_X9_isOpen (g_recv cl7.1 rfl) tw_1062 tw_1064 tw_28 (hdd_of (by decide)) ⟨Nat.zero_le _, Nat.zero_le _⟩ rfl rfl (Nat.le_of_ble_eq_true rfl) dX9_beside_86 ?_
            refine go_if_eq (tgt := 96) dX9_beside_89 rfl (fun hc => ?_) (fun hc => ?_)
            · replace h := q_t h hc
              refine go_iconst kz_iconst_m1 dX9_beside_96 ?_
              exact h_iret h dX9_beside_97 rfl
            · replace h := q_f h hc
              refine go_iload_n rfl 1 rfl dX9_beside_92 ?_
              refine go_goto (tgt := 97) dX9_beside_93 rfl ?_
              exact h_iret h dX9_beside_97 rfl
        · replace h := q_t h hc
          refine go_iload_n rfl 2 rfl dX9_beside_63 ?_
          refine go_bipush kz_bipush_7 dX9_beside_64 ?_
          refine h_irem (by decide) dX9_beside_66 ?_
          refine go_bipush kz_bipush_6 dX9_beside_67 ?_
          refine go_icmp_ge (tgt := 76) dX9_beside_69 rfl (fun hc => ?_) (fun hc => ?_)
          · replace h := q_t h hc
            refine go_iconst kz_iconst_0 dX9_beside_76 ?_
            refine go_istore (l' := [(4, .int 0), (3, .int (x1 - 1)), (0, .ref (ad 53)), (1, .int x1), (2, .int x2)]) dX9_beside_77 (by decide) rfl ?_
            refine go_iload 0 rfl dX9_beside_79 ?_
            refine go_if_eq (tgt := 96) dX9_beside_81 rfl (fun hc => ?_) (fun hc => ?_)
            · replace h := q_t h hc
              refine go_iconst kz_iconst_m1 dX9_beside_96 ?_
              exact h_iret h dX9_beside_97 rfl
            · replace h := q_f h hc
              refine go_aload_n rfl 2 rfl dX9_beside_84 ?_
              refine go_iload_n rfl 1 rfl dX9_beside_85 ?_
              obtain ⟨r_23, h_24, h⟩ := q_b h
              refine h_callVi (st := []) [.int (x1 - 1)] (m_X9_isOpen h_24) me_X9_isOpen (g_recv cl7.1 rfl) tw_1062 tw_1064 tw_28 (hdd_of (by decide)) ⟨Nat.zero_le _, Nat.zero_le _⟩ rfl rfl (Nat.le_of_ble_eq_true rfl) dX9_beside_86 ?_
              refine go_if_eq (tgt := 96) dX9_beside_89 rfl (fun hc => ?_) (fun hc => ?_)
              · replace h := q_t h hc
                refine go_iconst kz_iconst_m1 dX9_beside_96 ?_
                exact h_iret h dX9_beside_97 rfl
              · replace h := q_f h hc
                refine go_iload_n rfl 1 rfl dX9_beside_92 ?_
                refine go_goto (tgt := 97) dX9_beside_93 rfl ?_
                exact h_iret h dX9_beside_97 rfl
          · replace h := q_f h hc
            refine go_iconst kz_iconst_1 dX9_beside_72 ?_
            refine go_goto (tgt := 77) dX9_beside_73 rfl ?_
            refine go_istore (l' := [(4, .int 1), (3, .int (x1 - 1)), (0, .ref (ad 53)), (1, .int x1), (2, .int x2)]) dX9_beside_77 (by decide) rfl ?_
            refine go_iload 0 rfl dX9_beside_79 ?_
            refine go_if_eq (tgt := 96) dX9_beside_81 rfl (fun hc => ?_) (fun hc => ?_)
            · replace h := q_t h hc
              refine go_iconst kz_iconst_m1 dX9_beside_96 ?_
              exact h_iret h dX9_beside_97 rfl
            · replace h := q_f h hc
              refine go_aload_n rfl 2 rfl dX9_beside_84 ?_
              refine go_iload_n rfl 1 rfl dX9_beside_85 ?_
              obtain ⟨r_25, h_26, h⟩ := q_b h
              refine h_callVi (st := []) [.int (x1 - 1)] (m_X9_isOpen h_26) me_X9_isOpen (g_recv cl7.1 rfl) tw_1062 tw_1064 tw_28 (hdd_of (by decide)) ⟨Nat.zero_le _, Nat.zero_le _⟩ rfl rfl (Nat.le_of_ble_eq_true rfl) dX9_beside_86 ?_
              refine go_if_eq (tgt := 96) dX9_beside_89 rfl (fun hc => ?_) (fun hc => ?_)
              · replace h := q_t h hc
                refine go_iconst kz_iconst_m1 dX9_beside_96 ?_
                exact h_iret h dX9_beside_97 rfl
              · replace h := q_f h hc
                refine go_iload_n rfl 1 rfl dX9_beside_92 ?_
                refine go_goto (tgt := 97) dX9_beside_93 rfl ?_
                exact h_iret h dX9_beside_97 rfl
      · replace h := q_t h hc
        refine go_iload_n rfl 2 rfl dX9_beside_43 ?_
        refine go_bipush kz_bipush_7 dX9_beside_44 ?_
        refine h_irem (by decide) dX9_beside_46 ?_
        refine go_if_le (tgt := 54) dX9_beside_47 rfl (fun hc => ?_) (fun hc => ?_)
        · replace h := q_t h hc
          refine go_iconst kz_iconst_0 dX9_beside_54 ?_
          refine go_goto (tgt := 77) dX9_beside_55 rfl ?_
          refine go_istore (l' := [(4, .int 0), (3, .int (x1 - 1)), (0, .ref (ad 53)), (1, .int x1), (2, .int x2)]) dX9_beside_77 (by decide) rfl ?_
          refine go_iload 0 rfl dX9_beside_79 ?_
          refine go_if_eq (tgt := 96) dX9_beside_81 rfl (fun hc => ?_) (fun hc => ?_)
          · replace h := q_t h hc
            refine go_iconst kz_iconst_m1 dX9_beside_96 ?_
            exact h_iret h dX9_beside_97 rfl
          · replace h := q_f h hc
            refine go_aload_n rfl 2 rfl dX9_beside_84 ?_
            refine go_iload_n rfl 1 rfl dX9_beside_85 ?_
            obtain ⟨r_27, h_28, h⟩ := q_b h
            refine h_callVi (st := []) [.int (x1 - 1)] (m_X9_isOpen h_28) me_X9_isOpen (g_recv cl7.1 rfl) tw_1062 tw_1064 tw_28 (hdd_of (by decide)) ⟨Nat.zero_le _, Nat.zero_le _⟩ rfl rfl (Nat.le_of_ble_eq_true rfl) dX9_beside_86 ?_
            refine go_if_eq (tgt := 96) dX9_beside_89 rfl (fun hc => ?_) (fun hc => ?_)
            · replace h := q_t h hc
              refine go_iconst kz_iconst_m1 dX9_beside_96 ?_
              exact h_iret h dX9_beside_97 rfl
            · replace h := q_f h hc
              refine go_iload_n rfl 1 rfl dX9_beside_92 ?_
              refine go_goto (tgt := 97) dX9_beside_93 rfl ?_
              exact h_iret h dX9_beside_97 rfl
        · replace h := q_f h hc
          refine go_iconst kz_iconst_1 dX9_beside_50 ?_
          refine go_goto (tgt := 77) dX9_beside_51 rfl ?_
          refine go_istore (l' := [(4, .int 1), (3, .int (x1 - 1)), (0, .ref (ad 53)), (1, .int x1), (2, .int x2)]) dX9_beside_77 (by decide) rfl ?_
          refine go_iload 0 rfl dX9_beside_79 ?_
          refine go_if_eq (tgt := 96) dX9_beside_81 rfl (fun hc => ?_) (fun hc => ?_)
          · replace h := q_t h hc
            refine go_iconst kz_iconst_m1 dX9_beside_96 ?_
            exact h_iret h dX9_beside_97 rfl
          · replace h := q_f h hc
            refine go_aload_n rfl 2 rfl dX9_beside_84 ?_
            refine go_iload_n rfl 1 rfl dX9_beside_85 ?_
            obtain ⟨r_29, h_30, h⟩ := q_b h
            refine h_callVi (st := []) [.int (x1 - 1)] (m_X9_isOpen h_30) me_X9_isOpen (g_recv cl7.1 rfl) tw_1062 tw_1064 tw_28 (hdd_of (by decide)) ⟨Nat.zero_le _, Nat.zero_le _⟩ rfl rfl (Nat.le_of_ble_eq_true rfl) dX9_beside_86 ?_
            refine go_if_eq (tgt := 96) dX9_beside_89 rfl (fun hc => ?_) (fun hc => ?_)
            · replace h := q_t h hc
              refine go_iconst kz_iconst_m1 dX9_beside_96 ?_
              exact h_iret h dX9_beside_97 rfl
            · replace h := q_f h hc
              refine go_iload_n rfl 1 rfl dX9_beside_92 ?_
              refine go_goto (tgt := 97) dX9_beside_93 rfl ?_
              exact h_iret h dX9_beside_97 rfl
  · replace h := q_t h hc
    refine go_iload_n rfl 1 rfl dX9_beside_4 ?_
    refine go_bipush kz_bipush_7 dX9_beside_5 ?_
    refine go_isub dX9_beside_7 ?_
    refine go_goto (tgt := 37) dX9_beside_8 rfl ?_
    refine go_istore_n (l' := [(3, .int (x1 - 7)), (0, .ref (ad 53)), (1, .int x1), (2, .int x2)]) dX9_beside_37 rfl (by decide) rfl ?_
    refine go_iload_n rfl 3 rfl dX9_beside_38 ?_
    refine go_iconst kz_iconst_1 dX9_beside_39 ?_
    refine go_icmp_ne (tgt := 58) dX9_beside_40 rfl (fun hc => ?_) (fun hc => ?_)
    · replace h := q_f h hc
      refine go_iload_n rfl 3 rfl dX9_beside_58 ?_
      refine go_iconst kz_iconst_2 dX9_beside_59 ?_
      refine go_icmp_ne (tgt := 72) dX9_beside_60 rfl (fun hc => ?_) (fun hc => ?_)
      · replace h := q_f h hc
        refine go_iconst kz_iconst_1 dX9_beside_72 ?_
        refine go_goto (tgt := 77) dX9_beside_73 rfl ?_
        refine go_istore (l' := [(4, .int 1), (3, .int (x1 - 7)), (0, .ref (ad 53)), (1, .int x1), (2, .int x2)]) dX9_beside_77 (by decide) rfl ?_
        refine go_iload 0 rfl dX9_beside_79 ?_
        refine go_if_eq (tgt := 96) dX9_beside_81 rfl (fun hc => ?_) (fun hc => ?_)
        · replace h := q_t h hc
          refine go_iconst kz_iconst_m1 dX9_beside_96 ?_
          exact h_iret h dX9_beside_97 rfl
        · replace h := q_f h hc
          refine go_aload_n rfl 2 rfl dX9_beside_84 ?_
          refine go_iload_n rfl 1 rfl dX9_beside_85 ?_
          obtain ⟨r_31, h_32, h⟩ := q_b h
          refine h_callVi (st := []) [.int (x1 - 7)] (m_X9_isOpen h_32) me_X9_isOpen (g_recv cl7.1 rfl) tw_1062 tw_1064 tw_28 (hdd_of (by decide)) ⟨Nat.zero_le _, Nat.zero_le _⟩ rfl rfl (Nat.le_of_ble_eq_true rfl) dX9_beside_86 ?_
          refine go_if_eq (tgt := 96) dX9_beside_89 rfl (fun hc => ?_) (fun hc => ?_)
          · replace h := q_t h hc
            refine go_iconst kz_iconst_m1 dX9_beside_96 ?_
            exact h_iret h dX9_beside_97 rfl
          · replace h := q_f h hc
            refine go_iload_n rfl 1 rfl dX9_beside_92 ?_
            refine go_goto (tgt := 97) dX9_beside_93 rfl ?_
            exact h_iret h dX9_beside_97 rfl
      · replace h := q_t h hc
        refine go_iload_n rfl 2 rfl dX9_beside_63 ?_
        refine go_bipush kz_bipush_7 dX9_beside_64 ?_
        refine h_irem (by decide) dX9_beside_66 ?_
        refine go_bipush kz_bipush_6 dX9_beside_67 ?_
        refine go_icmp_ge (tgt := 76) dX9_beside_69 rfl (fun hc => ?_) (fun hc => ?_)
        · replace h := q_t h hc
          refine go_iconst kz_iconst_0 dX9_beside_76 ?_
          refine go_istore (l' := [(4, .int 0), (3, .int (x1 - 7)), (0, .ref (ad 53)), (1, .int x1), (2, .int x2)]) dX9_beside_77 (by decide) rfl ?_
          refine go_iload 0 rfl dX9_beside_79 ?_
          refine go_if_eq (tgt := 96) dX9_beside_81 rfl (fun hc => ?_) (fun hc => ?_)
          · replace h := q_t h hc
            refine go_iconst kz_iconst_m1 dX9_beside_96 ?_
            exact h_iret h dX9_beside_97 rfl
          · replace h := q_f h hc
            refine go_aload_n rfl 2 rfl dX9_beside_84 ?_
            refine go_iload_n rfl 1 rfl dX9_beside_85 ?_
            obtain ⟨r_33, h_34, h⟩ := q_b h
            refine h_callVi (st := []) [.int (x1 - 7)] (m_X9_isOpen h_34) me_X9_isOpen (g_recv cl7.1 rfl) tw_1062 tw_1064 tw_28 (hdd_of (by decide)) ⟨Nat.zero_le _, Nat.zero_le _⟩ rfl rfl (Nat.le_of_ble_eq_true rfl) dX9_beside_86 ?_
            refine go_if_eq (tgt := 96) dX9_beside_89 rfl (fun hc => ?_) (fun hc => ?_)
            · replace h := q_t h hc
              refine go_iconst kz_iconst_m1 dX9_beside_96 ?_
              exact h_iret h dX9_beside_97 rfl
            · replace h := q_f h hc
              refine go_iload_n rfl 1 rfl dX9_beside_92 ?_
              refine go_goto (tgt := 97) dX9_beside_93 rfl ?_
              exact h_iret h dX9_beside_97 rfl
        · replace h := q_f h hc
          refine go_iconst kz_iconst_1 dX9_beside_72 ?_
          refine go_goto (tgt := 77) dX9_beside_73 rfl ?_
          refine go_istore (l' := [(4, .int 1), (3, .int (x1 - 7)), (0, .ref (ad 53)), (1, .int x1), (2, .int x2)]) dX9_beside_77 (by decide) rfl ?_
          refine go_iload 0 rfl dX9_beside_79 ?_
          refine go_if_eq (tgt := 96) dX9_beside_81 rfl (fun hc => ?_) (fun hc => ?_)
          · replace h := q_t h hc
            refine go_iconst kz_iconst_m1 dX9_beside_96 ?_
            exact h_iret h dX9_beside_97 rfl
          · replace h := q_f h hc
            refine go_aload_n rfl 2 rfl dX9_beside_84 ?_
            refine go_iload_n rfl 1 rfl dX9_beside_85 ?_
            obtain ⟨r_35, h_36, h⟩ := q_b h
            refine h_callVi (st := []) [.int (x1 - 7)] (m_X9_isOpen h_36) me_X9_isOpen (g_recv cl7.1 rfl) tw_1062 tw_1064 tw_28 (hdd_of (by decide)) ⟨Nat.zero_le _, Nat.zero_le _⟩ rfl rfl (Nat.le_of_ble_eq_true rfl) dX9_beside_86 ?_
            refine go_if_eq (tgt := 96) dX9_beside_89 rfl (fun hc => ?_) (fun hc => ?_)
            · replace h := q_t h hc
              refine go_iconst kz_iconst_m1 dX9_beside_96 ?_
              exact h_iret h dX9_beside_97 rfl
            · replace h := q_f h hc
              refine go_iload_n rfl 1 rfl dX9_beside_92 ?_
              refine go_goto (tgt := 97) dX9_beside_93 rfl ?_
              exact h_iret h dX9_beside_97 rfl
    · replace h := q_t h hc
      refine go_iload_n rfl 2 rfl dX9_beside_43 ?_
      refine go_bipush kz_bipush_7 dX9_beside_44 ?_
      refine h_irem (by decide) dX9_beside_46 ?_
      refine go_if_le (tgt := 54) dX9_beside_47 rfl (fun hc => ?_) (fun hc => ?_)
      · replace h := q_t h hc
        refine go_iconst kz_iconst_0 dX9_beside_54 ?_
        refine go_goto (tgt := 77) dX9_beside_55 rfl ?_
        refine go_istore (l' := [(4, .int 0), (3, .int (x1 - 7)), (0, .ref (ad 53)), (1, .int x1), (2, .int x2)]) dX9_beside_77 (by decide) rfl ?_
        refine go_iload 0 rfl dX9_beside_79 ?_
        refine go_if_eq (tgt := 96) dX9_beside_81 rfl (fun hc => ?_) (fun hc => ?_)
        · replace h := q_t h hc
          refine go_iconst kz_iconst_m1 dX9_beside_96 ?_
          exact h_iret h dX9_beside_97 rfl
        · replace h := q_f h hc
          refine go_aload_n rfl 2 rfl dX9_beside_84 ?_
          refine go_iload_n rfl 1 rfl dX9_beside_85 ?_
          obtain ⟨r_37, h_38, h⟩ := q_b h
          refine h_callVi (st := []) [.int (x1 - 7)] (m_X9_isOpen h_38) me_X9_isOpen (g_recv cl7.1 rfl) tw_1062 tw_1064 tw_28 (hdd_of (by decide)) ⟨Nat.zero_le _, Nat.zero_le _⟩ rfl rfl (Nat.le_of_ble_eq_true rfl) dX9_beside_86 ?_
          refine go_if_eq (tgt := 96) dX9_beside_89 rfl (fun hc => ?_) (fun hc => ?_)
          · replace h := q_t h hc
            refine go_iconst kz_iconst_m1 dX9_beside_96 ?_
            exact h_iret h dX9_beside_97 rfl
          · replace h := q_f h hc
            refine go_iload_n rfl 1 rfl dX9_beside_92 ?_
            refine go_goto (tgt := 97) dX9_beside_93 rfl ?_
            exact h_iret h dX9_beside_97 rfl
      · replace h := q_f h hc
        refine go_iconst kz_iconst_1 dX9_beside_50 ?_
        refine go_goto (tgt := 77) dX9_beside_51 rfl ?_
        refine go_istore (l' := [(4, .int 1), (3, .int (x1 - 7)), (0, .ref (ad 53)), (1, .int x1), (2, .int x2)]) dX9_beside_77 (by decide) rfl ?_
        refine go_iload 0 rfl dX9_beside_79 ?_
        refine go_if_eq (tgt := 96) dX9_beside_81 rfl (fun hc => ?_) (fun hc => ?_)
        · replace h := q_t h hc
          refine go_iconst kz_iconst_m1 dX9_beside_96 ?_
          exact h_iret h dX9_beside_97 rfl
        · replace h := q_f h hc
          refine go_aload_n rfl 2 rfl dX9_beside_84 ?_
          refine go_iload_n rfl 1 rfl dX9_beside_85 ?_
          obtain ⟨r_39, h_40, h⟩ := q_b h
          refine h_callVi (st := []) [.int (x1 - 7)] (m_X9_isOpen h_40) me_X9_isOpen (g_recv cl7.1 rfl) tw_1062 tw_1064 tw_28 (hdd_of (by decide)) ⟨Nat.zero_le _, Nat.zero_le _⟩ rfl rfl (Nat.le_of_ble_eq_true rfl) dX9_beside_86 ?_
          refine go_if_eq (tgt := 96) dX9_beside_89 rfl (fun hc => ?_) (fun hc => ?_)
          · replace h := q_t h hc
            refine go_iconst kz_iconst_m1 dX9_beside_96 ?_
            exact h_iret h dX9_beside_97 rfl
          · replace h := q_f h hc
            refine go_iload_n rfl 1 rfl dX9_beside_92 ?_
            refine go_goto (tgt := 97) dX9_beside_93 rfl ?_
            exact h_iret h dX9_beside_97 rfl
noncomputable def f_X9_weight_L4 (y1 : Int32) (k38 : Int32 → gN → Option (Int32 × gN)) : Nat → Int32 → Int32 → gN → Option (Int32 × gN)
  | 0, _, _, _ => none
  | n + 1, y2, y3, ν =>
    if (ν.1 53 0) ≤ y3 then
      k38 y2 ν
    else
      if ((j_shr y1 y3) &&& 1) = 1 then
        if inb y3 7 = true then
          f_X9_weight_L4 y1 k38 n (y2 + ((ν.1 55 y3.toNatClampNeg) + 1)) (y3 + 1) ν
        else none
      else
        f_X9_weight_L4 y1 k38 n y2 (y3 + 1) ν
noncomputable def f_X9_weight (x1 : Int32) (ν : gN) : Option (Int32 × gN) :=
  f_X9_weight_L4 x1 (fun z2_2 ν_3 =>
    some (z2_2, ν_3)) FU 0 0 ν
theorem me_X9_weight : g_me yX9_weight cX9_weight 4 ((Option.some .int)) 1 := ⟨tw_1291, tw_79, ⟨by decide +kernel, by decide +kernel, by decide +kernel⟩, by decide⟩
set_option maxRecDepth 20000 in
set_option maxHeartbeats 2000000 in
theorem m_X9_weight_L4 {X : gX} {ad : Nat → Nat} {y1 : Int32} {k38 : Int32 → gN → Option (Int32 × gN)}  : ∀ (n : Nat) (y2 : Int32) (y3 : Int32) (ν : gN) (r : Int32 × gN), f_X9_weight_L4 y1 k38 n y2 y3 ν = some r → (∀ (z2 : Int32) (ν1 : gN), k38 z2 ν1 = some r → h_go X ad RX9 "weight" cX9_weight 4 ((Option.some .int)) 1 (some (.int r.1), r.2) 38 [(2, .int z2)] [] ν1) → h_go X ad RX9 "weight" cX9_weight 4 ((Option.some .int)) 1 (some (.int r.1), r.2) 4 [(0, .ref (ad 53)), (1, .int y1), (2, .int y2), (3, .int y3)] [] ν := by
  intro n
  induction n with
  | zero => intro y2 y3 ν r h hk38; rw [f_X9_weight_L4] at h; exact q_n h
  | succ n ih =>
    intro y2 y3 ν r h hk38
    rw [f_X9_weight_L4] at h
    refine go_iload_n rfl 3 rfl dX9_weight_4 ?_
    refine go_aload_n rfl 0 rfl dX9_weight_5 ?_
    refine h_geti 0 cl7 rfl (by decide) tw_912 rfl dX9_weight_6 ?_
    refine go_icmp_ge (tgt := 38) dX9_weight_9 rfl (fun hc => ?_) (fun hc => ?_)
    · replace h := q_t h hc
      refine go_sub (l' := [(2, .int y2)]) [2] rfl ?_
      exact hk38 _ _ h
    · replace h := q_f h hc
      refine go_iload_n rfl 1 rfl dX9_weight_12 ?_
      refine go_iload_n rfl 3 rfl dX9_weight_13 ?_
      refine h_ishr dX9_weight_14 ?_
      refine go_iconst kz_iconst_1 dX9_weight_15 ?_
      refine go_iand dX9_weight_16 ?_
      refine go_iconst kz_iconst_1 dX9_weight_17 ?_
      refine go_icmp_ne (tgt := 32) dX9_weight_18 rfl (fun hc => ?_) (fun hc => ?_)
      · replace h := q_f h hc
        refine h_iinc (l' := [(3, .int (y3 + 1)), (0, .ref (ad 53)), (1, .int y1), (2, .int y2)]) dX9_weight_32 3 rfl kz_iconst_1 (by decide) rfl ?_
        refine go_goto (tgt := 4) dX9_weight_35 rfl ?_
        refine go_sub (l' := [(0, .ref (ad 53)), (1, .int y1), (2, .int y2), (3, .int (y3 + 1))]) [1, 2, 3, 0] rfl ?_
        exact ih _ _ _ _ h hk38
      · replace h := q_t h hc
        refine go_iload_n rfl 2 rfl dX9_weight_21 ?_
        refine go_aload_n rfl 0 rfl dX9_weight_22 ?_
        refine h_getr 2 cl7 rfl (by decide) tw_914 55 rfl dX9_weight_23 ?_
        refine go_iload_n rfl 3 rfl dX9_weight_26 ?_
        obtain ⟨hg_1, h⟩ := q_g h
        refine h_iald 7 rfl hg_1 dX9_weight_27 ?_
        refine go_iconst kz_iconst_1 dX9_weight_28 ?_
        refine go_iadd dX9_weight_29 ?_
        refine go_iadd dX9_weight_30 ?_
        refine go_istore_n (l' := [(2, .int (y2 + ((ν.1 55 y3.toNatClampNeg) + 1))), (0, .ref (ad 53)), (1, .int y1), (3, .int y3)]) dX9_weight_31 rfl (by decide) rfl ?_
        refine h_iinc (l' := [(3, .int (y3 + 1)), (2, .int (y2 + ((ν.1 55 y3.toNatClampNeg) + 1))), (0, .ref (ad 53)), (1, .int y1)]) dX9_weight_32 3 rfl kz_iconst_1 (by decide) rfl ?_
        refine go_goto (tgt := 4) dX9_weight_35 rfl ?_
        refine go_sub (l' := [(0, .ref (ad 53)), (1, .int y1), (2, .int (y2 + ((ν.1 55 y3.toNatClampNeg) + 1))), (3, .int (y3 + 1))]) [2, 3, 1, 0] rfl ?_
        exact ih _ _ _ _ h hk38
set_option maxRecDepth 20000 in
set_option maxHeartbeats 2000000 in
theorem m_X9_weight {X : gX} {ad : Nat → Nat} {x1 : Int32} {ν : gN} {r : Int32 × gN}  (h : f_X9_weight x1 ν = some r) : h_ct X ad yX9_weight cX9_weight 4 ((Option.some .int)) 1 [.ref (ad 53), .int x1] ν (some (.int r.1), r.2) := by
  rw [f_X9_weight] at h
  refine h_ct_of (l := [(0, .ref (ad 53)), (1, .int x1)]) (by decide) (Nat.le_of_ble_eq_true rfl) rfl ?_
  refine go_iconst kz_iconst_0 dX9_weight_0 ?_
  refine go_istore_n (l' := [(2, .int 0), (0, .ref (ad 53)), (1, .int x1)]) dX9_weight_1 rfl (by decide) rfl ?_
  refine go_iconst kz_iconst_0 dX9_weight_2 ?_
  refine go_istore_n (l' := [(3, .int 0), (2, .int 0), (0, .ref (ad 53)), (1, .int x1)]) dX9_weight_3 rfl (by decide) rfl ?_
  refine go_sub (l' := [(0, .ref (ad 53)), (1, .int x1), (2, .int 0), (3, .int 0)]) [2, 3, 1, 0] rfl ?_
  refine m_X9_weight_L4  FU _ _ _ _ h (fun z2_2 ν_3 h => ?_)
  refine go_iload_n rfl 0 rfl dX9_weight_38 ?_
  exact h_iret h dX9_weight_39 rfl
noncomputable def f_X9_carry (x1 : Int32) (x2 : Int32) (ν : gN) : Option (Int32 × gN) :=
  (f_X9_weight x1 ν).bind (fun r_1 =>
    (f_X9_weight x2 r_1.2).bind (fun r_3 =>
      if (2 * r_1.1) ≤ r_3.1 then
        some (0, r_3.2)
      else
        some (1, r_3.2)))
theorem me_X9_carry : g_me yX9_carry cX9_carry 3 ((Option.some .boolean)) 2 := ⟨tw_1287, tw_79, ⟨by decide +kernel, by decide +kernel, by decide +kernel⟩, by decide⟩
set_option maxRecDepth 20000 in
set_option maxHeartbeats 2000000 in
theorem m_X9_carry {X : gX} {ad : Nat → Nat} {x1 : Int32} {x2 : Int32} {ν : gN} {r : Int32 × gN}  (h : f_X9_carry x1 x2 ν = some r) : h_ct X ad yX9_carry cX9_carry 3 ((Option.some .boolean)) 2 [.ref (ad 53), .int x1, .int x2] ν (some (.int r.1), r.2) := by
  rw [f_X9_carry] at h
  refine h_ct_of (l := [(0, .ref (ad 53)), (1, .int x1), (2, .int x2)]) (by decide) (Nat.le_of_ble_eq_true rfl) rfl ?_
  refine go_iconst kz_iconst_2 dX9_carry_0 ?_
  refine go_aload_n rfl 0 rfl dX9_carry_1 ?_
  refine go_iload_n rfl 1 rfl dX9_carry_2 ?_
  obtain ⟨r_1, h_2, h⟩ := q_b h
  refine h_callVi (st := [.int 2]) [.int x1] (m_X9_weight h_2) me_X9_weight (g_recv cl7.1 rfl) tw_1288 tw_1290 tw_62 (hdd_of (by decide)) ⟨Nat.zero_le _, Nat.zero_le _⟩ rfl rfl (Nat.le_of_ble_eq_true rfl) dX9_carry_3 ?_
  refine go_imul dX9_carry_6 ?_
  refine go_aload_n rfl 0 rfl dX9_carry_7 ?_
  refine go_iload_n rfl 2 rfl dX9_carry_8 ?_
  obtain ⟨r_3, h_4, h⟩ := q_b h
  refine h_callVi (st := [.int (2 * r_1.1)]) [.int x2] (m_X9_weight h_4) me_X9_weight (g_recv cl7.1 rfl) tw_1288 tw_1290 tw_62 (hdd_of (by decide)) ⟨Nat.zero_le _, Nat.zero_le _⟩ rfl rfl (Nat.le_of_ble_eq_true rfl) dX9_carry_9 ?_
  refine go_icmp_le (tgt := 19) dX9_carry_12 rfl (fun hc => ?_) (fun hc => ?_)
  · replace h := q_t h hc
    refine go_iconst kz_iconst_0 dX9_carry_19 ?_
    exact h_zret rfl h dX9_carry_20 rfl
  · replace h := q_f h hc
    refine go_iconst kz_iconst_1 dX9_carry_15 ?_
    refine go_goto (tgt := 20) dX9_carry_16 rfl ?_
    exact h_zret rfl h dX9_carry_20 rfl
noncomputable def f_X9_carries_L19 (y1 : Int32) (k64 : Int32 → gN → Option (Int32 × gN)) : Nat → Int32 → Int32 → gN → Option (Int32 × gN)
  | 0, _, _, _ => none
  | n + 1, y2, y3, ν =>
    if y1 < y3 then
      k64 y2 ν
    else
      if (y3 &&& (y1 ^^^ (-1))) = 0 then
        (f_X9_carry y3 y1 ν).bind (fun r_3 =>
          if r_3.1 = 0 then
            f_X9_carries_L19 y1 k64 n y2 (y3 + 1) r_3.2
          else
            if y2 = 0 then
              f_X9_carries_L19 y1 k64 n y3 (y3 + 1) r_3.2
            else
              (f_J6_bitCount_0f7a4 y3 r_3.2).bind (fun r_5 =>
                (f_J6_bitCount_0f7a4 y2 r_5.2).bind (fun r_7 =>
                  if r_7.1 ≤ r_5.1 then
                    f_X9_carries_L19 y1 k64 n y2 (y3 + 1) r_7.2
                  else
                    f_X9_carries_L19 y1 k64 n y3 (y3 + 1) r_7.2)))
      else
        f_X9_carries_L19 y1 k64 n y2 (y3 + 1) ν
noncomputable def f_X9_carries (x1 : Int32) (ν : gN) : Option (Int32 × gN) :=
  (f_X9_areThere x1 ν).bind (fun r_1 =>
    if r_1.1 = 0 then
      (f_X9_no (-6) r_1.2).bind (fun r_11 =>
        some (r_11.1, r_11.2))
    else
      f_X9_carries_L19 x1 (fun z2_9 ν_10 =>
        some (z2_9, ν_10)) FU 0 1 r_1.2)
theorem me_X9_carries : g_me yX9_carries cX9_carries 4 ((Option.some .int)) 1 := ⟨tw_1299, tw_79, ⟨by decide +kernel, by decide +kernel, by decide +kernel⟩, by decide⟩
set_option maxRecDepth 20000 in
set_option maxHeartbeats 2000000 in
theorem m_X9_carries_L19 {X : gX} {ad : Nat → Nat} {y1 : Int32} {k64 : Int32 → gN → Option (Int32 × gN)}  : ∀ (n : Nat) (y2 : Int32) (y3 : Int32) (ν : gN) (r : Int32 × gN), f_X9_carries_L19 y1 k64 n y2 y3 ν = some r → (∀ (z2 : Int32) (ν1 : gN), k64 z2 ν1 = some r → h_go X ad RX9 "carries" cX9_carries 4 ((Option.some .int)) 3 (some (.int r.1), r.2) 64 [(2, .int z2)] [] ν1) → h_go X ad RX9 "carries" cX9_carries 4 ((Option.some .int)) 3 (some (.int r.1), r.2) 19 [(0, .ref (ad 53)), (1, .int y1), (2, .int y2), (3, .int y3)] [] ν := by
  intro n
  induction n with
  | zero => intro y2 y3 ν r h hk64; rw [f_X9_carries_L19] at h; exact q_n h
  | succ n ih =>
    intro y2 y3 ν r h hk64
    rw [f_X9_carries_L19] at h
    refine go_iload_n rfl 3 rfl dX9_carries_19 ?_
    refine go_iload_n rfl 1 rfl dX9_carries_20 ?_
    refine go_icmp_gt (tgt := 64) dX9_carries_21 rfl (fun hc => ?_) (fun hc => ?_)
    · replace h := q_t h hc
      refine go_sub (l' := [(2, .int y2)]) [2] rfl ?_
      exact hk64 _ _ h
    · replace h := q_f h hc
      refine go_iload_n rfl 3 rfl dX9_carries_24 ?_
      refine go_iload_n rfl 1 rfl dX9_carries_25 ?_
      refine go_iconst kz_iconst_m1 dX9_carries_26 ?_
      refine go_ixor dX9_carries_27 ?_
      refine go_iand dX9_carries_28 ?_
      refine go_if_ne (tgt := 58) dX9_carries_29 rfl (fun hc => ?_) (fun hc => ?_)
      · replace h := q_f h hc
        refine h_iinc (l' := [(3, .int (y3 + 1)), (0, .ref (ad 53)), (1, .int y1), (2, .int y2)]) dX9_carries_58 3 rfl kz_iconst_1 (by decide) rfl ?_
        refine go_goto (tgt := 19) dX9_carries_61 rfl ?_
        refine go_sub (l' := [(0, .ref (ad 53)), (1, .int y1), (2, .int y2), (3, .int (y3 + 1))]) [1, 2, 3, 0] rfl ?_
        exact ih _ _ _ _ h hk64
      · replace h := q_t h hc
        refine go_aload_n rfl 0 rfl dX9_carries_32 ?_
        refine go_iload_n rfl 3 rfl dX9_carries_33 ?_
        refine go_iload_n rfl 1 rfl dX9_carries_34 ?_
        obtain ⟨r_3, h_4, h⟩ := q_b h
        refine h_callVi (st := []) [.int y3, .int y1] (m_X9_carry h_4) me_X9_carry (g_recv cl7.1 rfl) tw_1284 tw_1286 tw_61 (hdd_of (by decide)) ⟨Nat.zero_le _, Nat.zero_le _⟩ rfl rfl (Nat.le_of_ble_eq_true rfl) dX9_carries_35 ?_
        refine go_if_eq (tgt := 58) dX9_carries_38 rfl (fun hc => ?_) (fun hc => ?_)
        · replace h := q_t h hc
          refine h_iinc (l' := [(3, .int (y3 + 1)), (0, .ref (ad 53)), (1, .int y1), (2, .int y2)]) dX9_carries_58 3 rfl kz_iconst_1 (by decide) rfl ?_
          refine go_goto (tgt := 19) dX9_carries_61 rfl ?_
          refine go_sub (l' := [(0, .ref (ad 53)), (1, .int y1), (2, .int y2), (3, .int (y3 + 1))]) [1, 2, 3, 0] rfl ?_
          exact ih _ _ _ _ h hk64
        · replace h := q_f h hc
          refine go_iload_n rfl 2 rfl dX9_carries_41 ?_
          refine go_if_eq (tgt := 56) dX9_carries_42 rfl (fun hc => ?_) (fun hc => ?_)
          · replace h := q_t h hc
            refine go_iload_n rfl 3 rfl dX9_carries_56 ?_
            refine go_istore_n (l' := [(2, .int y3), (0, .ref (ad 53)), (1, .int y1), (3, .int y3)]) dX9_carries_57 rfl (by decide) rfl ?_
            refine h_iinc (l' := [(3, .int (y3 + 1)), (2, .int y3), (0, .ref (ad 53)), (1, .int y1)]) dX9_carries_58 3 rfl kz_iconst_1 (by decide) rfl ?_
            refine go_goto (tgt := 19) dX9_carries_61 rfl ?_
            refine go_sub (l' := [(0, .ref (ad 53)), (1, .int y1), (2, .int y3), (3, .int (y3 + 1))]) [2, 3, 1, 0] rfl ?_
            exact ih _ _ _ _ h hk64
          · replace h := q_f h hc
            refine go_iload_n rfl 3 rfl dX9_carries_45 ?_
            obtain ⟨r_5, h_6, h⟩ := q_b h
            refine h_callSi (st := []) [.int y3] (m_J6_bitCount_0f7a4 h_6) me_J6_bitCount_0f7a4 tw_1292 tw_795 (hdd_of (by decide)) ⟨Nat.zero_le _, Nat.zero_le _⟩ rfl rfl (Nat.le_of_ble_eq_true rfl) dX9_carries_46 ?_
            refine go_iload_n rfl 2 rfl dX9_carries_49 ?_
            obtain ⟨r_7, h_8, h⟩ := q_b h
            refine h_callSi (st := [.int r_5.1]) [.int y2] (m_J6_bitCount_0f7a4 h_8) me_J6_bitCount_0f7a4 tw_1292 tw_795 (hdd_of (by decide)) ⟨Nat.zero_le _, Nat.zero_le _⟩ rfl rfl (Nat.le_of_ble_eq_true rfl) dX9_carries_50 ?_
            refine go_icmp_ge (tgt := 58) dX9_carries_53 rfl (fun hc => ?_) (fun hc => ?_)
            · replace h := q_t h hc
              refine h_iinc (l' := [(3, .int (y3 + 1)), (0, .ref (ad 53)), (1, .int y1), (2, .int y2)]) dX9_carries_58 3 rfl kz_iconst_1 (by decide) rfl ?_
              refine go_goto (tgt := 19) dX9_carries_61 rfl ?_
              refine go_sub (l' := [(0, .ref (ad 53)), (1, .int y1), (2, .int y2), (3, .int (y3 + 1))]) [1, 2, 3, 0] rfl ?_
              exact ih _ _ _ _ h hk64
            · replace h := q_f h hc
              refine go_iload_n rfl 3 rfl dX9_carries_56 ?_
              refine go_istore_n (l' := [(2, .int y3), (0, .ref (ad 53)), (1, .int y1), (3, .int y3)]) dX9_carries_57 rfl (by decide) rfl ?_
              refine h_iinc (l' := [(3, .int (y3 + 1)), (2, .int y3), (0, .ref (ad 53)), (1, .int y1)]) dX9_carries_58 3 rfl kz_iconst_1 (by decide) rfl ?_
              refine go_goto (tgt := 19) dX9_carries_61 rfl ?_
              refine go_sub (l' := [(0, .ref (ad 53)), (1, .int y1), (2, .int y3), (3, .int (y3 + 1))]) [2, 3, 1, 0] rfl ?_
              exact ih _ _ _ _ h hk64
set_option maxRecDepth 20000 in
set_option maxHeartbeats 2000000 in
theorem m_X9_carries {X : gX} {ad : Nat → Nat} {x1 : Int32} {ν : gN} {r : Int32 × gN}  (h : f_X9_carries x1 ν = some r) : h_ct X ad yX9_carries cX9_carries 4 ((Option.some .int)) 3 [.ref (ad 53), .int x1] ν (some (.int r.1), r.2) := by
  rw [f_X9_carries] at h
  refine h_ct_of (l := [(0, .ref (ad 53)), (1, .int x1)]) (by decide) (Nat.le_of_ble_eq_true rfl) rfl ?_
  refine go_aload_n rfl 0 rfl dX9_carries_0 ?_
  refine go_iload_n rfl 1 rfl dX9_carries_1 ?_
  obtain ⟨r_1, h_2, h⟩ := q_b h
  refine h_callVi (st := []) [.int x1] (m_X9_areThere h_2) me_X9_areThere (g_recv cl7.1 rfl) tw_1280 tw_1282 tw_60 (hdd_of (by decide)) ⟨Nat.zero_le _, Nat.zero_le _⟩ rfl rfl (Nat.le_of_ble_eq_true rfl) dX9_carries_2 ?_
  refine go_if_ne (tgt := 15) dX9_carries_5 rfl (fun hc => ?_) (fun hc => ?_)
  · replace h := q_f h hc
    refine go_iconst kz_iconst_0 dX9_carries_15 ?_
    refine go_istore_n (l' := [(2, .int 0), (0, .ref (ad 53)), (1, .int x1)]) dX9_carries_16 rfl (by decide) rfl ?_
    refine go_iconst kz_iconst_1 dX9_carries_17 ?_
    refine go_istore_n (l' := [(3, .int 1), (2, .int 0), (0, .ref (ad 53)), (1, .int x1)]) dX9_carries_18 rfl (by decide) rfl ?_
    refine go_sub (l' := [(0, .ref (ad 53)), (1, .int x1), (2, .int 0), (3, .int 1)]) [2, 3, 1, 0] rfl ?_
    refine m_X9_carries_L19  FU _ _ _ _ h (fun z2_9 ν_10 h => ?_)
    refine go_iload_n rfl 0 rfl dX9_carries_64 ?_
    exact h_iret h dX9_carries_65 rfl
  · replace h := q_t h hc
    refine go_aload_n rfl 0 rfl dX9_carries_8 ?_
    refine go_bipush kz_bipush_m6 dX9_carries_9 ?_
    obtain ⟨r_11, h_12, h⟩ := q_b h
    refine h_callVi (st := []) [.int (-6)] (m_X9_no h_12) me_X9_no (g_recv cl7.1 rfl) tw_1008 tw_1010 tw_23 (hdd_of (by decide)) ⟨Nat.zero_le _, Nat.zero_le _⟩ rfl rfl (Nat.le_of_ble_eq_true rfl) dX9_carries_11 ?_
    exact h_iret h dX9_carries_14 rfl
noncomputable def f_X9_spreads_L2 (y1 : Int32) (y2 : Nat) (k19 : gN → Option (gN)) : Nat → Int32 → gN → Option (gN)
  | 0, _, _ => none
  | n + 1, y3, ν =>
    if 49 ≤ y3 then
      k19  ν
    else
      if inb y3 49 = true then
        qL (nWI ν y2 y3.toNatClampNeg 99) (fun ν_2 =>
          f_X9_spreads_L2 y1 y2 k19 n (y3 + 1) ν_2)
      else none
noncomputable def f_X9_spreads_L53 (y2 : Nat) (y3 : Int32) (y4 : Int32) (k104 : gN → Option (gN)) : Nat → Int32 → gN → Option (gN)
  | 0, _, _ => none
  | n + 1, y5, ν =>
    if 4 ≤ y5 then
      k104  ν
    else
      if inb y4 49 = true then
        if (ν.1 y2 y4.toNatClampNeg) = y3 then
          (f_X9_beside y4 y5 ν).bind (fun r_11 =>
            if r_11.1 < 0 then
              f_X9_spreads_L53 y2 y3 y4 k104 n (y5 + 1) r_11.2
            else
              if inb r_11.1 49 = true then
                if (r_11.2.1 y2 r_11.1.toNatClampNeg) = 99 then
                  if inb r_11.1 49 = true then
                    qL (nWI r_11.2 y2 r_11.1.toNatClampNeg (y3 + 1)) (fun ν_15 =>
                      f_X9_spreads_L53 y2 y3 y4 k104 n (y5 + 1) ν_15)
                  else none
                else
                  f_X9_spreads_L53 y2 y3 y4 k104 n (y5 + 1) r_11.2
              else none)
        else
          k104  ν
      else none
noncomputable def f_X9_spreads_L43 (y2 : Nat) (y3 : Int32) (k110 : gN → Option (gN)) : Nat → Int32 → gN → Option (gN)
  | 0, _, _ => none
  | n + 1, y4, ν =>
    if 49 ≤ y4 then
      k110  ν
    else
      f_X9_spreads_L53 y2 y3 y4 (fun ν_17 =>
        f_X9_spreads_L43 y2 y3 k110 n (y4 + 1) ν_17) FU 0 ν
noncomputable def f_X9_spreads_L34 (y2 : Nat) (k116 : gN → Option (gN)) : Nat → Int32 → gN → Option (gN)
  | 0, _, _ => none
  | n + 1, y3, ν =>
    if 49 ≤ y3 then
      k116  ν
    else
      f_X9_spreads_L43 y2 y3 (fun ν_18 =>
        f_X9_spreads_L34 y2 k116 n (y3 + 1) ν_18) FU 0 ν
noncomputable def f_X9_spreads (x1 : Int32) (a2 : Nat) (ν : gN) : Option (gN) :=
  f_X9_spreads_L2 x1 a2 (fun ν_4 =>
    (f_X9_isOpen x1 ν_4).bind (fun r_5 =>
      if r_5.1 = 0 then
        some r_5.2
      else
        if inb x1 49 = true then
          qL (nWI r_5.2 a2 x1.toNatClampNeg 0) (fun ν_8 =>
            f_X9_spreads_L34 a2 (fun ν_19 =>
              some ν_19) FU 0 ν_8)
        else none)) FU 0 ν
theorem me_X9_spreads : g_me yX9_spreads cX9_spreads 7 (none) 2 := ⟨tw_1175, tw_79, ⟨by decide +kernel, by decide +kernel, by decide +kernel⟩, by decide⟩
set_option maxRecDepth 20000 in
set_option maxHeartbeats 2000000 in
theorem m_X9_spreads_L2 {X : gX} {ad : Nat → Nat} {y1 : Int32} {y2 : Nat} {k19 : gN → Option (gN)} (hy2 : SH[y2]? = some (0, 49)) : ∀ (n : Nat) (y3 : Int32) (ν : gN) (r : gN), f_X9_spreads_L2 y1 y2 k19 n y3 ν = some r → (∀ (ν1 : gN), k19 ν1 = some r → h_go X ad RX9 "spreads" cX9_spreads 7 (none) 5 (none, r) 19 [(0, .ref (ad 53)), (1, .int y1), (2, .ref (ad y2))] [] ν1) → h_go X ad RX9 "spreads" cX9_spreads 7 (none) 5 (none, r) 2 [(0, .ref (ad 53)), (1, .int y1), (2, .ref (ad y2)), (3, .int y3)] [] ν := by
  intro n
  induction n with
  | zero => intro y3 ν r h hk19; rw [f_X9_spreads_L2] at h; exact q_n h
  | succ n ih =>
    intro y3 ν r h hk19
    rw [f_X9_spreads_L2] at h
    refine go_iload_n rfl 3 rfl dX9_spreads_2 ?_
    refine go_bipush kz_bipush_49 dX9_spreads_3 ?_
    refine go_icmp_ge (tgt := 19) dX9_spreads_5 rfl (fun hc => ?_) (fun hc => ?_)
    · replace h := q_t h hc
      refine go_sub (l' := [(0, .ref (ad 53)), (1, .int y1), (2, .ref (ad y2))]) [0, 1, 2] rfl ?_
      exact hk19  _ h
    · replace h := q_f h hc
      refine go_aload_n rfl 2 rfl dX9_spreads_8 ?_
      refine go_iload_n rfl 3 rfl dX9_spreads_9 ?_
      refine go_bipush kz_bipush_99 dX9_spreads_10 ?_
      obtain ⟨hg_1, h⟩ := q_g h
      obtain ⟨ν_2, e_3, h⟩ := q_l h
      refine h_iast 49 hy2 hg_1 e_3 dX9_spreads_12 ?_
      refine h_iinc (l' := [(3, .int (y3 + 1)), (0, .ref (ad 53)), (1, .int y1), (2, .ref (ad y2))]) dX9_spreads_13 3 rfl kz_iconst_1 (by decide) rfl ?_
      refine go_goto (tgt := 2) dX9_spreads_16 rfl ?_
      refine go_sub (l' := [(0, .ref (ad 53)), (1, .int y1), (2, .ref (ad y2)), (3, .int (y3 + 1))]) [1, 2, 3, 0] rfl ?_
      exact ih _ _ _ h hk19
set_option maxRecDepth 20000 in
set_option maxHeartbeats 2000000 in
theorem m_X9_spreads_L53 {X : gX} {ad : Nat → Nat} {y2 : Nat} {y3 : Int32} {y4 : Int32} {k104 : gN → Option (gN)} (hy2 : SH[y2]? = some (0, 49)) : ∀ (n : Nat) (y5 : Int32) (ν : gN) (r : gN), f_X9_spreads_L53 y2 y3 y4 k104 n y5 ν = some r → (∀ (ν1 : gN), k104 ν1 = some r → h_go X ad RX9 "spreads" cX9_spreads 7 (none) 5 (none, r) 104 [(0, .ref (ad 53)), (2, .ref (ad y2)), (3, .int y3), (4, .int y4)] [] ν1) → h_go X ad RX9 "spreads" cX9_spreads 7 (none) 5 (none, r) 53 [(0, .ref (ad 53)), (2, .ref (ad y2)), (3, .int y3), (4, .int y4), (5, .int y5)] [] ν := by
  intro n
  induction n with
  | zero => intro y5 ν r h hk104; rw [f_X9_spreads_L53] at h; exact q_n h
  | succ n ih =>
    intro y5 ν r h hk104
    rw [f_X9_spreads_L53] at h
    refine go_iload 4 rfl dX9_spreads_53 ?_
    refine go_iconst kz_iconst_4 dX9_spreads_55 ?_
    refine go_icmp_ge (tgt := 104) dX9_spreads_56 rfl (fun hc => ?_) (fun hc => ?_)
    · replace h := q_t h hc
      refine go_sub (l' := [(0, .ref (ad 53)), (2, .ref (ad y2)), (3, .int y3), (4, .int y4)]) [0, 1, 2, 3] rfl ?_
      exact hk104  _ h
    · replace h := q_f h hc
      refine go_aload_n rfl 1 rfl dX9_spreads_59 ?_
      refine go_iload 3 rfl dX9_spreads_60 ?_
      obtain ⟨hg_10, h⟩ := q_g h
      refine h_iald 49 hy2 hg_10 dX9_spreads_62 ?_
      refine go_iload_n rfl 2 rfl dX9_spreads_63 ?_
      refine go_icmp_ne (tgt := 104) dX9_spreads_64 rfl (fun hc => ?_) (fun hc => ?_)
      · replace h := q_f h hc
        refine go_sub (l' := [(0, .ref (ad 53)), (2, .ref (ad y2)), (3, .int y3), (4, .int y4)]) [0, 1, 2, 3] rfl ?_
        exact hk104  _ h
      · replace h := q_t h hc
        refine go_aload_n rfl 0 rfl dX9_spreads_67 ?_
        refine go_iload 3 rfl dX9_spreads_68 ?_
        refine go_iload 4 rfl dX9_spreads_70 ?_
        obtain ⟨r_11, h_12, h⟩ := q_b h
        refine h_callVi (st := []) [.int y4, .int y5] (m_X9_beside h_12) me_X9_beside (g_recv cl7.1 rfl) tw_1176 tw_1178 tw_46 (hdd_of (by decide)) ⟨Nat.zero_le _, Nat.zero_le _⟩ rfl rfl (Nat.le_of_ble_eq_true rfl) dX9_spreads_72 ?_
        refine go_istore (l' := [(6, .int r_11.1), (0, .ref (ad 53)), (2, .ref (ad y2)), (3, .int y3), (4, .int y4), (5, .int y5)]) dX9_spreads_75 (by decide) rfl ?_
        refine go_iload 0 rfl dX9_spreads_77 ?_
        refine go_if_lt (tgt := 98) dX9_spreads_79 rfl (fun hc => ?_) (fun hc => ?_)
        · replace h := q_t h hc
          refine h_iinc (l' := [(5, .int (y5 + 1)), (6, .int r_11.1), (0, .ref (ad 53)), (2, .ref (ad y2)), (3, .int y3), (4, .int y4)]) dX9_spreads_98 5 rfl kz_iconst_1 (by decide) rfl ?_
          refine go_goto (tgt := 53) dX9_spreads_101 rfl ?_
          refine go_sub (l' := [(0, .ref (ad 53)), (2, .ref (ad y2)), (3, .int y3), (4, .int y4), (5, .int (y5 + 1))]) [2, 3, 4, 5, 0] rfl ?_
          exact ih _ _ _ h hk104
        · replace h := q_f h hc
          refine go_aload_n rfl 2 rfl dX9_spreads_82 ?_
          refine go_iload 0 rfl dX9_spreads_83 ?_
          obtain ⟨hg_13, h⟩ := q_g h
          refine h_iald 49 hy2 hg_13 dX9_spreads_85 ?_
          refine go_bipush kz_bipush_99 dX9_spreads_86 ?_
          refine go_icmp_ne (tgt := 98) dX9_spreads_88 rfl (fun hc => ?_) (fun hc => ?_)
          · replace h := q_f h hc
            refine h_iinc (l' := [(5, .int (y5 + 1)), (6, .int r_11.1), (0, .ref (ad 53)), (2, .ref (ad y2)), (3, .int y3), (4, .int y4)]) dX9_spreads_98 5 rfl kz_iconst_1 (by decide) rfl ?_
            refine go_goto (tgt := 53) dX9_spreads_101 rfl ?_
            refine go_sub (l' := [(0, .ref (ad 53)), (2, .ref (ad y2)), (3, .int y3), (4, .int y4), (5, .int (y5 + 1))]) [2, 3, 4, 5, 0] rfl ?_
            exact ih _ _ _ h hk104
          · replace h := q_t h hc
            refine go_aload_n rfl 2 rfl dX9_spreads_91 ?_
            refine go_iload 0 rfl dX9_spreads_92 ?_
            refine go_iload_n rfl 3 rfl dX9_spreads_94 ?_
            refine go_iconst kz_iconst_1 dX9_spreads_95 ?_
            refine go_iadd dX9_spreads_96 ?_
            obtain ⟨hg_14, h⟩ := q_g h
            obtain ⟨ν_15, e_16, h⟩ := q_l h
            refine h_iast 49 hy2 hg_14 e_16 dX9_spreads_97 ?_
            refine h_iinc (l' := [(5, .int (y5 + 1)), (6, .int r_11.1), (0, .ref (ad 53)), (2, .ref (ad y2)), (3, .int y3), (4, .int y4)]) dX9_spreads_98 5 rfl kz_iconst_1 (by decide) rfl ?_
            refine go_goto (tgt := 53) dX9_spreads_101 rfl ?_
            refine go_sub (l' := [(0, .ref (ad 53)), (2, .ref (ad y2)), (3, .int y3), (4, .int y4), (5, .int (y5 + 1))]) [2, 3, 4, 5, 0] rfl ?_
            exact ih _ _ _ h hk104
set_option maxRecDepth 20000 in
set_option maxHeartbeats 2000000 in
theorem m_X9_spreads_L43 {X : gX} {ad : Nat → Nat} {y2 : Nat} {y3 : Int32} {k110 : gN → Option (gN)} (hy2 : SH[y2]? = some (0, 49)) : ∀ (n : Nat) (y4 : Int32) (ν : gN) (r : gN), f_X9_spreads_L43 y2 y3 k110 n y4 ν = some r → (∀ (ν1 : gN), k110 ν1 = some r → h_go X ad RX9 "spreads" cX9_spreads 7 (none) 5 (none, r) 110 [(0, .ref (ad 53)), (2, .ref (ad y2)), (3, .int y3)] [] ν1) → h_go X ad RX9 "spreads" cX9_spreads 7 (none) 5 (none, r) 43 [(0, .ref (ad 53)), (2, .ref (ad y2)), (3, .int y3), (4, .int y4)] [] ν := by
  intro n
  induction n with
  | zero => intro y4 ν r h hk110; rw [f_X9_spreads_L43] at h; exact q_n h
  | succ n ih =>
    intro y4 ν r h hk110
    rw [f_X9_spreads_L43] at h
    refine go_iload 3 rfl dX9_spreads_43 ?_
    refine go_bipush kz_bipush_49 dX9_spreads_45 ?_
    refine go_icmp_ge (tgt := 110) dX9_spreads_47 rfl (fun hc => ?_) (fun hc => ?_)
    · replace h := q_t h hc
      refine go_sub (l' := [(0, .ref (ad 53)), (2, .ref (ad y2)), (3, .int y3)]) [0, 1, 2] rfl ?_
      exact hk110  _ h
    · replace h := q_f h hc
      refine go_iconst kz_iconst_0 dX9_spreads_50 ?_
      refine go_istore (l' := [(5, .int 0), (0, .ref (ad 53)), (2, .ref (ad y2)), (3, .int y3), (4, .int y4)]) dX9_spreads_51 (by decide) rfl ?_
      refine go_sub (l' := [(0, .ref (ad 53)), (2, .ref (ad y2)), (3, .int y3), (4, .int y4), (5, .int 0)]) [1, 2, 3, 4, 0] rfl ?_
      refine m_X9_spreads_L53 hy2 FU _ _ _ h (fun ν_17 h => ?_)
      refine h_iinc (l' := [(4, .int (y4 + 1)), (0, .ref (ad 53)), (2, .ref (ad y2)), (3, .int y3)]) dX9_spreads_104 3 rfl kz_iconst_1 (by decide) rfl ?_
      refine go_goto (tgt := 43) dX9_spreads_107 rfl ?_
      refine go_sub (l' := [(0, .ref (ad 53)), (2, .ref (ad y2)), (3, .int y3), (4, .int (y4 + 1))]) [1, 2, 3, 0] rfl ?_
      exact ih _ _ _ h hk110
set_option maxRecDepth 20000 in
set_option maxHeartbeats 2000000 in
theorem m_X9_spreads_L34 {X : gX} {ad : Nat → Nat} {y2 : Nat} {k116 : gN → Option (gN)} (hy2 : SH[y2]? = some (0, 49)) : ∀ (n : Nat) (y3 : Int32) (ν : gN) (r : gN), f_X9_spreads_L34 y2 k116 n y3 ν = some r → (∀ (ν1 : gN), k116 ν1 = some r → h_go X ad RX9 "spreads" cX9_spreads 7 (none) 5 (none, r) 116 [] [] ν1) → h_go X ad RX9 "spreads" cX9_spreads 7 (none) 5 (none, r) 34 [(0, .ref (ad 53)), (2, .ref (ad y2)), (3, .int y3)] [] ν := by
  intro n
  induction n with
  | zero => intro y3 ν r h hk116; rw [f_X9_spreads_L34] at h; exact q_n h
  | succ n ih =>
    intro y3 ν r h hk116
    rw [f_X9_spreads_L34] at h
    refine go_iload_n rfl 2 rfl dX9_spreads_34 ?_
    refine go_bipush kz_bipush_49 dX9_spreads_35 ?_
    refine go_icmp_ge (tgt := 116) dX9_spreads_37 rfl (fun hc => ?_) (fun hc => ?_)
    · replace h := q_t h hc
      refine go_sub (l' := []) [] rfl ?_
      exact hk116  _ h
    · replace h := q_f h hc
      refine go_iconst kz_iconst_0 dX9_spreads_40 ?_
      refine go_istore (l' := [(4, .int 0), (0, .ref (ad 53)), (2, .ref (ad y2)), (3, .int y3)]) dX9_spreads_41 (by decide) rfl ?_
      refine go_sub (l' := [(0, .ref (ad 53)), (2, .ref (ad y2)), (3, .int y3), (4, .int 0)]) [1, 2, 3, 0] rfl ?_
      refine m_X9_spreads_L43 hy2 FU _ _ _ h (fun ν_18 h => ?_)
      refine h_iinc (l' := [(3, .int (y3 + 1)), (0, .ref (ad 53)), (2, .ref (ad y2))]) dX9_spreads_110 2 rfl kz_iconst_1 (by decide) rfl ?_
      refine go_goto (tgt := 34) dX9_spreads_113 rfl ?_
      refine go_sub (l' := [(0, .ref (ad 53)), (2, .ref (ad y2)), (3, .int (y3 + 1))]) [1, 2, 0] rfl ?_
      exact ih _ _ _ h hk116
set_option maxRecDepth 20000 in
set_option maxHeartbeats 2000000 in
theorem m_X9_spreads {X : gX} {ad : Nat → Nat} {x1 : Int32} {a2 : Nat} {ν : gN} {r : gN} (ha2 : SH[a2]? = some (0, 49)) (h : f_X9_spreads x1 a2 ν = some r) : h_ct X ad yX9_spreads cX9_spreads 7 (none) 5 [.ref (ad 53), .int x1, .ref (ad a2)] ν (none, r) := by
  rw [f_X9_spreads] at h
  refine h_ct_of (l := [(0, .ref (ad 53)), (1, .int x1), (2, .ref (ad a2))]) (by decide) (Nat.le_of_ble_eq_true rfl) rfl ?_
  refine go_iconst kz_iconst_0 dX9_spreads_0 ?_
  refine go_istore_n (l' := [(3, .int 0), (0, .ref (ad 53)), (1, .int x1), (2, .ref (ad a2))]) dX9_spreads_1 rfl (by decide) rfl ?_
  refine go_sub (l' := [(0, .ref (ad 53)), (1, .int x1), (2, .ref (ad a2)), (3, .int 0)]) [1, 2, 3, 0] rfl ?_
  refine m_X9_spreads_L2 ha2 FU _ _ _ h (fun ν_4 h => ?_)
  refine go_aload_n rfl 0 rfl dX9_spreads_19 ?_
  refine go_iload_n rfl 1 rfl dX9_spreads_20 ?_
  obtain ⟨r_5, h_6, h⟩ := q_b h
  refine h_callVi (st := []) [.int x1] (m_X9_isOpen h_6) me_X9_isOpen (g_recv cl7.1 rfl) tw_1062 tw_1064 tw_28 (hdd_of (by decide)) ⟨Nat.zero_le _, Nat.zero_le _⟩ rfl rfl (Nat.le_of_ble_eq_true rfl) dX9_spreads_21 ?_
  refine go_if_ne (tgt := 28) dX9_spreads_24 rfl (fun hc => ?_) (fun hc => ?_)
  · replace h := q_f h hc
    refine go_aload_n rfl 2 rfl dX9_spreads_28 ?_
    refine go_iload_n rfl 1 rfl dX9_spreads_29 ?_
    refine go_iconst kz_iconst_0 dX9_spreads_30 ?_
    obtain ⟨hg_7, h⟩ := q_g h
    obtain ⟨ν_8, e_9, h⟩ := q_l h
    refine h_iast 49 ha2 hg_7 e_9 dX9_spreads_31 ?_
    refine go_iconst kz_iconst_0 dX9_spreads_32 ?_
    refine go_istore_n (l' := [(3, .int 0), (0, .ref (ad 53)), (1, .int x1), (2, .ref (ad a2))]) dX9_spreads_33 rfl (by decide) rfl ?_
    refine go_sub (l' := [(0, .ref (ad 53)), (2, .ref (ad a2)), (3, .int 0)]) [1, 3, 0] rfl ?_
    refine m_X9_spreads_L34 ha2 FU _ _ _ h (fun ν_19 h => ?_)
    exact h_vret h dX9_spreads_116 rfl
  · replace h := q_t h hc
    exact h_vret h dX9_spreads_27 rfl
noncomputable def f_X9_farOf (x1 : Int32) (ν : gN) : Option (Int32 × gN) :=
  if (ν.1 53 24) = 0 then
    (f_X9_spreads 24 70 ν).bind (fun r_4 =>
      qL (nWI r_4 53 24 1) (fun ν_6 =>
        if inb x1 49 = true then
          some (ν_6.1 70 x1.toNatClampNeg, ν_6)
        else none))
  else
    qL (nWI ν 53 24 1) (fun ν_1 =>
      if inb x1 49 = true then
        some (ν_1.1 70 x1.toNatClampNeg, ν_1)
      else none)
theorem me_X9_farOf : g_me yX9_farOf cX9_farOf 2 ((Option.some .int)) 1 := ⟨tw_1171, tw_79, ⟨by decide +kernel, by decide +kernel, by decide +kernel⟩, by decide⟩
set_option maxRecDepth 20000 in
set_option maxHeartbeats 2000000 in
theorem m_X9_farOf {X : gX} {ad : Nat → Nat} {x1 : Int32} {ν : gN} {r : Int32 × gN}  (h : f_X9_farOf x1 ν = some r) : h_ct X ad yX9_farOf cX9_farOf 2 ((Option.some .int)) 6 [.ref (ad 53), .int x1] ν (some (.int r.1), r.2) := by
  rw [f_X9_farOf] at h
  refine h_ct_of (l := [(0, .ref (ad 53)), (1, .int x1)]) (by decide) (Nat.le_of_ble_eq_true rfl) rfl ?_
  refine go_aload_n rfl 0 rfl dX9_farOf_0 ?_
  refine h_geti 24 cl7 rfl (by decide) tw_936 rfl dX9_farOf_1 ?_
  refine go_if_ne (tgt := 17) dX9_farOf_4 rfl (fun hc => ?_) (fun hc => ?_)
  · replace h := q_f h hc
    refine go_aload_n rfl 0 rfl dX9_farOf_17 ?_
    refine go_iconst kz_iconst_1 dX9_farOf_18 ?_
    obtain ⟨ν_1, e_2, h⟩ := q_l h
    refine h_putz 24 cl7 rfl (by decide) tw_936 rfl rfl rfl e_2 dX9_farOf_19 ?_
    refine go_aload_n rfl 0 rfl dX9_farOf_22 ?_
    refine h_getr 25 cl7 rfl (by decide) tw_937 70 rfl dX9_farOf_23 ?_
    refine go_iload_n rfl 1 rfl dX9_farOf_26 ?_
    obtain ⟨hg_3, h⟩ := q_g h
    refine h_iald 49 rfl hg_3 dX9_farOf_27 ?_
    exact h_iret h dX9_farOf_28 rfl
  · replace h := q_t h hc
    refine go_aload_n rfl 0 rfl dX9_farOf_7 ?_
    refine go_bipush kz_bipush_24 dX9_farOf_8 ?_
    refine go_aload_n rfl 0 rfl dX9_farOf_10 ?_
    refine h_getr 25 cl7 rfl (by decide) tw_937 70 rfl dX9_farOf_11 ?_
    obtain ⟨r_4, h_5, h⟩ := q_b h
    refine h_callVv (st := []) [.int 24, .ref (ad 70)] (m_X9_spreads rfl h_5) me_X9_spreads (g_recv cl7.1 rfl) tw_1172 tw_1174 tw_45 (hdd_of (by decide)) ⟨Nat.zero_le _, Nat.zero_le _⟩ rfl rfl (Nat.le_of_ble_eq_true rfl) dX9_farOf_14 ?_
    refine go_aload_n rfl 0 rfl dX9_farOf_17 ?_
    refine go_iconst kz_iconst_1 dX9_farOf_18 ?_
    obtain ⟨ν_6, e_7, h⟩ := q_l h
    refine h_putz 24 cl7 rfl (by decide) tw_936 rfl rfl rfl e_7 dX9_farOf_19 ?_
    refine go_aload_n rfl 0 rfl dX9_farOf_22 ?_
    refine h_getr 25 cl7 rfl (by decide) tw_937 70 rfl dX9_farOf_23 ?_
    refine go_iload_n rfl 1 rfl dX9_farOf_26 ?_
    obtain ⟨hg_8, h⟩ := q_g h
    refine h_iald 49 rfl hg_8 dX9_farOf_27 ?_
    exact h_iret h dX9_farOf_28 rfl
noncomputable def f_X9_furthest_L4 (y1 : Int32) (k57 : Int32 → gN → Option (Int32 × gN)) : Nat → Int32 → Int32 → gN → Option (Int32 × gN)
  | 0, _, _, _ => none
  | n + 1, y2, y3, ν =>
    if (ν.1 53 0) ≤ y3 then
      k57 y2 ν
    else
      if ((j_shr y1 y3) &&& 1) = 1 then
        if y2 = (-1) then
          f_X9_furthest_L4 y1 k57 n y3 (y3 + 1) ν
        else
          if inb y3 7 = true then
            (f_X9_farOf (ν.1 58 y3.toNatClampNeg) ν).bind (fun r_2 =>
              if inb y2 7 = true then
                (f_X9_farOf (r_2.2.1 58 y2.toNatClampNeg) r_2.2).bind (fun r_5 =>
                  if r_2.1 ≤ r_5.1 then
                    f_X9_furthest_L4 y1 k57 n y2 (y3 + 1) r_5.2
                  else
                    f_X9_furthest_L4 y1 k57 n y3 (y3 + 1) r_5.2)
              else none)
          else none
      else
        f_X9_furthest_L4 y1 k57 n y2 (y3 + 1) ν
noncomputable def f_X9_furthest (x1 : Int32) (ν : gN) : Option (Int32 × gN) :=
  f_X9_furthest_L4 x1 (fun z2_7 ν_8 =>
    some (z2_7, ν_8)) FU (-1) 0 ν
theorem me_X9_furthest : g_me yX9_furthest cX9_furthest 4 ((Option.some .int)) 1 := ⟨tw_1191, tw_79, ⟨by decide +kernel, by decide +kernel, by decide +kernel⟩, by decide⟩
set_option maxRecDepth 20000 in
set_option maxHeartbeats 2000000 in
theorem m_X9_furthest_L4 {X : gX} {ad : Nat → Nat} {y1 : Int32} {k57 : Int32 → gN → Option (Int32 × gN)}  : ∀ (n : Nat) (y2 : Int32) (y3 : Int32) (ν : gN) (r : Int32 × gN), f_X9_furthest_L4 y1 k57 n y2 y3 ν = some r → (∀ (z2 : Int32) (ν1 : gN), k57 z2 ν1 = some r → h_go X ad RX9 "furthest" cX9_furthest 4 ((Option.some .int)) 7 (some (.int r.1), r.2) 57 [(2, .int z2)] [] ν1) → h_go X ad RX9 "furthest" cX9_furthest 4 ((Option.some .int)) 7 (some (.int r.1), r.2) 4 [(0, .ref (ad 53)), (1, .int y1), (2, .int y2), (3, .int y3)] [] ν := by
  intro n
  induction n with
  | zero => intro y2 y3 ν r h hk57; rw [f_X9_furthest_L4] at h; exact q_n h
  | succ n ih =>
    intro y2 y3 ν r h hk57
    rw [f_X9_furthest_L4] at h
    refine go_iload_n rfl 3 rfl dX9_furthest_4 ?_
    refine go_aload_n rfl 0 rfl dX9_furthest_5 ?_
    refine h_geti 0 cl7 rfl (by decide) tw_912 rfl dX9_furthest_6 ?_
    refine go_icmp_ge (tgt := 57) dX9_furthest_9 rfl (fun hc => ?_) (fun hc => ?_)
    · replace h := q_t h hc
      refine go_sub (l' := [(2, .int y2)]) [2] rfl ?_
      exact hk57 _ _ h
    · replace h := q_f h hc
      refine go_iload_n rfl 1 rfl dX9_furthest_12 ?_
      refine go_iload_n rfl 3 rfl dX9_furthest_13 ?_
      refine h_ishr dX9_furthest_14 ?_
      refine go_iconst kz_iconst_1 dX9_furthest_15 ?_
      refine go_iand dX9_furthest_16 ?_
      refine go_iconst kz_iconst_1 dX9_furthest_17 ?_
      refine go_icmp_ne (tgt := 51) dX9_furthest_18 rfl (fun hc => ?_) (fun hc => ?_)
      · replace h := q_f h hc
        refine h_iinc (l' := [(3, .int (y3 + 1)), (0, .ref (ad 53)), (1, .int y1), (2, .int y2)]) dX9_furthest_51 3 rfl kz_iconst_1 (by decide) rfl ?_
        refine go_goto (tgt := 4) dX9_furthest_54 rfl ?_
        refine go_sub (l' := [(0, .ref (ad 53)), (1, .int y1), (2, .int y2), (3, .int (y3 + 1))]) [1, 2, 3, 0] rfl ?_
        exact ih _ _ _ _ h hk57
      · replace h := q_t h hc
        refine go_iload_n rfl 2 rfl dX9_furthest_21 ?_
        refine go_iconst kz_iconst_m1 dX9_furthest_22 ?_
        refine go_icmp_eq (tgt := 49) dX9_furthest_23 rfl (fun hc => ?_) (fun hc => ?_)
        · replace h := q_t h hc
          refine go_iload_n rfl 3 rfl dX9_furthest_49 ?_
          refine go_istore_n (l' := [(2, .int y3), (0, .ref (ad 53)), (1, .int y1), (3, .int y3)]) dX9_furthest_50 rfl (by decide) rfl ?_
          refine h_iinc (l' := [(3, .int (y3 + 1)), (2, .int y3), (0, .ref (ad 53)), (1, .int y1)]) dX9_furthest_51 3 rfl kz_iconst_1 (by decide) rfl ?_
          refine go_goto (tgt := 4) dX9_furthest_54 rfl ?_
          refine go_sub (l' := [(0, .ref (ad 53)), (1, .int y1), (2, .int y3), (3, .int (y3 + 1))]) [2, 3, 1, 0] rfl ?_
          exact ih _ _ _ _ h hk57
        · replace h := q_f h hc
          refine go_aload_n rfl 0 rfl dX9_furthest_26 ?_
          refine go_aload_n rfl 0 rfl dX9_furthest_27 ?_
          refine h_getr 5 cl7 rfl (by decide) tw_917 58 rfl dX9_furthest_28 ?_
          refine go_iload_n rfl 3 rfl dX9_furthest_31 ?_
          obtain ⟨hg_1, h⟩ := q_g h
          refine h_iald 7 rfl hg_1 dX9_furthest_32 ?_
          obtain ⟨r_2, h_3, h⟩ := q_b h
          refine h_callVi (st := []) [.int (ν.1 58 y3.toNatClampNeg)] (m_X9_farOf h_3) me_X9_farOf (g_recv cl7.1 rfl) tw_1168 tw_1170 tw_44 (hdd_of (by decide)) ⟨Nat.zero_le _, Nat.zero_le _⟩ rfl rfl (Nat.le_of_ble_eq_true rfl) dX9_furthest_33 ?_
          refine go_aload_n rfl 0 rfl dX9_furthest_36 ?_
          refine go_aload_n rfl 0 rfl dX9_furthest_37 ?_
          refine h_getr 5 cl7 rfl (by decide) tw_917 58 rfl dX9_furthest_38 ?_
          refine go_iload_n rfl 2 rfl dX9_furthest_41 ?_
          obtain ⟨hg_4, h⟩ := q_g h
          refine h_iald 7 rfl hg_4 dX9_furthest_42 ?_
          obtain ⟨r_5, h_6, h⟩ := q_b h
          refine h_callVi (st := [.int r_2.1]) [.int (r_2.2.1 58 y2.toNatClampNeg)] (m_X9_farOf h_6) me_X9_farOf (g_recv cl7.1 rfl) tw_1168 tw_1170 tw_44 (hdd_of (by decide)) ⟨Nat.zero_le _, Nat.zero_le _⟩ rfl rfl (Nat.le_of_ble_eq_true rfl) dX9_furthest_43 ?_
          refine go_icmp_le (tgt := 51) dX9_furthest_46 rfl (fun hc => ?_) (fun hc => ?_)
          · replace h := q_t h hc
            refine h_iinc (l' := [(3, .int (y3 + 1)), (0, .ref (ad 53)), (1, .int y1), (2, .int y2)]) dX9_furthest_51 3 rfl kz_iconst_1 (by decide) rfl ?_
            refine go_goto (tgt := 4) dX9_furthest_54 rfl ?_
            refine go_sub (l' := [(0, .ref (ad 53)), (1, .int y1), (2, .int y2), (3, .int (y3 + 1))]) [1, 2, 3, 0] rfl ?_
            exact ih _ _ _ _ h hk57
          · replace h := q_f h hc
            refine go_iload_n rfl 3 rfl dX9_furthest_49 ?_
            refine go_istore_n (l' := [(2, .int y3), (0, .ref (ad 53)), (1, .int y1), (3, .int y3)]) dX9_furthest_50 rfl (by decide) rfl ?_
            refine h_iinc (l' := [(3, .int (y3 + 1)), (2, .int y3), (0, .ref (ad 53)), (1, .int y1)]) dX9_furthest_51 3 rfl kz_iconst_1 (by decide) rfl ?_
            refine go_goto (tgt := 4) dX9_furthest_54 rfl ?_
            refine go_sub (l' := [(0, .ref (ad 53)), (1, .int y1), (2, .int y3), (3, .int (y3 + 1))]) [2, 3, 1, 0] rfl ?_
            exact ih _ _ _ _ h hk57
set_option maxRecDepth 20000 in
set_option maxHeartbeats 2000000 in
theorem m_X9_furthest {X : gX} {ad : Nat → Nat} {x1 : Int32} {ν : gN} {r : Int32 × gN}  (h : f_X9_furthest x1 ν = some r) : h_ct X ad yX9_furthest cX9_furthest 4 ((Option.some .int)) 7 [.ref (ad 53), .int x1] ν (some (.int r.1), r.2) := by
  rw [f_X9_furthest] at h
  refine h_ct_of (l := [(0, .ref (ad 53)), (1, .int x1)]) (by decide) (Nat.le_of_ble_eq_true rfl) rfl ?_
  refine go_iconst kz_iconst_m1 dX9_furthest_0 ?_
  refine go_istore_n (l' := [(2, .int (-1)), (0, .ref (ad 53)), (1, .int x1)]) dX9_furthest_1 rfl (by decide) rfl ?_
  refine go_iconst kz_iconst_0 dX9_furthest_2 ?_
  refine go_istore_n (l' := [(3, .int 0), (2, .int (-1)), (0, .ref (ad 53)), (1, .int x1)]) dX9_furthest_3 rfl (by decide) rfl ?_
  refine go_sub (l' := [(0, .ref (ad 53)), (1, .int x1), (2, .int (-1)), (3, .int 0)]) [2, 3, 1, 0] rfl ?_
  refine m_X9_furthest_L4  FU _ _ _ _ h (fun z2_7 ν_8 h => ?_)
  refine go_iload_n rfl 0 rfl dX9_furthest_57 ?_
  exact h_iret h dX9_furthest_58 rfl
noncomputable def f_X9_chosenNow_L4  (k55 : Int32 → gN → Option (Int32 × gN)) : Nat → Int32 → Int32 → gN → Option (Int32 × gN)
  | 0, _, _, _ => none
  | n + 1, y1, y2, ν =>
    if (ν.1 53 0) ≤ y2 then
      k55 y1 ν
    else
      if y2 = (ν.1 53 28) then
        f_X9_chosenNow_L4 k55 n y1 (y2 + 1) ν
      else
        (f_X9_isOut y2 ν).bind (fun r_1 =>
          if r_1.1 = 0 then
            if inb y2 7 = true then
              (f_X9_farOf (r_1.2.1 58 y2.toNatClampNeg) r_1.2).bind (fun r_4 =>
                if 99 ≤ r_4.1 then
                  f_X9_chosenNow_L4 k55 n y1 (y2 + 1) r_4.2
                else
                  f_X9_chosenNow_L4 k55 n (y1 ||| (j_shl 1 y2)) (y2 + 1) r_4.2)
            else none
          else
            f_X9_chosenNow_L4 k55 n y1 (y2 + 1) r_1.2)
noncomputable def f_X9_chosenNow_L59 (y1 : Int32) (k99 : Int32 → gN → Option (Int32 × gN)) : Nat → Int32 → Int32 → gN → Option (Int32 × gN)
  | 0, _, _, _ => none
  | n + 1, y2, y3, ν =>
    if inb 0 4 = true then
      if (ν.1 61 (0 : Int32).toNatClampNeg) ≤ y3 then
        k99 y2 ν
      else
        (f_X9_furthest (y1 &&& (y2 ^^^ (-1))) ν).bind (fun r_9 =>
          if r_9.1 = (-1) then
            f_X9_chosenNow_L59 y1 k99 n y2 (y3 + 1) r_9.2
          else
            f_X9_chosenNow_L59 y1 k99 n (y2 ||| (j_shl 1 r_9.1)) (y3 + 1) r_9.2)
    else none
noncomputable def f_X9_chosenNow  (ν : gN) : Option (Int32 × gN) :=
  f_X9_chosenNow_L4  (fun z1_6 ν_7 =>
    f_X9_chosenNow_L59 z1_6 (fun z2_11 ν_12 =>
      some (z2_11, ν_12)) FU 0 0 ν_7) FU 0 0 ν
theorem me_X9_chosenNow : g_me yX9_chosenNow cX9_chosenNow 5 ((Option.some .int)) 0 := ⟨tw_1187, tw_79, ⟨by decide +kernel, by decide +kernel, by decide +kernel⟩, by decide⟩
set_option maxRecDepth 20000 in
set_option maxHeartbeats 2000000 in
theorem m_X9_chosenNow_L4 {X : gX} {ad : Nat → Nat}  {k55 : Int32 → gN → Option (Int32 × gN)}  : ∀ (n : Nat) (y1 : Int32) (y2 : Int32) (ν : gN) (r : Int32 × gN), f_X9_chosenNow_L4 k55 n y1 y2 ν = some r → (∀ (z1 : Int32) (ν1 : gN), k55 z1 ν1 = some r → h_go X ad RX9 "chosenNow" cX9_chosenNow 5 ((Option.some .int)) 8 (some (.int r.1), r.2) 55 [(0, .ref (ad 53)), (1, .int z1)] [] ν1) → h_go X ad RX9 "chosenNow" cX9_chosenNow 5 ((Option.some .int)) 8 (some (.int r.1), r.2) 4 [(0, .ref (ad 53)), (1, .int y1), (2, .int y2)] [] ν := by
  intro n
  induction n with
  | zero => intro y1 y2 ν r h hk55; rw [f_X9_chosenNow_L4] at h; exact q_n h
  | succ n ih =>
    intro y1 y2 ν r h hk55
    rw [f_X9_chosenNow_L4] at h
    refine go_iload_n rfl 2 rfl dX9_chosenNow_4 ?_
    refine go_aload_n rfl 0 rfl dX9_chosenNow_5 ?_
    refine h_geti 0 cl7 rfl (by decide) tw_912 rfl dX9_chosenNow_6 ?_
    refine go_icmp_ge (tgt := 55) dX9_chosenNow_9 rfl (fun hc => ?_) (fun hc => ?_)
    · replace h := q_t h hc
      refine go_sub (l' := [(0, .ref (ad 53)), (1, .int y1)]) [0, 1] rfl ?_
      exact hk55 _ _ h
    · replace h := q_f h hc
      refine go_iload_n rfl 2 rfl dX9_chosenNow_12 ?_
      refine go_aload_n rfl 0 rfl dX9_chosenNow_13 ?_
      refine h_geti 28 cl7 rfl (by decide) tw_940 rfl dX9_chosenNow_14 ?_
      refine go_icmp_eq (tgt := 49) dX9_chosenNow_17 rfl (fun hc => ?_) (fun hc => ?_)
      · replace h := q_t h hc
        refine h_iinc (l' := [(2, .int (y2 + 1)), (0, .ref (ad 53)), (1, .int y1)]) dX9_chosenNow_49 2 rfl kz_iconst_1 (by decide) rfl ?_
        refine go_goto (tgt := 4) dX9_chosenNow_52 rfl ?_
        refine go_sub (l' := [(0, .ref (ad 53)), (1, .int y1), (2, .int (y2 + 1))]) [1, 2, 0] rfl ?_
        exact ih _ _ _ _ h hk55
      · replace h := q_f h hc
        refine go_aload_n rfl 0 rfl dX9_chosenNow_20 ?_
        refine go_iload_n rfl 2 rfl dX9_chosenNow_21 ?_
        obtain ⟨r_1, h_2, h⟩ := q_b h
        refine h_callVi (st := []) [.int y2] (m_X9_isOut h_2) me_X9_isOut (g_recv cl7.1 rfl) tw_1105 tw_1107 tw_34 (hdd_of (by decide)) ⟨Nat.zero_le _, Nat.zero_le _⟩ rfl rfl (Nat.le_of_ble_eq_true rfl) dX9_chosenNow_22 ?_
        refine go_if_ne (tgt := 49) dX9_chosenNow_25 rfl (fun hc => ?_) (fun hc => ?_)
        · replace h := q_f h hc
          refine h_iinc (l' := [(2, .int (y2 + 1)), (0, .ref (ad 53)), (1, .int y1)]) dX9_chosenNow_49 2 rfl kz_iconst_1 (by decide) rfl ?_
          refine go_goto (tgt := 4) dX9_chosenNow_52 rfl ?_
          refine go_sub (l' := [(0, .ref (ad 53)), (1, .int y1), (2, .int (y2 + 1))]) [1, 2, 0] rfl ?_
          exact ih _ _ _ _ h hk55
        · replace h := q_t h hc
          refine go_aload_n rfl 0 rfl dX9_chosenNow_28 ?_
          refine go_aload_n rfl 0 rfl dX9_chosenNow_29 ?_
          refine h_getr 5 cl7 rfl (by decide) tw_917 58 rfl dX9_chosenNow_30 ?_
          refine go_iload_n rfl 2 rfl dX9_chosenNow_33 ?_
          obtain ⟨hg_3, h⟩ := q_g h
          refine h_iald 7 rfl hg_3 dX9_chosenNow_34 ?_
          obtain ⟨r_4, h_5, h⟩ := q_b h
          refine h_callVi (st := []) [.int (r_1.2.1 58 y2.toNatClampNeg)] (m_X9_farOf h_5) me_X9_farOf (g_recv cl7.1 rfl) tw_1168 tw_1170 tw_44 (hdd_of (by decide)) ⟨Nat.zero_le _, Nat.zero_le _⟩ rfl rfl (Nat.le_of_ble_eq_true rfl) dX9_chosenNow_35 ?_
          refine go_bipush kz_bipush_99 dX9_chosenNow_38 ?_
          refine go_icmp_ge (tgt := 49) dX9_chosenNow_40 rfl (fun hc => ?_) (fun hc => ?_)
          · replace h := q_t h hc
            refine h_iinc (l' := [(2, .int (y2 + 1)), (0, .ref (ad 53)), (1, .int y1)]) dX9_chosenNow_49 2 rfl kz_iconst_1 (by decide) rfl ?_
            refine go_goto (tgt := 4) dX9_chosenNow_52 rfl ?_
            refine go_sub (l' := [(0, .ref (ad 53)), (1, .int y1), (2, .int (y2 + 1))]) [1, 2, 0] rfl ?_
            exact ih _ _ _ _ h hk55
          · replace h := q_f h hc
            refine go_iload_n rfl 1 rfl dX9_chosenNow_43 ?_
            refine go_iconst kz_iconst_1 dX9_chosenNow_44 ?_
            refine go_iload_n rfl 2 rfl dX9_chosenNow_45 ?_
            refine h_ishl dX9_chosenNow_46 ?_
            refine go_ior dX9_chosenNow_47 ?_
            refine go_istore_n (l' := [(1, .int (y1 ||| (j_shl 1 y2))), (0, .ref (ad 53)), (2, .int y2)]) dX9_chosenNow_48 rfl (by decide) rfl ?_
            refine h_iinc (l' := [(2, .int (y2 + 1)), (1, .int (y1 ||| (j_shl 1 y2))), (0, .ref (ad 53))]) dX9_chosenNow_49 2 rfl kz_iconst_1 (by decide) rfl ?_
            refine go_goto (tgt := 4) dX9_chosenNow_52 rfl ?_
            refine go_sub (l' := [(0, .ref (ad 53)), (1, .int (y1 ||| (j_shl 1 y2))), (2, .int (y2 + 1))]) [2, 1, 0] rfl ?_
            exact ih _ _ _ _ h hk55
set_option maxRecDepth 20000 in
set_option maxHeartbeats 2000000 in
theorem m_X9_chosenNow_L59 {X : gX} {ad : Nat → Nat} {y1 : Int32} {k99 : Int32 → gN → Option (Int32 × gN)}  : ∀ (n : Nat) (y2 : Int32) (y3 : Int32) (ν : gN) (r : Int32 × gN), f_X9_chosenNow_L59 y1 k99 n y2 y3 ν = some r → (∀ (z2 : Int32) (ν1 : gN), k99 z2 ν1 = some r → h_go X ad RX9 "chosenNow" cX9_chosenNow 5 ((Option.some .int)) 8 (some (.int r.1), r.2) 99 [(2, .int z2)] [] ν1) → h_go X ad RX9 "chosenNow" cX9_chosenNow 5 ((Option.some .int)) 8 (some (.int r.1), r.2) 59 [(0, .ref (ad 53)), (1, .int y1), (2, .int y2), (3, .int y3)] [] ν := by
  intro n
  induction n with
  | zero => intro y2 y3 ν r h hk99; rw [f_X9_chosenNow_L59] at h; exact q_n h
  | succ n ih =>
    intro y2 y3 ν r h hk99
    rw [f_X9_chosenNow_L59] at h
    refine go_iload_n rfl 3 rfl dX9_chosenNow_59 ?_
    refine go_aload_n rfl 0 rfl dX9_chosenNow_60 ?_
    refine h_getr 8 cl7 rfl (by decide) tw_920 61 rfl dX9_chosenNow_61 ?_
    refine go_iconst kz_iconst_0 dX9_chosenNow_64 ?_
    obtain ⟨hg_8, h⟩ := q_g h
    refine h_iald 4 rfl hg_8 dX9_chosenNow_65 ?_
    refine go_icmp_ge (tgt := 99) dX9_chosenNow_66 rfl (fun hc => ?_) (fun hc => ?_)
    · replace h := q_t h hc
      refine go_sub (l' := [(2, .int y2)]) [2] rfl ?_
      exact hk99 _ _ h
    · replace h := q_f h hc
      refine go_aload_n rfl 0 rfl dX9_chosenNow_69 ?_
      refine go_iload_n rfl 1 rfl dX9_chosenNow_70 ?_
      refine go_iload_n rfl 2 rfl dX9_chosenNow_71 ?_
      refine go_iconst kz_iconst_m1 dX9_chosenNow_72 ?_
      refine go_ixor dX9_chosenNow_73 ?_
      refine go_iand dX9_chosenNow_74 ?_
      obtain ⟨r_9, h_10, h⟩ := q_b h
      refine h_callVi (st := []) [.int (y1 &&& (y2 ^^^ (-1)))] (m_X9_furthest h_10) me_X9_furthest (g_recv cl7.1 rfl) tw_1188 tw_1190 tw_48 (hdd_of (by decide)) ⟨Nat.zero_le _, Nat.zero_le _⟩ rfl rfl (Nat.le_of_ble_eq_true rfl) dX9_chosenNow_75 ?_
      refine go_istore (l' := [(4, .int r_9.1), (0, .ref (ad 53)), (1, .int y1), (2, .int y2), (3, .int y3)]) dX9_chosenNow_78 (by decide) rfl ?_
      refine go_iload 0 rfl dX9_chosenNow_80 ?_
      refine go_iconst kz_iconst_m1 dX9_chosenNow_82 ?_
      refine go_icmp_eq (tgt := 93) dX9_chosenNow_83 rfl (fun hc => ?_) (fun hc => ?_)
      · replace h := q_t h hc
        refine h_iinc (l' := [(3, .int (y3 + 1)), (4, .int r_9.1), (0, .ref (ad 53)), (1, .int y1), (2, .int y2)]) dX9_chosenNow_93 4 rfl kz_iconst_1 (by decide) rfl ?_
        refine go_goto (tgt := 59) dX9_chosenNow_96 rfl ?_
        refine go_sub (l' := [(0, .ref (ad 53)), (1, .int y1), (2, .int y2), (3, .int (y3 + 1))]) [2, 3, 4, 0] rfl ?_
        exact ih _ _ _ _ h hk99
      · replace h := q_f h hc
        refine go_iload_n rfl 3 rfl dX9_chosenNow_86 ?_
        refine go_iconst kz_iconst_1 dX9_chosenNow_87 ?_
        refine go_iload 0 rfl dX9_chosenNow_88 ?_
        refine h_ishl dX9_chosenNow_90 ?_
        refine go_ior dX9_chosenNow_91 ?_
        refine go_istore_n (l' := [(2, .int (y2 ||| (j_shl 1 r_9.1))), (4, .int r_9.1), (0, .ref (ad 53)), (1, .int y1), (3, .int y3)]) dX9_chosenNow_92 rfl (by decide) rfl ?_
        refine h_iinc (l' := [(3, .int (y3 + 1)), (2, .int (y2 ||| (j_shl 1 r_9.1))), (4, .int r_9.1), (0, .ref (ad 53)), (1, .int y1)]) dX9_chosenNow_93 4 rfl kz_iconst_1 (by decide) rfl ?_
        refine go_goto (tgt := 59) dX9_chosenNow_96 rfl ?_
        refine go_sub (l' := [(0, .ref (ad 53)), (1, .int y1), (2, .int (y2 ||| (j_shl 1 r_9.1))), (3, .int (y3 + 1))]) [3, 4, 1, 0] rfl ?_
        exact ih _ _ _ _ h hk99
set_option maxRecDepth 20000 in
set_option maxHeartbeats 2000000 in
theorem m_X9_chosenNow {X : gX} {ad : Nat → Nat}  {ν : gN} {r : Int32 × gN}  (h : f_X9_chosenNow  ν = some r) : h_ct X ad yX9_chosenNow cX9_chosenNow 5 ((Option.some .int)) 8 [.ref (ad 53)] ν (some (.int r.1), r.2) := by
  rw [f_X9_chosenNow] at h
  refine h_ct_of (l := [(0, .ref (ad 53))]) (by decide) (Nat.le_of_ble_eq_true rfl) rfl ?_
  refine go_iconst kz_iconst_0 dX9_chosenNow_0 ?_
  refine go_istore_n (l' := [(1, .int 0), (0, .ref (ad 53))]) dX9_chosenNow_1 rfl (by decide) rfl ?_
  refine go_iconst kz_iconst_0 dX9_chosenNow_2 ?_
  refine go_istore_n (l' := [(2, .int 0), (1, .int 0), (0, .ref (ad 53))]) dX9_chosenNow_3 rfl (by decide) rfl ?_
  refine go_sub (l' := [(0, .ref (ad 53)), (1, .int 0), (2, .int 0)]) [2, 1, 0] rfl ?_
  refine m_X9_chosenNow_L4  FU _ _ _ _ h (fun z1_6 ν_7 h => ?_)
  refine go_iconst kz_iconst_0 dX9_chosenNow_55 ?_
  refine go_istore_n (l' := [(2, .int 0), (0, .ref (ad 53)), (1, .int z1_6)]) dX9_chosenNow_56 rfl (by decide) rfl ?_
  refine go_iconst kz_iconst_0 dX9_chosenNow_57 ?_
  refine go_istore_n (l' := [(3, .int 0), (2, .int 0), (0, .ref (ad 53)), (1, .int z1_6)]) dX9_chosenNow_58 rfl (by decide) rfl ?_
  refine go_sub (l' := [(0, .ref (ad 53)), (1, .int z1_6), (2, .int 0), (3, .int 0)]) [2, 3, 1, 0] rfl ?_
  refine m_X9_chosenNow_L59  FU _ _ _ _ h (fun z2_11 ν_12 h => ?_)
  refine go_iload_n rfl 0 rfl dX9_chosenNow_99 ?_
  exact h_iret h dX9_chosenNow_100 rfl
noncomputable def f_X9_pace (x1 : Int32) (ν : gN) : Option (Int32 × gN) :=
  if inb x1 7 = true then
    if (ν.1 54 x1.toNatClampNeg) = 2 then
      if inb x1 7 = true then
        some (((ν.1 57 x1.toNatClampNeg) + 1) / 2, ν)
      else none
    else
    if (ν.1 54 x1.toNatClampNeg) = 3 then
      if inb x1 7 = true then
        some (ν.1 57 x1.toNatClampNeg, ν)
      else none
    else
    if (ν.1 54 x1.toNatClampNeg) = 4 then
      if inb x1 7 = true then
        some (ν.1 57 x1.toNatClampNeg, ν)
      else none
    else
    if (ν.1 54 x1.toNatClampNeg) = 5 then
      if inb 2 4 = true then
        if inb x1 7 = true then
          if ¬ ((ν.1 55 x1.toNatClampNeg) + 2) = 0 then
            if (j_rem (ν.1 61 (2 : Int32).toNatClampNeg) ((ν.1 55 x1.toNatClampNeg) + 2)) = 0 then
              some (0, ν)
            else
              if inb x1 7 = true then
                some (((ν.1 57 x1.toNatClampNeg) + 1) / 2, ν)
              else none
          else none
        else none
      else none
    else
    if (ν.1 54 x1.toNatClampNeg) = 6 then
      if inb x1 7 = true then
        some ((ν.1 57 x1.toNatClampNeg) + 1, ν)
      else none
    else
    if inb x1 7 = true then
      some (ν.1 57 x1.toNatClampNeg, ν)
    else none
  else none
theorem me_X9_pace : g_me yX9_pace cX9_pace 2 ((Option.some .int)) 1 := ⟨tw_1218, tw_79, ⟨by decide +kernel, by decide +kernel, by decide +kernel⟩, by decide⟩
set_option maxRecDepth 20000 in
set_option maxHeartbeats 2000000 in
theorem m_X9_pace {X : gX} {ad : Nat → Nat} {x1 : Int32} {ν : gN} {r : Int32 × gN}  (h : f_X9_pace x1 ν = some r) : h_ct X ad yX9_pace cX9_pace 2 ((Option.some .int)) 1 [.ref (ad 53), .int x1] ν (some (.int r.1), r.2) := by
  rw [f_X9_pace] at h
  refine h_ct_of (l := [(0, .ref (ad 53)), (1, .int x1)]) (by decide) (Nat.le_of_ble_eq_true rfl) rfl ?_
  refine go_aload_n rfl 0 rfl dX9_pace_0 ?_
  refine h_getr 1 cl7 rfl (by decide) tw_913 54 rfl dX9_pace_1 ?_
  refine go_iload_n rfl 1 rfl dX9_pace_4 ?_
  obtain ⟨hg_1, h⟩ := q_g h
  refine h_iald 7 rfl hg_1 dX9_pace_5 ?_
  by_cases hk_2 : (ν.1 54 x1.toNatClampNeg) = 2
  · replace h := q_t h hk_2
    refine h_tbT (tgt := 40) (off := 34) hk_2 dX9_pace_6 (by decide) (by decide) rfl rfl ?_
    refine go_aload_n rfl 0 rfl dX9_pace_40 ?_
    refine h_getr 4 cl7 rfl (by decide) tw_916 57 rfl dX9_pace_41 ?_
    refine go_iload_n rfl 1 rfl dX9_pace_44 ?_
    obtain ⟨hg_3, h⟩ := q_g h
    refine h_iald 7 rfl hg_3 dX9_pace_45 ?_
    refine go_iconst kz_iconst_1 dX9_pace_46 ?_
    refine go_iadd dX9_pace_47 ?_
    refine go_iconst kz_iconst_2 dX9_pace_48 ?_
    refine go_idiv (by decide) dX9_pace_49 ?_
    exact h_iret h dX9_pace_50 rfl
  replace h := q_f h hk_2
  by_cases hk_4 : (ν.1 54 x1.toNatClampNeg) = 3
  · replace h := q_t h hk_4
    refine h_tbT (tgt := 93) (off := 87) hk_4 dX9_pace_6 (by decide) (by decide) rfl rfl ?_
    refine go_aload_n rfl 0 rfl dX9_pace_93 ?_
    refine h_getr 4 cl7 rfl (by decide) tw_916 57 rfl dX9_pace_94 ?_
    refine go_iload_n rfl 1 rfl dX9_pace_97 ?_
    obtain ⟨hg_5, h⟩ := q_g h
    refine h_iald 7 rfl hg_5 dX9_pace_98 ?_
    exact h_iret h dX9_pace_99 rfl
  replace h := q_f h hk_4
  by_cases hk_6 : (ν.1 54 x1.toNatClampNeg) = 4
  · replace h := q_t h hk_6
    refine h_tbT (tgt := 93) (off := 87) hk_6 dX9_pace_6 (by decide) (by decide) rfl rfl ?_
    refine go_aload_n rfl 0 rfl dX9_pace_93 ?_
    refine h_getr 4 cl7 rfl (by decide) tw_916 57 rfl dX9_pace_94 ?_
    refine go_iload_n rfl 1 rfl dX9_pace_97 ?_
    obtain ⟨hg_7, h⟩ := q_g h
    refine h_iald 7 rfl hg_7 dX9_pace_98 ?_
    exact h_iret h dX9_pace_99 rfl
  replace h := q_f h hk_6
  by_cases hk_8 : (ν.1 54 x1.toNatClampNeg) = 5
  · replace h := q_t h hk_8
    refine h_tbT (tgt := 51) (off := 45) hk_8 dX9_pace_6 (by decide) (by decide) rfl rfl ?_
    refine go_aload_n rfl 0 rfl dX9_pace_51 ?_
    refine h_getr 8 cl7 rfl (by decide) tw_920 61 rfl dX9_pace_52 ?_
    refine go_iconst kz_iconst_2 dX9_pace_55 ?_
    obtain ⟨hg_9, h⟩ := q_g h
    refine h_iald 4 rfl hg_9 dX9_pace_56 ?_
    refine go_aload_n rfl 0 rfl dX9_pace_57 ?_
    refine h_getr 2 cl7 rfl (by decide) tw_914 55 rfl dX9_pace_58 ?_
    refine go_iload_n rfl 1 rfl dX9_pace_61 ?_
    obtain ⟨hg_10, h⟩ := q_g h
    refine h_iald 7 rfl hg_10 dX9_pace_62 ?_
    refine go_iconst kz_iconst_2 dX9_pace_63 ?_
    refine go_iadd dX9_pace_64 ?_
    obtain ⟨hg_11, h⟩ := q_g h
    refine h_irem hg_11 dX9_pace_65 ?_
    refine go_if_ne (tgt := 73) dX9_pace_66 rfl (fun hc => ?_) (fun hc => ?_)
    · replace h := q_f h hc
      refine go_aload_n rfl 0 rfl dX9_pace_73 ?_
      refine h_getr 4 cl7 rfl (by decide) tw_916 57 rfl dX9_pace_74 ?_
      refine go_iload_n rfl 1 rfl dX9_pace_77 ?_
      obtain ⟨hg_12, h⟩ := q_g h
      refine h_iald 7 rfl hg_12 dX9_pace_78 ?_
      refine go_iconst kz_iconst_1 dX9_pace_79 ?_
      refine go_iadd dX9_pace_80 ?_
      refine go_iconst kz_iconst_2 dX9_pace_81 ?_
      refine go_idiv (by decide) dX9_pace_82 ?_
      exact h_iret h dX9_pace_83 rfl
    · replace h := q_t h hc
      refine go_iconst kz_iconst_0 dX9_pace_69 ?_
      refine go_goto (tgt := 83) dX9_pace_70 rfl ?_
      exact h_iret h dX9_pace_83 rfl
  replace h := q_f h hk_8
  by_cases hk_13 : (ν.1 54 x1.toNatClampNeg) = 6
  · replace h := q_t h hk_13
    refine h_tbT (tgt := 84) (off := 78) hk_13 dX9_pace_6 (by decide) (by decide) rfl rfl ?_
    refine go_aload_n rfl 0 rfl dX9_pace_84 ?_
    refine h_getr 4 cl7 rfl (by decide) tw_916 57 rfl dX9_pace_85 ?_
    refine go_iload_n rfl 1 rfl dX9_pace_88 ?_
    obtain ⟨hg_14, h⟩ := q_g h
    refine h_iald 7 rfl hg_14 dX9_pace_89 ?_
    refine go_iconst kz_iconst_1 dX9_pace_90 ?_
    refine go_iadd dX9_pace_91 ?_
    exact h_iret h dX9_pace_92 rfl
  replace h := q_f h hk_13
  have hk_2 := h_nT hk_2 (a := 2) (by decide)
  have hk_4 := h_nT hk_4 (a := 3) (by decide)
  have hk_6 := h_nT hk_6 (a := 4) (by decide)
  have hk_8 := h_nT hk_8 (a := 5) (by decide)
  have hk_13 := h_nT hk_13 (a := 6) (by decide)
  refine go_tableOut (tgt := 93) dX9_pace_6 (by omega) rfl ?_
  refine go_aload_n rfl 0 rfl dX9_pace_93 ?_
  refine h_getr 4 cl7 rfl (by decide) tw_916 57 rfl dX9_pace_94 ?_
  refine go_iload_n rfl 1 rfl dX9_pace_97 ?_
  obtain ⟨hg_15, h⟩ := q_g h
  refine h_iald 7 rfl hg_15 dX9_pace_98 ?_
  exact h_iret h dX9_pace_99 rfl
noncomputable def f_X9_flees (x1 : Int32) (ν : gN) : Option (Int32 × gN) :=
  if inb x1 7 = true then
    if (ν.1 54 x1.toNatClampNeg) = 1 then
      if inb x1 7 = true then
        if inb x1 7 = true then
          if (10 + (ν.1 55 x1.toNatClampNeg)) ≤ (ν.1 56 x1.toNatClampNeg) then
            some (0, ν)
          else
            some (1, ν)
        else none
      else none
    else
    if (ν.1 54 x1.toNatClampNeg) = 2 then
      if inb x1 7 = true then
        if 10 ≤ (ν.1 56 x1.toNatClampNeg) then
          some (0, ν)
        else
          some (1, ν)
      else none
    else
    if (ν.1 54 x1.toNatClampNeg) = 3 then
      if inb x1 7 = true then
        if inb x1 7 = true then
          if (10 + (ν.1 55 x1.toNatClampNeg)) ≤ (ν.1 56 x1.toNatClampNeg) then
            some (0, ν)
          else
            some (1, ν)
        else none
      else none
    else
    if (ν.1 54 x1.toNatClampNeg) = 4 then
      some (0, ν)
    else
    if (ν.1 54 x1.toNatClampNeg) = 5 then
      if inb x1 7 = true then
        if 10 ≤ (ν.1 56 x1.toNatClampNeg) then
          some (0, ν)
        else
          some (1, ν)
      else none
    else
    if (ν.1 54 x1.toNatClampNeg) = 6 then
      if inb x1 7 = true then
        if inb x1 7 = true then
          if (10 + (ν.1 55 x1.toNatClampNeg)) ≤ (ν.1 56 x1.toNatClampNeg) then
            some (0, ν)
          else
            some (1, ν)
        else none
      else none
    else
    if inb x1 7 = true then
      if 10 ≤ (ν.1 56 x1.toNatClampNeg) then
        some (0, ν)
      else
        some (1, ν)
    else none
  else none
theorem me_X9_flees : g_me yX9_flees cX9_flees 2 ((Option.some .boolean)) 1 := ⟨tw_1104, tw_79, ⟨by decide +kernel, by decide +kernel, by decide +kernel⟩, by decide⟩
set_option maxRecDepth 20000 in
set_option maxHeartbeats 2000000 in
theorem m_X9_flees {X : gX} {ad : Nat → Nat} {x1 : Int32} {ν : gN} {r : Int32 × gN}  (h : f_X9_flees x1 ν = some r) : h_ct X ad yX9_flees cX9_flees 2 ((Option.some .boolean)) 1 [.ref (ad 53), .int x1] ν (some (.int r.1), r.2) := by
  rw [f_X9_flees] at h
  refine h_ct_of (l := [(0, .ref (ad 53)), (1, .int x1)]) (by decide) (Nat.le_of_ble_eq_true rfl) rfl ?_
  refine go_aload_n rfl 0 rfl dX9_flees_0 ?_
  refine h_getr 1 cl7 rfl (by decide) tw_913 54 rfl dX9_flees_1 ?_
  refine go_iload_n rfl 1 rfl dX9_flees_4 ?_
  obtain ⟨hg_1, h⟩ := q_g h
  refine h_iald 7 rfl hg_1 dX9_flees_5 ?_
  by_cases hk_2 : (ν.1 54 x1.toNatClampNeg) = 1
  · replace h := q_t h hk_2
    refine h_tbT (tgt := 46) (off := 40) hk_2 dX9_flees_6 (by decide) (by decide) rfl rfl ?_
    refine go_aload_n rfl 0 rfl dX9_flees_46 ?_
    refine h_getr 3 cl7 rfl (by decide) tw_915 56 rfl dX9_flees_47 ?_
    refine go_iload_n rfl 1 rfl dX9_flees_50 ?_
    obtain ⟨hg_3, h⟩ := q_g h
    refine h_iald 7 rfl hg_3 dX9_flees_51 ?_
    refine go_bipush kz_bipush_10 dX9_flees_52 ?_
    refine go_aload_n rfl 0 rfl dX9_flees_54 ?_
    refine h_getr 2 cl7 rfl (by decide) tw_914 55 rfl dX9_flees_55 ?_
    refine go_iload_n rfl 1 rfl dX9_flees_58 ?_
    obtain ⟨hg_4, h⟩ := q_g h
    refine h_iald 7 rfl hg_4 dX9_flees_59 ?_
    refine go_iadd dX9_flees_60 ?_
    refine go_icmp_ge (tgt := 68) dX9_flees_61 rfl (fun hc => ?_) (fun hc => ?_)
    · replace h := q_t h hc
      refine go_iconst kz_iconst_0 dX9_flees_68 ?_
      exact h_zret rfl h dX9_flees_69 rfl
    · replace h := q_f h hc
      refine go_iconst kz_iconst_1 dX9_flees_64 ?_
      refine go_goto (tgt := 69) dX9_flees_65 rfl ?_
      exact h_zret rfl h dX9_flees_69 rfl
  replace h := q_f h hk_2
  by_cases hk_5 : (ν.1 54 x1.toNatClampNeg) = 2
  · replace h := q_t h hk_5
    refine h_tbT (tgt := 70) (off := 64) hk_5 dX9_flees_6 (by decide) (by decide) rfl rfl ?_
    refine go_aload_n rfl 0 rfl dX9_flees_70 ?_
    refine h_getr 3 cl7 rfl (by decide) tw_915 56 rfl dX9_flees_71 ?_
    refine go_iload_n rfl 1 rfl dX9_flees_74 ?_
    obtain ⟨hg_6, h⟩ := q_g h
    refine h_iald 7 rfl hg_6 dX9_flees_75 ?_
    refine go_bipush kz_bipush_10 dX9_flees_76 ?_
    refine go_icmp_ge (tgt := 85) dX9_flees_78 rfl (fun hc => ?_) (fun hc => ?_)
    · replace h := q_t h hc
      refine go_iconst kz_iconst_0 dX9_flees_85 ?_
      exact h_zret rfl h dX9_flees_86 rfl
    · replace h := q_f h hc
      refine go_iconst kz_iconst_1 dX9_flees_81 ?_
      refine go_goto (tgt := 86) dX9_flees_82 rfl ?_
      exact h_zret rfl h dX9_flees_86 rfl
  replace h := q_f h hk_5
  by_cases hk_7 : (ν.1 54 x1.toNatClampNeg) = 3
  · replace h := q_t h hk_7
    refine h_tbT (tgt := 46) (off := 40) hk_7 dX9_flees_6 (by decide) (by decide) rfl rfl ?_
    refine go_aload_n rfl 0 rfl dX9_flees_46 ?_
    refine h_getr 3 cl7 rfl (by decide) tw_915 56 rfl dX9_flees_47 ?_
    refine go_iload_n rfl 1 rfl dX9_flees_50 ?_
    obtain ⟨hg_8, h⟩ := q_g h
    refine h_iald 7 rfl hg_8 dX9_flees_51 ?_
    refine go_bipush kz_bipush_10 dX9_flees_52 ?_
    refine go_aload_n rfl 0 rfl dX9_flees_54 ?_
    refine h_getr 2 cl7 rfl (by decide) tw_914 55 rfl dX9_flees_55 ?_
    refine go_iload_n rfl 1 rfl dX9_flees_58 ?_
    obtain ⟨hg_9, h⟩ := q_g h
    refine h_iald 7 rfl hg_9 dX9_flees_59 ?_
    refine go_iadd dX9_flees_60 ?_
    refine go_icmp_ge (tgt := 68) dX9_flees_61 rfl (fun hc => ?_) (fun hc => ?_)
    · replace h := q_t h hc
      refine go_iconst kz_iconst_0 dX9_flees_68 ?_
      exact h_zret rfl h dX9_flees_69 rfl
    · replace h := q_f h hc
      refine go_iconst kz_iconst_1 dX9_flees_64 ?_
      refine go_goto (tgt := 69) dX9_flees_65 rfl ?_
      exact h_zret rfl h dX9_flees_69 rfl
  replace h := q_f h hk_7
  by_cases hk_10 : (ν.1 54 x1.toNatClampNeg) = 4
  · replace h := q_t h hk_10
    refine h_tbT (tgt := 44) (off := 38) hk_10 dX9_flees_6 (by decide) (by decide) rfl rfl ?_
    refine go_iconst kz_iconst_0 dX9_flees_44 ?_
    exact h_zret rfl h dX9_flees_45 rfl
  replace h := q_f h hk_10
  by_cases hk_11 : (ν.1 54 x1.toNatClampNeg) = 5
  · replace h := q_t h hk_11
    refine h_tbT (tgt := 70) (off := 64) hk_11 dX9_flees_6 (by decide) (by decide) rfl rfl ?_
    refine go_aload_n rfl 0 rfl dX9_flees_70 ?_
    refine h_getr 3 cl7 rfl (by decide) tw_915 56 rfl dX9_flees_71 ?_
    refine go_iload_n rfl 1 rfl dX9_flees_74 ?_
    obtain ⟨hg_12, h⟩ := q_g h
    refine h_iald 7 rfl hg_12 dX9_flees_75 ?_
    refine go_bipush kz_bipush_10 dX9_flees_76 ?_
    refine go_icmp_ge (tgt := 85) dX9_flees_78 rfl (fun hc => ?_) (fun hc => ?_)
    · replace h := q_t h hc
      refine go_iconst kz_iconst_0 dX9_flees_85 ?_
      exact h_zret rfl h dX9_flees_86 rfl
    · replace h := q_f h hc
      refine go_iconst kz_iconst_1 dX9_flees_81 ?_
      refine go_goto (tgt := 86) dX9_flees_82 rfl ?_
      exact h_zret rfl h dX9_flees_86 rfl
  replace h := q_f h hk_11
  by_cases hk_13 : (ν.1 54 x1.toNatClampNeg) = 6
  · replace h := q_t h hk_13
    refine h_tbT (tgt := 46) (off := 40) hk_13 dX9_flees_6 (by decide) (by decide) rfl rfl ?_
    refine go_aload_n rfl 0 rfl dX9_flees_46 ?_
    refine h_getr 3 cl7 rfl (by decide) tw_915 56 rfl dX9_flees_47 ?_
    refine go_iload_n rfl 1 rfl dX9_flees_50 ?_
    obtain ⟨hg_14, h⟩ := q_g h
    refine h_iald 7 rfl hg_14 dX9_flees_51 ?_
    refine go_bipush kz_bipush_10 dX9_flees_52 ?_
    refine go_aload_n rfl 0 rfl dX9_flees_54 ?_
    refine h_getr 2 cl7 rfl (by decide) tw_914 55 rfl dX9_flees_55 ?_
    refine go_iload_n rfl 1 rfl dX9_flees_58 ?_
    obtain ⟨hg_15, h⟩ := q_g h
    refine h_iald 7 rfl hg_15 dX9_flees_59 ?_
    refine go_iadd dX9_flees_60 ?_
    refine go_icmp_ge (tgt := 68) dX9_flees_61 rfl (fun hc => ?_) (fun hc => ?_)
    · replace h := q_t h hc
      refine go_iconst kz_iconst_0 dX9_flees_68 ?_
      exact h_zret rfl h dX9_flees_69 rfl
    · replace h := q_f h hc
      refine go_iconst kz_iconst_1 dX9_flees_64 ?_
      refine go_goto (tgt := 69) dX9_flees_65 rfl ?_
      exact h_zret rfl h dX9_flees_69 rfl
  replace h := q_f h hk_13
  have hk_2 := h_nT hk_2 (a := 1) (by decide)
  have hk_5 := h_nT hk_5 (a := 2) (by decide)
  have hk_7 := h_nT hk_7 (a := 3) (by decide)
  have hk_10 := h_nT hk_10 (a := 4) (by decide)
  have hk_11 := h_nT hk_11 (a := 5) (by decide)
  have hk_13 := h_nT hk_13 (a := 6) (by decide)
  refine go_tableOut (tgt := 70) dX9_flees_6 (by omega) rfl ?_
  refine go_aload_n rfl 0 rfl dX9_flees_70 ?_
  refine h_getr 3 cl7 rfl (by decide) tw_915 56 rfl dX9_flees_71 ?_
  refine go_iload_n rfl 1 rfl dX9_flees_74 ?_
  obtain ⟨hg_16, h⟩ := q_g h
  refine h_iald 7 rfl hg_16 dX9_flees_75 ?_
  refine go_bipush kz_bipush_10 dX9_flees_76 ?_
  refine go_icmp_ge (tgt := 85) dX9_flees_78 rfl (fun hc => ?_) (fun hc => ?_)
  · replace h := q_t h hc
    refine go_iconst kz_iconst_0 dX9_flees_85 ?_
    exact h_zret rfl h dX9_flees_86 rfl
  · replace h := q_f h hc
    refine go_iconst kz_iconst_1 dX9_flees_81 ?_
    refine go_goto (tgt := 86) dX9_flees_82 rfl ?_
    exact h_zret rfl h dX9_flees_86 rfl
noncomputable def f_X9_takesStep_L16 (y1 : Int32) (y3 : Int32) (k99 : Int32 → gN → Option (gN)) : Nat → Int32 → Int32 → gN → Option (gN)
  | 0, _, _, _ => none
  | n + 1, y2, y4, ν =>
    if 4 ≤ y4 then
      k99 y2 ν
    else
      if inb y1 7 = true then
        (f_X9_beside (ν.1 58 y1.toNatClampNeg) y4 ν).bind (fun r_5 =>
          if r_5.1 < 0 then
            f_X9_takesStep_L16 y1 y3 k99 n y2 (y4 + 1) r_5.2
          else
            (f_X9_farOf r_5.1 r_5.2).bind (fun r_7 =>
              if r_7.1 = 99 then
                f_X9_takesStep_L16 y1 y3 k99 n y2 (y4 + 1) r_7.2
              else
                if y3 = 0 then
                  (f_X9_farOf r_5.1 r_7.2).bind (fun r_9 =>
                    (f_X9_farOf y2 r_9.2).bind (fun r_11 =>
                      if r_11.1 ≤ r_9.1 then
                        f_X9_takesStep_L16 y1 y3 k99 n y2 (y4 + 1) r_11.2
                      else
                        f_X9_takesStep_L16 y1 y3 k99 n r_5.1 (y4 + 1) r_11.2))
                else
                  (f_X9_farOf r_5.1 r_7.2).bind (fun r_13 =>
                    (f_X9_farOf y2 r_13.2).bind (fun r_15 =>
                      if r_13.1 ≤ r_15.1 then
                        f_X9_takesStep_L16 y1 y3 k99 n y2 (y4 + 1) r_15.2
                      else
                        f_X9_takesStep_L16 y1 y3 k99 n r_5.1 (y4 + 1) r_15.2))))
      else none
noncomputable def f_X9_takesStep (x1 : Int32) (ν : gN) : Option (gN) :=
  if inb x1 7 = true then
    (f_X9_flees x1 ν).bind (fun r_2 =>
      f_X9_takesStep_L16 x1 r_2.1 (fun z2_17 ν_18 =>
        if inb x1 7 = true then
          qL (nWI ν_18 58 x1.toNatClampNeg z2_17) (fun ν_20 =>
            some ν_20)
        else none) FU (ν.1 58 x1.toNatClampNeg) 0 r_2.2)
  else none
theorem me_X9_takesStep : g_me yX9_takesStep cX9_takesStep 6 (none) 1 := ⟨tw_1222, tw_79, ⟨by decide +kernel, by decide +kernel, by decide +kernel⟩, by decide⟩
set_option maxRecDepth 20000 in
set_option maxHeartbeats 2000000 in
theorem m_X9_takesStep_L16 {X : gX} {ad : Nat → Nat} {y1 : Int32} {y3 : Int32} {k99 : Int32 → gN → Option (gN)}  : ∀ (n : Nat) (y2 : Int32) (y4 : Int32) (ν : gN) (r : gN), f_X9_takesStep_L16 y1 y3 k99 n y2 y4 ν = some r → (∀ (z2 : Int32) (ν1 : gN), k99 z2 ν1 = some r → h_go X ad RX9 "takesStep" cX9_takesStep 6 (none) 7 (none, r) 99 [(0, .ref (ad 53)), (1, .int y1), (2, .int z2)] [] ν1) → h_go X ad RX9 "takesStep" cX9_takesStep 6 (none) 7 (none, r) 16 [(0, .ref (ad 53)), (1, .int y1), (2, .int y2), (3, .int y3), (4, .int y4)] [] ν := by
  intro n
  induction n with
  | zero => intro y2 y4 ν r h hk99; rw [f_X9_takesStep_L16] at h; exact q_n h
  | succ n ih =>
    intro y2 y4 ν r h hk99
    rw [f_X9_takesStep_L16] at h
    refine go_iload 4 rfl dX9_takesStep_16 ?_
    refine go_iconst kz_iconst_4 dX9_takesStep_18 ?_
    refine go_icmp_ge (tgt := 99) dX9_takesStep_19 rfl (fun hc => ?_) (fun hc => ?_)
    · replace h := q_t h hc
      refine go_sub (l' := [(0, .ref (ad 53)), (1, .int y1), (2, .int y2)]) [0, 1, 2] rfl ?_
      exact hk99 _ _ h
    · replace h := q_f h hc
      refine go_aload_n rfl 0 rfl dX9_takesStep_22 ?_
      refine go_aload_n rfl 0 rfl dX9_takesStep_23 ?_
      refine h_getr 5 cl7 rfl (by decide) tw_917 58 rfl dX9_takesStep_24 ?_
      refine go_iload_n rfl 1 rfl dX9_takesStep_27 ?_
      obtain ⟨hg_4, h⟩ := q_g h
      refine h_iald 7 rfl hg_4 dX9_takesStep_28 ?_
      refine go_iload 4 rfl dX9_takesStep_29 ?_
      obtain ⟨r_5, h_6, h⟩ := q_b h
      refine h_callVi (st := []) [.int (ν.1 58 y1.toNatClampNeg), .int y4] (m_X9_beside h_6) me_X9_beside (g_recv cl7.1 rfl) tw_1176 tw_1178 tw_46 (hdd_of (by decide)) ⟨Nat.zero_le _, Nat.zero_le _⟩ rfl rfl (Nat.le_of_ble_eq_true rfl) dX9_takesStep_31 ?_
      refine go_istore (l' := [(5, .int r_5.1), (0, .ref (ad 53)), (1, .int y1), (2, .int y2), (3, .int y3), (4, .int y4)]) dX9_takesStep_34 (by decide) rfl ?_
      refine go_iload 0 rfl dX9_takesStep_36 ?_
      refine go_if_lt (tgt := 93) dX9_takesStep_38 rfl (fun hc => ?_) (fun hc => ?_)
      · replace h := q_t h hc
        refine h_iinc (l' := [(4, .int (y4 + 1)), (5, .int r_5.1), (0, .ref (ad 53)), (1, .int y1), (2, .int y2), (3, .int y3)]) dX9_takesStep_93 5 rfl kz_iconst_1 (by decide) rfl ?_
        refine go_goto (tgt := 16) dX9_takesStep_96 rfl ?_
        refine go_sub (l' := [(0, .ref (ad 53)), (1, .int y1), (2, .int y2), (3, .int y3), (4, .int (y4 + 1))]) [2, 3, 4, 5, 0] rfl ?_
        exact ih _ _ _ _ h hk99
      · replace h := q_f h hc
        refine go_aload_n rfl 1 rfl dX9_takesStep_41 ?_
        refine go_iload 0 rfl dX9_takesStep_42 ?_
        obtain ⟨r_7, h_8, h⟩ := q_b h
        refine h_callVi (st := []) [.int r_5.1] (m_X9_farOf h_8) me_X9_farOf (g_recv cl7.1 rfl) tw_1168 tw_1170 tw_44 (hdd_of (by decide)) ⟨Nat.zero_le _, Nat.zero_le _⟩ rfl rfl (Nat.le_of_ble_eq_true rfl) dX9_takesStep_44 ?_
        refine go_bipush kz_bipush_99 dX9_takesStep_47 ?_
        refine go_icmp_ne (tgt := 55) dX9_takesStep_49 rfl (fun hc => ?_) (fun hc => ?_)
        · replace h := q_f h hc
          refine go_iload_n rfl 4 rfl dX9_takesStep_55 ?_
          refine go_if_eq (tgt := 76) dX9_takesStep_56 rfl (fun hc => ?_) (fun hc => ?_)
          · replace h := q_t h hc
            refine go_aload_n rfl 1 rfl dX9_takesStep_76 ?_
            refine go_iload 0 rfl dX9_takesStep_77 ?_
            obtain ⟨r_9, h_10, h⟩ := q_b h
            refine h_callVi (st := []) [.int r_5.1] (m_X9_farOf h_10) me_X9_farOf (g_recv cl7.1 rfl) tw_1168 tw_1170 tw_44 (hdd_of (by decide)) ⟨Nat.zero_le _, Nat.zero_le _⟩ rfl rfl (Nat.le_of_ble_eq_true rfl) dX9_takesStep_79 ?_
            refine go_aload_n rfl 1 rfl dX9_takesStep_82 ?_
            refine go_iload_n rfl 3 rfl dX9_takesStep_83 ?_
            obtain ⟨r_11, h_12, h⟩ := q_b h
            refine h_callVi (st := [.int r_9.1]) [.int y2] (m_X9_farOf h_12) me_X9_farOf (g_recv cl7.1 rfl) tw_1168 tw_1170 tw_44 (hdd_of (by decide)) ⟨Nat.zero_le _, Nat.zero_le _⟩ rfl rfl (Nat.le_of_ble_eq_true rfl) dX9_takesStep_84 ?_
            refine go_icmp_ge (tgt := 93) dX9_takesStep_87 rfl (fun hc => ?_) (fun hc => ?_)
            · replace h := q_t h hc
              refine h_iinc (l' := [(4, .int (y4 + 1)), (5, .int r_5.1), (0, .ref (ad 53)), (1, .int y1), (2, .int y2), (3, .int y3)]) dX9_takesStep_93 5 rfl kz_iconst_1 (by decide) rfl ?_
              refine go_goto (tgt := 16) dX9_takesStep_96 rfl ?_
              refine go_sub (l' := [(0, .ref (ad 53)), (1, .int y1), (2, .int y2), (3, .int y3), (4, .int (y4 + 1))]) [2, 3, 4, 5, 0] rfl ?_
              exact ih _ _ _ _ h hk99
            · replace h := q_f h hc
              refine go_iload 0 rfl dX9_takesStep_90 ?_
              refine go_istore_n (l' := [(2, .int r_5.1), (5, .int r_5.1), (0, .ref (ad 53)), (1, .int y1), (3, .int y3), (4, .int y4)]) dX9_takesStep_92 rfl (by decide) rfl ?_
              refine h_iinc (l' := [(4, .int (y4 + 1)), (2, .int r_5.1), (5, .int r_5.1), (0, .ref (ad 53)), (1, .int y1), (3, .int y3)]) dX9_takesStep_93 5 rfl kz_iconst_1 (by decide) rfl ?_
              refine go_goto (tgt := 16) dX9_takesStep_96 rfl ?_
              refine go_sub (l' := [(0, .ref (ad 53)), (1, .int y1), (2, .int r_5.1), (3, .int y3), (4, .int (y4 + 1))]) [3, 4, 1, 5, 0] rfl ?_
              exact ih _ _ _ _ h hk99
          · replace h := q_f h hc
            refine go_aload_n rfl 1 rfl dX9_takesStep_59 ?_
            refine go_iload 0 rfl dX9_takesStep_60 ?_
            obtain ⟨r_13, h_14, h⟩ := q_b h
            refine h_callVi (st := []) [.int r_5.1] (m_X9_farOf h_14) me_X9_farOf (g_recv cl7.1 rfl) tw_1168 tw_1170 tw_44 (hdd_of (by decide)) ⟨Nat.zero_le _, Nat.zero_le _⟩ rfl rfl (Nat.le_of_ble_eq_true rfl) dX9_takesStep_62 ?_
            refine go_aload_n rfl 1 rfl dX9_takesStep_65 ?_
            refine go_iload_n rfl 3 rfl dX9_takesStep_66 ?_
            obtain ⟨r_15, h_16, h⟩ := q_b h
            refine h_callVi (st := [.int r_13.1]) [.int y2] (m_X9_farOf h_16) me_X9_farOf (g_recv cl7.1 rfl) tw_1168 tw_1170 tw_44 (hdd_of (by decide)) ⟨Nat.zero_le _, Nat.zero_le _⟩ rfl rfl (Nat.le_of_ble_eq_true rfl) dX9_takesStep_67 ?_
            refine go_icmp_le (tgt := 93) dX9_takesStep_70 rfl (fun hc => ?_) (fun hc => ?_)
            · replace h := q_t h hc
              refine h_iinc (l' := [(4, .int (y4 + 1)), (5, .int r_5.1), (0, .ref (ad 53)), (1, .int y1), (2, .int y2), (3, .int y3)]) dX9_takesStep_93 5 rfl kz_iconst_1 (by decide) rfl ?_
              refine go_goto (tgt := 16) dX9_takesStep_96 rfl ?_
              refine go_sub (l' := [(0, .ref (ad 53)), (1, .int y1), (2, .int y2), (3, .int y3), (4, .int (y4 + 1))]) [2, 3, 4, 5, 0] rfl ?_
              exact ih _ _ _ _ h hk99
            · replace h := q_f h hc
              refine go_goto (tgt := 90) dX9_takesStep_73 rfl ?_
              refine go_iload 0 rfl dX9_takesStep_90 ?_
              refine go_istore_n (l' := [(2, .int r_5.1), (5, .int r_5.1), (0, .ref (ad 53)), (1, .int y1), (3, .int y3), (4, .int y4)]) dX9_takesStep_92 rfl (by decide) rfl ?_
              refine h_iinc (l' := [(4, .int (y4 + 1)), (2, .int r_5.1), (5, .int r_5.1), (0, .ref (ad 53)), (1, .int y1), (3, .int y3)]) dX9_takesStep_93 5 rfl kz_iconst_1 (by decide) rfl ?_
              refine go_goto (tgt := 16) dX9_takesStep_96 rfl ?_
              refine go_sub (l' := [(0, .ref (ad 53)), (1, .int y1), (2, .int r_5.1), (3, .int y3), (4, .int (y4 + 1))]) [3, 4, 1, 5, 0] rfl ?_
              exact ih _ _ _ _ h hk99
        · replace h := q_t h hc
          refine go_goto (tgt := 93) dX9_takesStep_52 rfl ?_
          refine h_iinc (l' := [(4, .int (y4 + 1)), (5, .int r_5.1), (0, .ref (ad 53)), (1, .int y1), (2, .int y2), (3, .int y3)]) dX9_takesStep_93 5 rfl kz_iconst_1 (by decide) rfl ?_
          refine go_goto (tgt := 16) dX9_takesStep_96 rfl ?_
          refine go_sub (l' := [(0, .ref (ad 53)), (1, .int y1), (2, .int y2), (3, .int y3), (4, .int (y4 + 1))]) [2, 3, 4, 5, 0] rfl ?_
          exact ih _ _ _ _ h hk99
set_option maxRecDepth 20000 in
set_option maxHeartbeats 2000000 in
theorem m_X9_takesStep {X : gX} {ad : Nat → Nat} {x1 : Int32} {ν : gN} {r : gN}  (h : f_X9_takesStep x1 ν = some r) : h_ct X ad yX9_takesStep cX9_takesStep 6 (none) 7 [.ref (ad 53), .int x1] ν (none, r) := by
  rw [f_X9_takesStep] at h
  refine h_ct_of (l := [(0, .ref (ad 53)), (1, .int x1)]) (by decide) (Nat.le_of_ble_eq_true rfl) rfl ?_
  refine go_aload_n rfl 0 rfl dX9_takesStep_0 ?_
  refine h_getr 5 cl7 rfl (by decide) tw_917 58 rfl dX9_takesStep_1 ?_
  refine go_iload_n rfl 1 rfl dX9_takesStep_4 ?_
  obtain ⟨hg_1, h⟩ := q_g h
  refine h_iald 7 rfl hg_1 dX9_takesStep_5 ?_
  refine go_istore_n (l' := [(2, .int (ν.1 58 x1.toNatClampNeg)), (0, .ref (ad 53)), (1, .int x1)]) dX9_takesStep_6 rfl (by decide) rfl ?_
  refine go_aload_n rfl 1 rfl dX9_takesStep_7 ?_
  refine go_iload_n rfl 2 rfl dX9_takesStep_8 ?_
  obtain ⟨r_2, h_3, h⟩ := q_b h
  refine h_callVi (st := []) [.int x1] (m_X9_flees h_3) me_X9_flees (g_recv cl7.1 rfl) tw_1101 tw_1103 tw_33 (hdd_of (by decide)) ⟨Nat.zero_le _, Nat.zero_le _⟩ rfl rfl (Nat.le_of_ble_eq_true rfl) dX9_takesStep_9 ?_
  refine go_istore_n (l' := [(3, .int r_2.1), (2, .int (ν.1 58 x1.toNatClampNeg)), (0, .ref (ad 53)), (1, .int x1)]) dX9_takesStep_12 rfl (by decide) rfl ?_
  refine go_iconst kz_iconst_0 dX9_takesStep_13 ?_
  refine go_istore (l' := [(4, .int 0), (3, .int r_2.1), (2, .int (ν.1 58 x1.toNatClampNeg)), (0, .ref (ad 53)), (1, .int x1)]) dX9_takesStep_14 (by decide) rfl ?_
  refine go_sub (l' := [(0, .ref (ad 53)), (1, .int x1), (2, .int (ν.1 58 x1.toNatClampNeg)), (3, .int r_2.1), (4, .int 0)]) [3, 4, 2, 1, 0] rfl ?_
  refine m_X9_takesStep_L16  FU _ _ _ _ h (fun z2_17 ν_18 h => ?_)
  refine go_aload_n rfl 0 rfl dX9_takesStep_99 ?_
  refine h_getr 5 cl7 rfl (by decide) tw_917 58 rfl dX9_takesStep_100 ?_
  refine go_iload_n rfl 1 rfl dX9_takesStep_103 ?_
  refine go_iload_n rfl 2 rfl dX9_takesStep_104 ?_
  obtain ⟨hg_19, h⟩ := q_g h
  obtain ⟨ν_20, e_21, h⟩ := q_l h
  refine h_iast 7 rfl hg_19 e_21 dX9_takesStep_105 ?_
  exact h_vret h dX9_takesStep_106 rfl
noncomputable def f_X9_goesYard_L18 (y1 : Int32) (y2 : Int32) (k34 : gN → Option (gN)) : Nat → Int32 → gN → Option (gN)
  | 0, _, _ => none
  | n + 1, y3, ν =>
    if y2 ≤ y3 then
      k34  ν
    else
      (f_X9_takesStep y1 ν).bind (fun r_3 =>
        f_X9_goesYard_L18 y1 y2 k34 n (y3 + 1) r_3)
noncomputable def f_X9_goesYard_L2  (k40 : gN → Option (gN)) : Nat → Int32 → gN → Option (gN)
  | 0, _, _ => none
  | n + 1, y1, ν =>
    if (ν.1 53 0) ≤ y1 then
      k40  ν
    else
      (f_X9_pace y1 ν).bind (fun r_1 =>
        f_X9_goesYard_L18 y1 r_1.1 (fun ν_5 =>
          f_X9_goesYard_L2 k40 n (y1 + 1) ν_5) FU 0 r_1.2)
noncomputable def f_X9_goesYard  (ν : gN) : Option (gN) :=
  f_X9_goesYard_L2  (fun ν_6 =>
    if inb 2 4 = true then
      if inb 2 4 = true then
        qL (nWI ν_6 61 (2 : Int32).toNatClampNeg ((ν_6.1 61 (2 : Int32).toNatClampNeg) + 1)) (fun ν_9 =>
          some ν_9)
      else none
    else none) FU 0 ν
theorem me_X9_goesYard : g_me yX9_goesYard cX9_goesYard 4 (none) 0 := ⟨tw_1214, tw_79, ⟨by decide +kernel, by decide +kernel, by decide +kernel⟩, by decide⟩
set_option maxRecDepth 20000 in
set_option maxHeartbeats 2000000 in
theorem m_X9_goesYard_L18 {X : gX} {ad : Nat → Nat} {y1 : Int32} {y2 : Int32} {k34 : gN → Option (gN)}  : ∀ (n : Nat) (y3 : Int32) (ν : gN) (r : gN), f_X9_goesYard_L18 y1 y2 k34 n y3 ν = some r → (∀ (ν1 : gN), k34 ν1 = some r → h_go X ad RX9 "goesYard" cX9_goesYard 4 (none) 8 (none, r) 34 [(0, .ref (ad 53)), (1, .int y1)] [] ν1) → h_go X ad RX9 "goesYard" cX9_goesYard 4 (none) 8 (none, r) 18 [(0, .ref (ad 53)), (1, .int y1), (2, .int y2), (3, .int y3)] [] ν := by
  intro n
  induction n with
  | zero => intro y3 ν r h hk34; rw [f_X9_goesYard_L18] at h; exact q_n h
  | succ n ih =>
    intro y3 ν r h hk34
    rw [f_X9_goesYard_L18] at h
    refine go_iload_n rfl 3 rfl dX9_goesYard_18 ?_
    refine go_iload_n rfl 2 rfl dX9_goesYard_19 ?_
    refine go_icmp_ge (tgt := 34) dX9_goesYard_20 rfl (fun hc => ?_) (fun hc => ?_)
    · replace h := q_t h hc
      refine go_sub (l' := [(0, .ref (ad 53)), (1, .int y1)]) [0, 1] rfl ?_
      exact hk34  _ h
    · replace h := q_f h hc
      refine go_aload_n rfl 0 rfl dX9_goesYard_23 ?_
      refine go_iload_n rfl 1 rfl dX9_goesYard_24 ?_
      obtain ⟨r_3, h_4, h⟩ := q_b h
      refine h_callVv (st := []) [.int y1] (m_X9_takesStep h_4) me_X9_takesStep (g_recv cl7.1 rfl) tw_1219 tw_1221 tw_54 (hdd_of (by decide)) ⟨Nat.zero_le _, Nat.zero_le _⟩ rfl rfl (Nat.le_of_ble_eq_true rfl) dX9_goesYard_25 ?_
      refine h_iinc (l' := [(3, .int (y3 + 1)), (0, .ref (ad 53)), (1, .int y1), (2, .int y2)]) dX9_goesYard_28 3 rfl kz_iconst_1 (by decide) rfl ?_
      refine go_goto (tgt := 18) dX9_goesYard_31 rfl ?_
      refine go_sub (l' := [(0, .ref (ad 53)), (1, .int y1), (2, .int y2), (3, .int (y3 + 1))]) [1, 2, 3, 0] rfl ?_
      exact ih _ _ _ h hk34
set_option maxRecDepth 20000 in
set_option maxHeartbeats 2000000 in
theorem m_X9_goesYard_L2 {X : gX} {ad : Nat → Nat}  {k40 : gN → Option (gN)}  : ∀ (n : Nat) (y1 : Int32) (ν : gN) (r : gN), f_X9_goesYard_L2 k40 n y1 ν = some r → (∀ (ν1 : gN), k40 ν1 = some r → h_go X ad RX9 "goesYard" cX9_goesYard 4 (none) 8 (none, r) 40 [(0, .ref (ad 53))] [] ν1) → h_go X ad RX9 "goesYard" cX9_goesYard 4 (none) 8 (none, r) 2 [(0, .ref (ad 53)), (1, .int y1)] [] ν := by
  intro n
  induction n with
  | zero => intro y1 ν r h hk40; rw [f_X9_goesYard_L2] at h; exact q_n h
  | succ n ih =>
    intro y1 ν r h hk40
    rw [f_X9_goesYard_L2] at h
    refine go_iload_n rfl 1 rfl dX9_goesYard_2 ?_
    refine go_aload_n rfl 0 rfl dX9_goesYard_3 ?_
    refine h_geti 0 cl7 rfl (by decide) tw_912 rfl dX9_goesYard_4 ?_
    refine go_icmp_ge (tgt := 40) dX9_goesYard_7 rfl (fun hc => ?_) (fun hc => ?_)
    · replace h := q_t h hc
      refine go_sub (l' := [(0, .ref (ad 53))]) [0] rfl ?_
      exact hk40  _ h
    · replace h := q_f h hc
      refine go_aload_n rfl 0 rfl dX9_goesYard_10 ?_
      refine go_iload_n rfl 1 rfl dX9_goesYard_11 ?_
      obtain ⟨r_1, h_2, h⟩ := q_b h
      refine h_callVi (st := []) [.int y1] (m_X9_pace h_2) me_X9_pace (g_recv cl7.1 rfl) tw_1215 tw_1217 tw_53 (hdd_of (by decide)) ⟨Nat.zero_le _, Nat.zero_le _⟩ rfl rfl (Nat.le_of_ble_eq_true rfl) dX9_goesYard_12 ?_
      refine go_istore_n (l' := [(2, .int r_1.1), (0, .ref (ad 53)), (1, .int y1)]) dX9_goesYard_15 rfl (by decide) rfl ?_
      refine go_iconst kz_iconst_0 dX9_goesYard_16 ?_
      refine go_istore_n (l' := [(3, .int 0), (2, .int r_1.1), (0, .ref (ad 53)), (1, .int y1)]) dX9_goesYard_17 rfl (by decide) rfl ?_
      refine go_sub (l' := [(0, .ref (ad 53)), (1, .int y1), (2, .int r_1.1), (3, .int 0)]) [2, 3, 1, 0] rfl ?_
      refine m_X9_goesYard_L18  FU _ _ _ h (fun ν_5 h => ?_)
      refine h_iinc (l' := [(1, .int (y1 + 1)), (0, .ref (ad 53))]) dX9_goesYard_34 1 rfl kz_iconst_1 (by decide) rfl ?_
      refine go_goto (tgt := 2) dX9_goesYard_37 rfl ?_
      refine go_sub (l' := [(0, .ref (ad 53)), (1, .int (y1 + 1))]) [1, 0] rfl ?_
      exact ih _ _ _ h hk40
set_option maxRecDepth 20000 in
set_option maxHeartbeats 2000000 in
theorem m_X9_goesYard {X : gX} {ad : Nat → Nat}  {ν : gN} {r : gN}  (h : f_X9_goesYard  ν = some r) : h_ct X ad yX9_goesYard cX9_goesYard 4 (none) 8 [.ref (ad 53)] ν (none, r) := by
  rw [f_X9_goesYard] at h
  refine h_ct_of (l := [(0, .ref (ad 53))]) (by decide) (Nat.le_of_ble_eq_true rfl) rfl ?_
  refine go_iconst kz_iconst_0 dX9_goesYard_0 ?_
  refine go_istore_n (l' := [(1, .int 0), (0, .ref (ad 53))]) dX9_goesYard_1 rfl (by decide) rfl ?_
  refine go_sub (l' := [(0, .ref (ad 53)), (1, .int 0)]) [1, 0] rfl ?_
  refine m_X9_goesYard_L2  FU _ _ _ h (fun ν_6 h => ?_)
  refine go_aload_n rfl 0 rfl dX9_goesYard_40 ?_
  refine h_getr 8 cl7 rfl (by decide) tw_920 61 rfl dX9_goesYard_41 ?_
  refine go_iconst kz_iconst_2 dX9_goesYard_44 ?_
  refine go_dup2 rfl rfl dX9_goesYard_45 ?_
  obtain ⟨hg_7, h⟩ := q_g h
  refine h_iald 4 rfl hg_7 dX9_goesYard_46 ?_
  refine go_iconst kz_iconst_1 dX9_goesYard_47 ?_
  refine go_iadd dX9_goesYard_48 ?_
  obtain ⟨hg_8, h⟩ := q_g h
  obtain ⟨ν_9, e_10, h⟩ := q_l h
  refine h_iast 4 rfl hg_8 e_10 dX9_goesYard_49 ?_
  exact h_vret h dX9_goesYard_50 rfl
noncomputable def f_X9_goesOn_L2 (y1 : Int32) (k17 : gN → Option (gN)) : Nat → Int32 → gN → Option (gN)
  | 0, _, _ => none
  | n + 1, y2, ν =>
    if y1 ≤ y2 then
      k17  ν
    else
      (f_X9_goesYard  ν).bind (fun r_1 =>
        f_X9_goesOn_L2 y1 k17 n (y2 + 1) r_1)
noncomputable def f_X9_goesOn (x1 : Int32) (ν : gN) : Option (gN) :=
  f_X9_goesOn_L2 x1 (fun ν_3 =>
    some ν_3) FU 0 ν
theorem me_X9_goesOn : g_me yX9_goesOn cX9_goesOn 3 (none) 1 := ⟨tw_1210, tw_79, ⟨by decide +kernel, by decide +kernel, by decide +kernel⟩, by decide⟩
set_option maxRecDepth 20000 in
set_option maxHeartbeats 2000000 in
theorem m_X9_goesOn_L2 {X : gX} {ad : Nat → Nat} {y1 : Int32} {k17 : gN → Option (gN)}  : ∀ (n : Nat) (y2 : Int32) (ν : gN) (r : gN), f_X9_goesOn_L2 y1 k17 n y2 ν = some r → (∀ (ν1 : gN), k17 ν1 = some r → h_go X ad RX9 "goesOn" cX9_goesOn 3 (none) 9 (none, r) 17 [] [] ν1) → h_go X ad RX9 "goesOn" cX9_goesOn 3 (none) 9 (none, r) 2 [(0, .ref (ad 53)), (1, .int y1), (2, .int y2)] [] ν := by
  intro n
  induction n with
  | zero => intro y2 ν r h hk17; rw [f_X9_goesOn_L2] at h; exact q_n h
  | succ n ih =>
    intro y2 ν r h hk17
    rw [f_X9_goesOn_L2] at h
    refine go_iload_n rfl 2 rfl dX9_goesOn_2 ?_
    refine go_iload_n rfl 1 rfl dX9_goesOn_3 ?_
    refine go_icmp_ge (tgt := 17) dX9_goesOn_4 rfl (fun hc => ?_) (fun hc => ?_)
    · replace h := q_t h hc
      refine go_sub (l' := []) [] rfl ?_
      exact hk17  _ h
    · replace h := q_f h hc
      refine go_aload_n rfl 0 rfl dX9_goesOn_7 ?_
      obtain ⟨r_1, h_2, h⟩ := q_b h
      refine h_callVv (st := []) [] (m_X9_goesYard h_2) me_X9_goesYard (g_recv cl7.1 rfl) tw_1211 tw_1213 tw_52 (hdd_of (by decide)) ⟨Nat.zero_le _, Nat.zero_le _⟩ rfl rfl (Nat.le_of_ble_eq_true rfl) dX9_goesOn_8 ?_
      refine h_iinc (l' := [(2, .int (y2 + 1)), (0, .ref (ad 53)), (1, .int y1)]) dX9_goesOn_11 2 rfl kz_iconst_1 (by decide) rfl ?_
      refine go_goto (tgt := 2) dX9_goesOn_14 rfl ?_
      refine go_sub (l' := [(0, .ref (ad 53)), (1, .int y1), (2, .int (y2 + 1))]) [1, 2, 0] rfl ?_
      exact ih _ _ _ h hk17
set_option maxRecDepth 20000 in
set_option maxHeartbeats 2000000 in
theorem m_X9_goesOn {X : gX} {ad : Nat → Nat} {x1 : Int32} {ν : gN} {r : gN}  (h : f_X9_goesOn x1 ν = some r) : h_ct X ad yX9_goesOn cX9_goesOn 3 (none) 9 [.ref (ad 53), .int x1] ν (none, r) := by
  rw [f_X9_goesOn] at h
  refine h_ct_of (l := [(0, .ref (ad 53)), (1, .int x1)]) (by decide) (Nat.le_of_ble_eq_true rfl) rfl ?_
  refine go_iconst kz_iconst_0 dX9_goesOn_0 ?_
  refine go_istore_n (l' := [(2, .int 0), (0, .ref (ad 53)), (1, .int x1)]) dX9_goesOn_1 rfl (by decide) rfl ?_
  refine go_sub (l' := [(0, .ref (ad 53)), (1, .int x1), (2, .int 0)]) [1, 2, 0] rfl ?_
  refine m_X9_goesOn_L2  FU _ _ _ h (fun ν_3 h => ?_)
  exact h_vret h dX9_goesOn_17 rfl
noncomputable def f_X9_keep_L2 (y1 : Nat) (k83 : gN → Option (gN)) : Nat → Int32 → gN → Option (gN)
  | 0, _, _ => none
  | n + 1, y2, ν =>
    if 7 ≤ y2 then
      k83  ν
    else
      if inb y2 7 = true then
        if inb y2 96 = true then
          qL (nWI ν y1 y2.toNatClampNeg (ν.1 54 y2.toNatClampNeg)) (fun ν_3 =>
            if inb y2 7 = true then
              if inb (7 + y2) 96 = true then
                qL (nWI ν_3 y1 (7 + y2).toNatClampNeg (ν_3.1 55 y2.toNatClampNeg)) (fun ν_7 =>
                  if inb y2 7 = true then
                    if inb (14 + y2) 96 = true then
                      qL (nWI ν_7 y1 (14 + y2).toNatClampNeg (ν_7.1 56 y2.toNatClampNeg)) (fun ν_11 =>
                        if inb y2 7 = true then
                          if inb (21 + y2) 96 = true then
                            qL (nWI ν_11 y1 (21 + y2).toNatClampNeg (ν_11.1 57 y2.toNatClampNeg)) (fun ν_15 =>
                              if inb y2 7 = true then
                                if inb (28 + y2) 96 = true then
                                  qL (nWI ν_15 y1 (28 + y2).toNatClampNeg (ν_15.1 58 y2.toNatClampNeg)) (fun ν_19 =>
                                    if inb y2 7 = true then
                                      if inb (35 + y2) 96 = true then
                                        qL (nWI ν_19 y1 (35 + y2).toNatClampNeg (ν_19.1 59 y2.toNatClampNeg)) (fun ν_23 =>
                                          f_X9_keep_L2 y1 k83 n (y2 + 1) ν_23)
                                      else none
                                    else none)
                                else none
                              else none)
                          else none
                        else none)
                    else none
                  else none)
              else none
            else none)
        else none
      else none
noncomputable def f_X9_keep_L85 (y1 : Nat) (k117 : gN → Option (gN)) : Nat → Int32 → gN → Option (gN)
  | 0, _, _ => none
  | n + 1, y2, ν =>
    if 49 ≤ y2 then
      k117  ν
    else
      if inb y2 49 = true then
        if (ν.1 60 y2.toNatClampNeg) = 0 then
          if inb (42 + y2) 96 = true then
            qL (nWI ν y1 (42 + y2).toNatClampNeg 0) (fun ν_28 =>
              f_X9_keep_L85 y1 k117 n (y2 + 1) ν_28)
          else none
        else
          if inb (42 + y2) 96 = true then
            qL (nWI ν y1 (42 + y2).toNatClampNeg 1) (fun ν_31 =>
              f_X9_keep_L85 y1 k117 n (y2 + 1) ν_31)
          else none
      else none
noncomputable def f_X9_keep_L119 (y1 : Nat) (k142 : gN → Option (gN)) : Nat → Int32 → gN → Option (gN)
  | 0, _, _ => none
  | n + 1, y2, ν =>
    if 4 ≤ y2 then
      k142  ν
    else
      if inb y2 4 = true then
        if inb (91 + y2) 96 = true then
          qL (nWI ν y1 (91 + y2).toNatClampNeg (ν.1 61 y2.toNatClampNeg)) (fun ν_36 =>
            f_X9_keep_L119 y1 k142 n (y2 + 1) ν_36)
        else none
      else none
noncomputable def f_X9_keep (a1 : Nat) (ν : gN) : Option (gN) :=
  f_X9_keep_L2 a1 (fun ν_25 =>
    f_X9_keep_L85 a1 (fun ν_33 =>
      f_X9_keep_L119 a1 (fun ν_38 =>
        if inb 95 96 = true then
          qL (nWI ν_38 a1 (95 : Int32).toNatClampNeg (ν_38.1 53 0)) (fun ν_40 =>
            some ν_40)
        else none) FU 0 ν_33) FU 0 ν_25) FU 0 ν
theorem me_X9_keep : g_me yX9_keep cX9_keep 3 (none) 1 := ⟨tw_1120, tw_79, ⟨by decide +kernel, by decide +kernel, by decide +kernel⟩, by decide⟩
set_option maxRecDepth 20000 in
set_option maxHeartbeats 2000000 in
theorem m_X9_keep_L2 {X : gX} {ad : Nat → Nat} {y1 : Nat} {k83 : gN → Option (gN)} (hy1 : SH[y1]? = some (0, 96)) : ∀ (n : Nat) (y2 : Int32) (ν : gN) (r : gN), f_X9_keep_L2 y1 k83 n y2 ν = some r → (∀ (ν1 : gN), k83 ν1 = some r → h_go X ad RX9 "keep" cX9_keep 3 (none) 1 (none, r) 83 [(0, .ref (ad 53)), (1, .ref (ad y1))] [] ν1) → h_go X ad RX9 "keep" cX9_keep 3 (none) 1 (none, r) 2 [(0, .ref (ad 53)), (1, .ref (ad y1)), (2, .int y2)] [] ν := by
  intro n
  induction n with
  | zero => intro y2 ν r h hk83; rw [f_X9_keep_L2] at h; exact q_n h
  | succ n ih =>
    intro y2 ν r h hk83
    rw [f_X9_keep_L2] at h
    refine go_iload_n rfl 2 rfl dX9_keep_2 ?_
    refine go_bipush kz_bipush_7 dX9_keep_3 ?_
    refine go_icmp_ge (tgt := 83) dX9_keep_5 rfl (fun hc => ?_) (fun hc => ?_)
    · replace h := q_t h hc
      refine go_sub (l' := [(0, .ref (ad 53)), (1, .ref (ad y1))]) [0, 1] rfl ?_
      exact hk83  _ h
    · replace h := q_f h hc
      refine go_aload_n rfl 1 rfl dX9_keep_8 ?_
      refine go_iload_n rfl 2 rfl dX9_keep_9 ?_
      refine go_aload_n rfl 0 rfl dX9_keep_10 ?_
      refine h_getr 1 cl7 rfl (by decide) tw_913 54 rfl dX9_keep_11 ?_
      refine go_iload_n rfl 2 rfl dX9_keep_14 ?_
      obtain ⟨hg_1, h⟩ := q_g h
      refine h_iald 7 rfl hg_1 dX9_keep_15 ?_
      obtain ⟨hg_2, h⟩ := q_g h
      obtain ⟨ν_3, e_4, h⟩ := q_l h
      refine h_iast 96 hy1 hg_2 e_4 dX9_keep_16 ?_
      refine go_aload_n rfl 1 rfl dX9_keep_17 ?_
      refine go_bipush kz_bipush_7 dX9_keep_18 ?_
      refine go_iload_n rfl 2 rfl dX9_keep_20 ?_
      refine go_iadd dX9_keep_21 ?_
      refine go_aload_n rfl 0 rfl dX9_keep_22 ?_
      refine h_getr 2 cl7 rfl (by decide) tw_914 55 rfl dX9_keep_23 ?_
      refine go_iload_n rfl 2 rfl dX9_keep_26 ?_
      obtain ⟨hg_5, h⟩ := q_g h
      refine h_iald 7 rfl hg_5 dX9_keep_27 ?_
      obtain ⟨hg_6, h⟩ := q_g h
      obtain ⟨ν_7, e_8, h⟩ := q_l h
      refine h_iast 96 hy1 hg_6 e_8 dX9_keep_28 ?_
      refine go_aload_n rfl 1 rfl dX9_keep_29 ?_
      refine go_bipush kz_bipush_14 dX9_keep_30 ?_
      refine go_iload_n rfl 2 rfl dX9_keep_32 ?_
      refine go_iadd dX9_keep_33 ?_
      refine go_aload_n rfl 0 rfl dX9_keep_34 ?_
      refine h_getr 3 cl7 rfl (by decide) tw_915 56 rfl dX9_keep_35 ?_
      refine go_iload_n rfl 2 rfl dX9_keep_38 ?_
      obtain ⟨hg_9, h⟩ := q_g h
      refine h_iald 7 rfl hg_9 dX9_keep_39 ?_
      obtain ⟨hg_10, h⟩ := q_g h
      obtain ⟨ν_11, e_12, h⟩ := q_l h
      refine h_iast 96 hy1 hg_10 e_12 dX9_keep_40 ?_
      refine go_aload_n rfl 1 rfl dX9_keep_41 ?_
      refine go_bipush kz_bipush_21 dX9_keep_42 ?_
      refine go_iload_n rfl 2 rfl dX9_keep_44 ?_
      refine go_iadd dX9_keep_45 ?_
      refine go_aload_n rfl 0 rfl dX9_keep_46 ?_
      refine h_getr 4 cl7 rfl (by decide) tw_916 57 rfl dX9_keep_47 ?_
      refine go_iload_n rfl 2 rfl dX9_keep_50 ?_
      obtain ⟨hg_13, h⟩ := q_g h
      refine h_iald 7 rfl hg_13 dX9_keep_51 ?_
      obtain ⟨hg_14, h⟩ := q_g h
      obtain ⟨ν_15, e_16, h⟩ := q_l h
      refine h_iast 96 hy1 hg_14 e_16 dX9_keep_52 ?_
      refine go_aload_n rfl 1 rfl dX9_keep_53 ?_
      refine go_bipush kz_bipush_28 dX9_keep_54 ?_
      refine go_iload_n rfl 2 rfl dX9_keep_56 ?_
      refine go_iadd dX9_keep_57 ?_
      refine go_aload_n rfl 0 rfl dX9_keep_58 ?_
      refine h_getr 5 cl7 rfl (by decide) tw_917 58 rfl dX9_keep_59 ?_
      refine go_iload_n rfl 2 rfl dX9_keep_62 ?_
      obtain ⟨hg_17, h⟩ := q_g h
      refine h_iald 7 rfl hg_17 dX9_keep_63 ?_
      obtain ⟨hg_18, h⟩ := q_g h
      obtain ⟨ν_19, e_20, h⟩ := q_l h
      refine h_iast 96 hy1 hg_18 e_20 dX9_keep_64 ?_
      refine go_aload_n rfl 1 rfl dX9_keep_65 ?_
      refine go_bipush kz_bipush_35 dX9_keep_66 ?_
      refine go_iload_n rfl 2 rfl dX9_keep_68 ?_
      refine go_iadd dX9_keep_69 ?_
      refine go_aload_n rfl 0 rfl dX9_keep_70 ?_
      refine h_getr 6 cl7 rfl (by decide) tw_918 59 rfl dX9_keep_71 ?_
      refine go_iload_n rfl 2 rfl dX9_keep_74 ?_
      obtain ⟨hg_21, h⟩ := q_g h
      refine h_iald 7 rfl hg_21 dX9_keep_75 ?_
      obtain ⟨hg_22, h⟩ := q_g h
      obtain ⟨ν_23, e_24, h⟩ := q_l h
      refine h_iast 96 hy1 hg_22 e_24 dX9_keep_76 ?_
      refine h_iinc (l' := [(2, .int (y2 + 1)), (0, .ref (ad 53)), (1, .ref (ad y1))]) dX9_keep_77 2 rfl kz_iconst_1 (by decide) rfl ?_
      refine go_goto (tgt := 2) dX9_keep_80 rfl ?_
      refine go_sub (l' := [(0, .ref (ad 53)), (1, .ref (ad y1)), (2, .int (y2 + 1))]) [1, 2, 0] rfl ?_
      exact ih _ _ _ h hk83
set_option maxRecDepth 20000 in
set_option maxHeartbeats 2000000 in
theorem m_X9_keep_L85 {X : gX} {ad : Nat → Nat} {y1 : Nat} {k117 : gN → Option (gN)} (hy1 : SH[y1]? = some (0, 96)) : ∀ (n : Nat) (y2 : Int32) (ν : gN) (r : gN), f_X9_keep_L85 y1 k117 n y2 ν = some r → (∀ (ν1 : gN), k117 ν1 = some r → h_go X ad RX9 "keep" cX9_keep 3 (none) 1 (none, r) 117 [(0, .ref (ad 53)), (1, .ref (ad y1))] [] ν1) → h_go X ad RX9 "keep" cX9_keep 3 (none) 1 (none, r) 85 [(0, .ref (ad 53)), (1, .ref (ad y1)), (2, .int y2)] [] ν := by
  intro n
  induction n with
  | zero => intro y2 ν r h hk117; rw [f_X9_keep_L85] at h; exact q_n h
  | succ n ih =>
    intro y2 ν r h hk117
    rw [f_X9_keep_L85] at h
    refine go_iload_n rfl 2 rfl dX9_keep_85 ?_
    refine go_bipush kz_bipush_49 dX9_keep_86 ?_
    refine go_icmp_ge (tgt := 117) dX9_keep_88 rfl (fun hc => ?_) (fun hc => ?_)
    · replace h := q_t h hc
      refine go_sub (l' := [(0, .ref (ad 53)), (1, .ref (ad y1))]) [0, 1] rfl ?_
      exact hk117  _ h
    · replace h := q_f h hc
      refine go_aload_n rfl 1 rfl dX9_keep_91 ?_
      refine go_bipush kz_bipush_42 dX9_keep_92 ?_
      refine go_iload_n rfl 2 rfl dX9_keep_94 ?_
      refine go_iadd dX9_keep_95 ?_
      refine go_aload_n rfl 0 rfl dX9_keep_96 ?_
      refine h_getr 7 cl7 rfl (by decide) tw_919 60 rfl dX9_keep_97 ?_
      refine go_iload_n rfl 2 rfl dX9_keep_100 ?_
      obtain ⟨hg_26, h⟩ := q_g h
      refine h_zald 49 rfl hg_26 dX9_keep_101 ?_
      refine go_if_eq (tgt := 109) dX9_keep_102 rfl (fun hc => ?_) (fun hc => ?_)
      · replace h := q_t h hc
        refine go_iconst kz_iconst_0 dX9_keep_109 ?_
        obtain ⟨hg_27, h⟩ := q_g h
        obtain ⟨ν_28, e_29, h⟩ := q_l h
        refine h_iast 96 hy1 hg_27 e_29 dX9_keep_110 ?_
        refine h_iinc (l' := [(2, .int (y2 + 1)), (0, .ref (ad 53)), (1, .ref (ad y1))]) dX9_keep_111 2 rfl kz_iconst_1 (by decide) rfl ?_
        refine go_goto (tgt := 85) dX9_keep_114 rfl ?_
        refine go_sub (l' := [(0, .ref (ad 53)), (1, .ref (ad y1)), (2, .int (y2 + 1))]) [1, 2, 0] rfl ?_
        exact ih _ _ _ h hk117
      · replace h := q_f h hc
        refine go_iconst kz_iconst_1 dX9_keep_105 ?_
        refine go_goto (tgt := 110) dX9_keep_106 rfl ?_
        obtain ⟨hg_30, h⟩ := q_g h
        obtain ⟨ν_31, e_32, h⟩ := q_l h
        refine h_iast 96 hy1 hg_30 e_32 dX9_keep_110 ?_
        refine h_iinc (l' := [(2, .int (y2 + 1)), (0, .ref (ad 53)), (1, .ref (ad y1))]) dX9_keep_111 2 rfl kz_iconst_1 (by decide) rfl ?_
        refine go_goto (tgt := 85) dX9_keep_114 rfl ?_
        refine go_sub (l' := [(0, .ref (ad 53)), (1, .ref (ad y1)), (2, .int (y2 + 1))]) [1, 2, 0] rfl ?_
        exact ih _ _ _ h hk117
set_option maxRecDepth 20000 in
set_option maxHeartbeats 2000000 in
theorem m_X9_keep_L119 {X : gX} {ad : Nat → Nat} {y1 : Nat} {k142 : gN → Option (gN)} (hy1 : SH[y1]? = some (0, 96)) : ∀ (n : Nat) (y2 : Int32) (ν : gN) (r : gN), f_X9_keep_L119 y1 k142 n y2 ν = some r → (∀ (ν1 : gN), k142 ν1 = some r → h_go X ad RX9 "keep" cX9_keep 3 (none) 1 (none, r) 142 [(0, .ref (ad 53)), (1, .ref (ad y1))] [] ν1) → h_go X ad RX9 "keep" cX9_keep 3 (none) 1 (none, r) 119 [(0, .ref (ad 53)), (1, .ref (ad y1)), (2, .int y2)] [] ν := by
  intro n
  induction n with
  | zero => intro y2 ν r h hk142; rw [f_X9_keep_L119] at h; exact q_n h
  | succ n ih =>
    intro y2 ν r h hk142
    rw [f_X9_keep_L119] at h
    refine go_iload_n rfl 2 rfl dX9_keep_119 ?_
    refine go_iconst kz_iconst_4 dX9_keep_120 ?_
    refine go_icmp_ge (tgt := 142) dX9_keep_121 rfl (fun hc => ?_) (fun hc => ?_)
    · replace h := q_t h hc
      refine go_sub (l' := [(0, .ref (ad 53)), (1, .ref (ad y1))]) [0, 1] rfl ?_
      exact hk142  _ h
    · replace h := q_f h hc
      refine go_aload_n rfl 1 rfl dX9_keep_124 ?_
      refine go_bipush kz_bipush_91 dX9_keep_125 ?_
      refine go_iload_n rfl 2 rfl dX9_keep_127 ?_
      refine go_iadd dX9_keep_128 ?_
      refine go_aload_n rfl 0 rfl dX9_keep_129 ?_
      refine h_getr 8 cl7 rfl (by decide) tw_920 61 rfl dX9_keep_130 ?_
      refine go_iload_n rfl 2 rfl dX9_keep_133 ?_
      obtain ⟨hg_34, h⟩ := q_g h
      refine h_iald 4 rfl hg_34 dX9_keep_134 ?_
      obtain ⟨hg_35, h⟩ := q_g h
      obtain ⟨ν_36, e_37, h⟩ := q_l h
      refine h_iast 96 hy1 hg_35 e_37 dX9_keep_135 ?_
      refine h_iinc (l' := [(2, .int (y2 + 1)), (0, .ref (ad 53)), (1, .ref (ad y1))]) dX9_keep_136 2 rfl kz_iconst_1 (by decide) rfl ?_
      refine go_goto (tgt := 119) dX9_keep_139 rfl ?_
      refine go_sub (l' := [(0, .ref (ad 53)), (1, .ref (ad y1)), (2, .int (y2 + 1))]) [1, 2, 0] rfl ?_
      exact ih _ _ _ h hk142
set_option maxRecDepth 20000 in
set_option maxHeartbeats 2000000 in
theorem m_X9_keep {X : gX} {ad : Nat → Nat} {a1 : Nat} {ν : gN} {r : gN} (ha1 : SH[a1]? = some (0, 96)) (h : f_X9_keep a1 ν = some r) : h_ct X ad yX9_keep cX9_keep 3 (none) 1 [.ref (ad 53), .ref (ad a1)] ν (none, r) := by
  rw [f_X9_keep] at h
  refine h_ct_of (l := [(0, .ref (ad 53)), (1, .ref (ad a1))]) (by decide) (Nat.le_of_ble_eq_true rfl) rfl ?_
  refine go_iconst kz_iconst_0 dX9_keep_0 ?_
  refine go_istore_n (l' := [(2, .int 0), (0, .ref (ad 53)), (1, .ref (ad a1))]) dX9_keep_1 rfl (by decide) rfl ?_
  refine go_sub (l' := [(0, .ref (ad 53)), (1, .ref (ad a1)), (2, .int 0)]) [1, 2, 0] rfl ?_
  refine m_X9_keep_L2 ha1 FU _ _ _ h (fun ν_25 h => ?_)
  refine go_iconst kz_iconst_0 dX9_keep_83 ?_
  refine go_istore_n (l' := [(2, .int 0), (0, .ref (ad 53)), (1, .ref (ad a1))]) dX9_keep_84 rfl (by decide) rfl ?_
  refine go_sub (l' := [(0, .ref (ad 53)), (1, .ref (ad a1)), (2, .int 0)]) [1, 2, 0] rfl ?_
  refine m_X9_keep_L85 ha1 FU _ _ _ h (fun ν_33 h => ?_)
  refine go_iconst kz_iconst_0 dX9_keep_117 ?_
  refine go_istore_n (l' := [(2, .int 0), (0, .ref (ad 53)), (1, .ref (ad a1))]) dX9_keep_118 rfl (by decide) rfl ?_
  refine go_sub (l' := [(0, .ref (ad 53)), (1, .ref (ad a1)), (2, .int 0)]) [1, 2, 0] rfl ?_
  refine m_X9_keep_L119 ha1 FU _ _ _ h (fun ν_38 h => ?_)
  refine go_aload_n rfl 1 rfl dX9_keep_142 ?_
  refine go_bipush kz_bipush_95 dX9_keep_143 ?_
  refine go_aload_n rfl 0 rfl dX9_keep_145 ?_
  refine h_geti 0 cl7 rfl (by decide) tw_912 rfl dX9_keep_146 ?_
  obtain ⟨hg_39, h⟩ := q_g h
  obtain ⟨ν_40, e_41, h⟩ := q_l h
  refine h_iast 96 ha1 hg_39 e_41 dX9_keep_149 ?_
  exact h_vret h dX9_keep_150 rfl
noncomputable def f_X9_chosenBehind (x1 : Int32) (ν : gN) : Option (Int32 × gN) :=
  (f_X9_keep 72 ν).bind (fun r_1 =>
    (f_X9_goesOn x1 r_1).bind (fun r_3 =>
      (f_X9_chosenNow  r_3).bind (fun r_5 =>
        (f_X9_again 72 r_5.2).bind (fun r_7 =>
          some (r_5.1, r_7)))))
theorem me_X9_chosenBehind : g_me yX9_chosenBehind cX9_chosenBehind 3 ((Option.some .int)) 1 := ⟨tw_1230, tw_79, ⟨by decide +kernel, by decide +kernel, by decide +kernel⟩, by decide⟩
set_option maxRecDepth 20000 in
set_option maxHeartbeats 2000000 in
theorem m_X9_chosenBehind {X : gX} {ad : Nat → Nat} {x1 : Int32} {ν : gN} {r : Int32 × gN}  (h : f_X9_chosenBehind x1 ν = some r) : h_ct X ad yX9_chosenBehind cX9_chosenBehind 3 ((Option.some .int)) 10 [.ref (ad 53), .int x1] ν (some (.int r.1), r.2) := by
  rw [f_X9_chosenBehind] at h
  refine h_ct_of (l := [(0, .ref (ad 53)), (1, .int x1)]) (by decide) (Nat.le_of_ble_eq_true rfl) rfl ?_
  refine go_aload_n rfl 0 rfl dX9_chosenBehind_0 ?_
  refine go_aload_n rfl 0 rfl dX9_chosenBehind_1 ?_
  refine h_getr 27 cl7 rfl (by decide) tw_939 72 rfl dX9_chosenBehind_2 ?_
  obtain ⟨r_1, h_2, h⟩ := q_b h
  refine h_callVv (st := []) [.ref (ad 72)] (m_X9_keep rfl h_2) me_X9_keep (g_recv cl7.1 rfl) tw_1117 tw_1119 tw_35 (hdd_of (by decide)) ⟨Nat.zero_le _, Nat.zero_le _⟩ rfl rfl (Nat.le_of_ble_eq_true rfl) dX9_chosenBehind_5 ?_
  refine go_aload_n rfl 0 rfl dX9_chosenBehind_8 ?_
  refine go_iload_n rfl 1 rfl dX9_chosenBehind_9 ?_
  obtain ⟨r_3, h_4, h⟩ := q_b h
  refine h_callVv (st := []) [.int x1] (m_X9_goesOn h_4) me_X9_goesOn (g_recv cl7.1 rfl) tw_1207 tw_1209 tw_51 (hdd_of (by decide)) ⟨Nat.zero_le _, Nat.zero_le _⟩ rfl rfl (Nat.le_of_ble_eq_true rfl) dX9_chosenBehind_10 ?_
  refine go_aload_n rfl 0 rfl dX9_chosenBehind_13 ?_
  obtain ⟨r_5, h_6, h⟩ := q_b h
  refine h_callVi (st := []) [] (m_X9_chosenNow h_6) me_X9_chosenNow (g_recv cl7.1 rfl) tw_1184 tw_1186 tw_47 (hdd_of (by decide)) ⟨Nat.zero_le _, Nat.zero_le _⟩ rfl rfl (Nat.le_of_ble_eq_true rfl) dX9_chosenBehind_14 ?_
  refine go_istore_n (l' := [(2, .int r_5.1), (0, .ref (ad 53)), (1, .int x1)]) dX9_chosenBehind_17 rfl (by decide) rfl ?_
  refine go_aload_n rfl 1 rfl dX9_chosenBehind_18 ?_
  refine go_aload_n rfl 1 rfl dX9_chosenBehind_19 ?_
  refine h_getr 27 cl7 rfl (by decide) tw_939 72 rfl dX9_chosenBehind_20 ?_
  obtain ⟨r_7, h_8, h⟩ := q_b h
  refine h_callVv (st := []) [.ref (ad 72)] (m_X9_again rfl h_8) me_X9_again (g_recv cl7.1 rfl) tw_1156 tw_1158 tw_43 (hdd_of (by decide)) ⟨Nat.zero_le _, Nat.zero_le _⟩ rfl rfl (Nat.le_of_ble_eq_true rfl) dX9_chosenBehind_23 ?_
  refine go_iload_n rfl 0 rfl dX9_chosenBehind_26 ?_
  exact h_iret h dX9_chosenBehind_27 rfl
noncomputable def f_X9_isTime (x0 : Int32) (ν : gN) : Option (Int32 × gN) :=
  (f_X9_within x0 0 30 ν).bind (fun r_1 =>
    if zb r_1.1 = true then
      some (r_1.1, r_1.2)
    else none)
theorem me_X9_isTime : g_me yX9_isTime cX9_isTime 1 ((Option.some .boolean)) 1 := ⟨tw_1206, tw_79, ⟨by decide +kernel, by decide +kernel, by decide +kernel⟩, by decide⟩
set_option maxRecDepth 20000 in
set_option maxHeartbeats 2000000 in
theorem m_X9_isTime {X : gX} {ad : Nat → Nat} {x0 : Int32} {ν : gN} {r : Int32 × gN}  (h : f_X9_isTime x0 ν = some r) : h_ct X ad yX9_isTime cX9_isTime 1 ((Option.some .boolean)) 2 [.int x0] ν (some (.int r.1), r.2) := by
  rw [f_X9_isTime] at h
  refine h_ct_of (l := [(0, .int x0)]) (by decide) (Nat.le_of_ble_eq_true rfl) rfl ?_
  refine go_iload_n rfl 0 rfl dX9_isTime_0 ?_
  refine go_iconst kz_iconst_0 dX9_isTime_1 ?_
  refine go_bipush kz_bipush_30 dX9_isTime_2 ?_
  obtain ⟨r_1, h_2, h⟩ := q_b h
  refine h_callSi (st := []) [.int x0, .int 0, .int 30] (m_X9_within h_2) me_X9_within tw_1005 tw_1006 (hdd_of (by decide)) ⟨Nat.zero_le _, Nat.zero_le _⟩ rfl rfl (Nat.le_of_ble_eq_true rfl) dX9_isTime_4 ?_
  obtain ⟨hg_3, h⟩ := q_g h
  exact h_zret hg_3 h dX9_isTime_7 rfl
noncomputable def f_X9_chosen (x1 : Int32) (ν : gN) : Option (Int32 × gN) :=
  (f_X9_isTime x1 ν).bind (fun r_1 =>
    if r_1.1 = 0 then
      (f_X9_no (-6) r_1.2).bind (fun r_3 =>
        some (r_3.1, r_3.2))
    else
      (f_X9_chosenBehind x1 r_1.2).bind (fun r_5 =>
        some (r_5.1, r_5.2)))
theorem me_X9_chosen : g_me yX9_chosen cX9_chosen 2 ((Option.some .int)) 1 := ⟨tw_1226, tw_79, ⟨by decide +kernel, by decide +kernel, by decide +kernel⟩, by decide⟩
set_option maxRecDepth 20000 in
set_option maxHeartbeats 2000000 in
theorem m_X9_chosen {X : gX} {ad : Nat → Nat} {x1 : Int32} {ν : gN} {r : Int32 × gN}  (h : f_X9_chosen x1 ν = some r) : h_ct X ad yX9_chosen cX9_chosen 2 ((Option.some .int)) 11 [.ref (ad 53), .int x1] ν (some (.int r.1), r.2) := by
  rw [f_X9_chosen] at h
  refine h_ct_of (l := [(0, .ref (ad 53)), (1, .int x1)]) (by decide) (Nat.le_of_ble_eq_true rfl) rfl ?_
  refine go_iload_n rfl 1 rfl dX9_chosen_0 ?_
  obtain ⟨r_1, h_2, h⟩ := q_b h
  refine h_callSi (st := []) [.int x1] (m_X9_isTime h_2) me_X9_isTime tw_1204 tw_1205 (hdd_of (by decide)) ⟨Nat.zero_le _, Nat.zero_le _⟩ rfl rfl (Nat.le_of_ble_eq_true rfl) dX9_chosen_1 ?_
  refine go_if_eq (tgt := 15) dX9_chosen_4 rfl (fun hc => ?_) (fun hc => ?_)
  · replace h := q_t h hc
    refine go_aload_n rfl 0 rfl dX9_chosen_15 ?_
    refine go_bipush kz_bipush_m6 dX9_chosen_16 ?_
    obtain ⟨r_3, h_4, h⟩ := q_b h
    refine h_callVi (st := []) [.int (-6)] (m_X9_no h_4) me_X9_no (g_recv cl7.1 rfl) tw_1008 tw_1010 tw_23 (hdd_of (by decide)) ⟨Nat.zero_le _, Nat.zero_le _⟩ rfl rfl (Nat.le_of_ble_eq_true rfl) dX9_chosen_18 ?_
    exact h_iret h dX9_chosen_21 rfl
  · replace h := q_f h hc
    refine go_aload_n rfl 0 rfl dX9_chosen_7 ?_
    refine go_iload_n rfl 1 rfl dX9_chosen_8 ?_
    obtain ⟨r_5, h_6, h⟩ := q_b h
    refine h_callVi (st := []) [.int x1] (m_X9_chosenBehind h_6) me_X9_chosenBehind (g_recv cl7.1 rfl) tw_1227 tw_1229 tw_55 (hdd_of (by decide)) ⟨Nat.zero_le _, Nat.zero_le _⟩ rfl rfl (Nat.le_of_ble_eq_true rfl) dX9_chosen_9 ?_
    refine go_goto (tgt := 21) dX9_chosen_12 rfl ?_
    exact h_iret h dX9_chosen_21 rfl
noncomputable def f_X9_isRow (x1 : Int32) (ν : gN) : Option (Int32 × gN) :=
  if inb x1 8 = true then
    if (ν.1 62 x1.toNatClampNeg) < 100 then
      some (0, ν)
    else
      some (1, ν)
  else none
theorem me_X9_isRow : g_me yX9_isRow cX9_isRow 2 ((Option.some .boolean)) 1 := ⟨tw_1023, tw_79, ⟨by decide +kernel, by decide +kernel, by decide +kernel⟩, by decide⟩
set_option maxRecDepth 20000 in
set_option maxHeartbeats 2000000 in
theorem m_X9_isRow {X : gX} {ad : Nat → Nat} {x1 : Int32} {ν : gN} {r : Int32 × gN}  (h : f_X9_isRow x1 ν = some r) : h_ct X ad yX9_isRow cX9_isRow 2 ((Option.some .boolean)) 1 [.ref (ad 53), .int x1] ν (some (.int r.1), r.2) := by
  rw [f_X9_isRow] at h
  refine h_ct_of (l := [(0, .ref (ad 53)), (1, .int x1)]) (by decide) (Nat.le_of_ble_eq_true rfl) rfl ?_
  refine go_aload_n rfl 0 rfl dX9_isRow_0 ?_
  refine h_getr 10 cl7 rfl (by decide) tw_922 62 rfl dX9_isRow_1 ?_
  refine go_iload_n rfl 1 rfl dX9_isRow_4 ?_
  obtain ⟨hg_1, h⟩ := q_g h
  refine h_iald 8 rfl hg_1 dX9_isRow_5 ?_
  refine go_bipush kz_bipush_100 dX9_isRow_6 ?_
  refine go_icmp_lt (tgt := 15) dX9_isRow_8 rfl (fun hc => ?_) (fun hc => ?_)
  · replace h := q_t h hc
    refine go_iconst kz_iconst_0 dX9_isRow_15 ?_
    exact h_zret rfl h dX9_isRow_16 rfl
  · replace h := q_f h hc
    refine go_iconst kz_iconst_1 dX9_isRow_11 ?_
    refine go_goto (tgt := 16) dX9_isRow_12 rfl ?_
    exact h_zret rfl h dX9_isRow_16 rfl
noncomputable def f_X9_copy_L251 (y1 : Int32) (y2 : Int32) (y3 : Int32) (y4 : Int32) (y5 : Int32) (k295 : gN → Option (Int32 × gN)) : Nat → Int32 → gN → Option (Int32 × gN)
  | 0, _, _ => none
  | n + 1, y6, ν =>
    if y5 ≤ y6 then
      k295  ν
    else
      if inb (((160 * y1) + y3) + y6) 1280 = true then
        if inb (((160 * y2) + y4) + y6) 1280 = true then
          qL (nWL ν 64 (((160 * y2) + y4) + y6).toNatClampNeg (ν.2 64 (((160 * y1) + y3) + y6).toNatClampNeg)) (fun ν_25 =>
            f_X9_copy_L251 y1 y2 y3 y4 y5 k295 n (y6 + 1) ν_25)
        else none
      else none
noncomputable def f_X9_copy_L203 (y1 : Int32) (y2 : Int32) (y3 : Int32) (y4 : Int32) (k245 : gN → Option (Int32 × gN)) : Nat → Int32 → gN → Option (Int32 × gN)
  | 0, _, _ => none
  | n + 1, y6, ν =>
    if y6 < 0 then
      k245  ν
    else
      if inb (((160 * y1) + y3) + y6) 1280 = true then
        if inb (((160 * y2) + y4) + y6) 1280 = true then
          qL (nWL ν 64 (((160 * y2) + y4) + y6).toNatClampNeg (ν.2 64 (((160 * y1) + y3) + y6).toNatClampNeg)) (fun ν_31 =>
            f_X9_copy_L203 y1 y2 y3 y4 k245 n (y6 + (-1)) ν_31)
        else none
      else none
noncomputable def f_X9_copy (x1 : Int32) (x2 : Int32) (x3 : Int32) (x4 : Int32) (x5 : Int32) (ν : gN) : Option (Int32 × gN) :=
  (f_X9_within x1 0 7 ν).bind (fun r_1 =>
    if r_1.1 = 0 then
      (f_X9_no (-1) r_1.2).bind (fun r_3 =>
        some (r_3.1, r_3.2))
    else
      (f_X9_within x2 0 7 r_1.2).bind (fun r_5 =>
        if r_5.1 = 0 then
          (f_X9_no (-1) r_5.2).bind (fun r_314 =>
            some (r_314.1, r_314.2))
        else
          if inb x1 8 = true then
            if (r_5.2.1 62 x1.toNatClampNeg) < 0 then
              if inb x2 8 = true then
                if (r_5.2.1 62 x2.toNatClampNeg) < 0 then
                  (f_X9_isRow x1 r_5.2).bind (fun r_9 =>
                    if r_9.1 = 0 then
                      if inb x1 8 = true then
                        if (r_9.2.1 62 x1.toNatClampNeg) < 0 then
                          (f_X9_no (-3) r_9.2).bind (fun r_12 =>
                            some (r_12.1, r_12.2))
                        else
                          if inb x2 8 = true then
                            if 0 ≤ (r_9.2.1 62 x2.toNatClampNeg) then
                              if 0 ≤ x5 then
                                if x3 < 0 then
                                  (f_X9_no (-5) r_9.2).bind (fun r_15 =>
                                    some (r_15.1, r_15.2))
                                else
                                  if x4 < 0 then
                                    (f_X9_no (-5) r_9.2).bind (fun r_17 =>
                                      some (r_17.1, r_17.2))
                                  else
                                    if inb x1 8 = true then
                                      if 0 < (lg_cmp (x3.toInt64 + x5.toInt64) ((r_9.2.1 63 x1.toNatClampNeg).toInt64)) then
                                        (f_X9_no (-5) r_9.2).bind (fun r_20 =>
                                          some (r_20.1, r_20.2))
                                      else
                                        if inb x2 8 = true then
                                          if (lg_cmp (x4.toInt64 + x5.toInt64) ((r_9.2.1 63 x2.toNatClampNeg).toInt64)) ≤ 0 then
                                            if x1 = x2 then
                                              if x4 ≤ x3 then
                                                f_X9_copy_L251 x1 x2 x3 x4 x5 (fun ν_28 =>
                                                  some (1, ν_28)) FU 0 r_9.2
                                              else
                                                f_X9_copy_L203 x1 x2 x3 x4 (fun ν_33 =>
                                                  some (1, ν_33)) FU (x5 - 1) r_9.2
                                            else
                                              f_X9_copy_L251 x1 x2 x3 x4 x5 (fun ν_27 =>
                                                some (1, ν_27)) FU 0 r_9.2
                                          else
                                            (f_X9_no (-5) r_9.2).bind (fun r_34 =>
                                              some (r_34.1, r_34.2))
                                        else none
                                    else none
                              else
                                (f_X9_no (-4) r_9.2).bind (fun r_36 =>
                                  some (r_36.1, r_36.2))
                            else
                              (f_X9_no (-3) r_9.2).bind (fun r_38 =>
                                some (r_38.1, r_38.2))
                          else none
                      else none
                    else
                      (f_X9_isRow x2 r_9.2).bind (fun r_40 =>
                        if r_40.1 = 0 then
                          if inb x1 8 = true then
                            if (r_40.2.1 62 x1.toNatClampNeg) < 0 then
                              (f_X9_no (-3) r_40.2).bind (fun r_43 =>
                                some (r_43.1, r_43.2))
                            else
                              if inb x2 8 = true then
                                if 0 ≤ (r_40.2.1 62 x2.toNatClampNeg) then
                                  if 0 ≤ x5 then
                                    if x3 < 0 then
                                      (f_X9_no (-5) r_40.2).bind (fun r_46 =>
                                        some (r_46.1, r_46.2))
                                    else
                                      if x4 < 0 then
                                        (f_X9_no (-5) r_40.2).bind (fun r_48 =>
                                          some (r_48.1, r_48.2))
                                      else
                                        if inb x1 8 = true then
                                          if 0 < (lg_cmp (x3.toInt64 + x5.toInt64) ((r_40.2.1 63 x1.toNatClampNeg).toInt64)) then
                                            (f_X9_no (-5) r_40.2).bind (fun r_51 =>
                                              some (r_51.1, r_51.2))
                                          else
                                            if inb x2 8 = true then
                                              if (lg_cmp (x4.toInt64 + x5.toInt64) ((r_40.2.1 63 x2.toNatClampNeg).toInt64)) ≤ 0 then
                                                if x1 = x2 then
                                                  if x4 ≤ x3 then
                                                    f_X9_copy_L251 x1 x2 x3 x4 x5 (fun ν_55 =>
                                                      some (1, ν_55)) FU 0 r_40.2
                                                  else
                                                    f_X9_copy_L203 x1 x2 x3 x4 (fun ν_56 =>
                                                      some (1, ν_56)) FU (x5 - 1) r_40.2
                                                else
                                                  f_X9_copy_L251 x1 x2 x3 x4 x5 (fun ν_54 =>
                                                    some (1, ν_54)) FU 0 r_40.2
                                              else
                                                (f_X9_no (-5) r_40.2).bind (fun r_57 =>
                                                  some (r_57.1, r_57.2))
                                            else none
                                        else none
                                  else
                                    (f_X9_no (-4) r_40.2).bind (fun r_59 =>
                                      some (r_59.1, r_59.2))
                                else
                                  (f_X9_no (-3) r_40.2).bind (fun r_61 =>
                                    some (r_61.1, r_61.2))
                              else none
                          else none
                        else
                          if inb x1 8 = true then
                            if inb x2 8 = true then
                              if (r_40.2.1 62 x1.toNatClampNeg) = (r_40.2.1 62 x2.toNatClampNeg) then
                                if inb x1 8 = true then
                                  if (r_40.2.1 62 x1.toNatClampNeg) < 0 then
                                    (f_X9_no (-3) r_40.2).bind (fun r_66 =>
                                      some (r_66.1, r_66.2))
                                  else
                                    if inb x2 8 = true then
                                      if 0 ≤ (r_40.2.1 62 x2.toNatClampNeg) then
                                        if 0 ≤ x5 then
                                          if x3 < 0 then
                                            (f_X9_no (-5) r_40.2).bind (fun r_69 =>
                                              some (r_69.1, r_69.2))
                                          else
                                            if x4 < 0 then
                                              (f_X9_no (-5) r_40.2).bind (fun r_71 =>
                                                some (r_71.1, r_71.2))
                                            else
                                              if inb x1 8 = true then
                                                if 0 < (lg_cmp (x3.toInt64 + x5.toInt64) ((r_40.2.1 63 x1.toNatClampNeg).toInt64)) then
                                                  (f_X9_no (-5) r_40.2).bind (fun r_74 =>
                                                    some (r_74.1, r_74.2))
                                                else
                                                  if inb x2 8 = true then
                                                    if (lg_cmp (x4.toInt64 + x5.toInt64) ((r_40.2.1 63 x2.toNatClampNeg).toInt64)) ≤ 0 then
                                                      if x1 = x2 then
                                                        if x4 ≤ x3 then
                                                          f_X9_copy_L251 x1 x2 x3 x4 x5 (fun ν_78 =>
                                                            some (1, ν_78)) FU 0 r_40.2
                                                        else
                                                          f_X9_copy_L203 x1 x2 x3 x4 (fun ν_79 =>
                                                            some (1, ν_79)) FU (x5 - 1) r_40.2
                                                      else
                                                        f_X9_copy_L251 x1 x2 x3 x4 x5 (fun ν_77 =>
                                                          some (1, ν_77)) FU 0 r_40.2
                                                    else
                                                      (f_X9_no (-5) r_40.2).bind (fun r_80 =>
                                                        some (r_80.1, r_80.2))
                                                  else none
                                              else none
                                        else
                                          (f_X9_no (-4) r_40.2).bind (fun r_82 =>
                                            some (r_82.1, r_82.2))
                                      else
                                        (f_X9_no (-3) r_40.2).bind (fun r_84 =>
                                          some (r_84.1, r_84.2))
                                    else none
                                else none
                              else
                                (f_X9_no (-2) r_40.2).bind (fun r_86 =>
                                  some (r_86.1, r_86.2))
                            else none
                          else none))
                else
                  (f_X9_isRow x2 r_5.2).bind (fun r_88 =>
                    if r_88.1 = 0 then
                      (f_X9_no (-2) r_88.2).bind (fun r_90 =>
                        some (r_90.1, r_90.2))
                    else
                      (f_X9_isRow x1 r_88.2).bind (fun r_92 =>
                        if r_92.1 = 0 then
                          if inb x1 8 = true then
                            if (r_92.2.1 62 x1.toNatClampNeg) < 0 then
                              (f_X9_no (-3) r_92.2).bind (fun r_95 =>
                                some (r_95.1, r_95.2))
                            else
                              if inb x2 8 = true then
                                if 0 ≤ (r_92.2.1 62 x2.toNatClampNeg) then
                                  if 0 ≤ x5 then
                                    if x3 < 0 then
                                      (f_X9_no (-5) r_92.2).bind (fun r_98 =>
                                        some (r_98.1, r_98.2))
                                    else
                                      if x4 < 0 then
                                        (f_X9_no (-5) r_92.2).bind (fun r_100 =>
                                          some (r_100.1, r_100.2))
                                      else
                                        if inb x1 8 = true then
                                          if 0 < (lg_cmp (x3.toInt64 + x5.toInt64) ((r_92.2.1 63 x1.toNatClampNeg).toInt64)) then
                                            (f_X9_no (-5) r_92.2).bind (fun r_103 =>
                                              some (r_103.1, r_103.2))
                                          else
                                            if inb x2 8 = true then
                                              if (lg_cmp (x4.toInt64 + x5.toInt64) ((r_92.2.1 63 x2.toNatClampNeg).toInt64)) ≤ 0 then
                                                if x1 = x2 then
                                                  if x4 ≤ x3 then
                                                    f_X9_copy_L251 x1 x2 x3 x4 x5 (fun ν_107 =>
                                                      some (1, ν_107)) FU 0 r_92.2
                                                  else
                                                    f_X9_copy_L203 x1 x2 x3 x4 (fun ν_108 =>
                                                      some (1, ν_108)) FU (x5 - 1) r_92.2
                                                else
                                                  f_X9_copy_L251 x1 x2 x3 x4 x5 (fun ν_106 =>
                                                    some (1, ν_106)) FU 0 r_92.2
                                              else
                                                (f_X9_no (-5) r_92.2).bind (fun r_109 =>
                                                  some (r_109.1, r_109.2))
                                            else none
                                        else none
                                  else
                                    (f_X9_no (-4) r_92.2).bind (fun r_111 =>
                                      some (r_111.1, r_111.2))
                                else
                                  (f_X9_no (-3) r_92.2).bind (fun r_113 =>
                                    some (r_113.1, r_113.2))
                              else none
                          else none
                        else
                          (f_X9_isRow x2 r_92.2).bind (fun r_115 =>
                            if r_115.1 = 0 then
                              if inb x1 8 = true then
                                if (r_115.2.1 62 x1.toNatClampNeg) < 0 then
                                  (f_X9_no (-3) r_115.2).bind (fun r_118 =>
                                    some (r_118.1, r_118.2))
                                else
                                  if inb x2 8 = true then
                                    if 0 ≤ (r_115.2.1 62 x2.toNatClampNeg) then
                                      if 0 ≤ x5 then
                                        if x3 < 0 then
                                          (f_X9_no (-5) r_115.2).bind (fun r_121 =>
                                            some (r_121.1, r_121.2))
                                        else
                                          if x4 < 0 then
                                            (f_X9_no (-5) r_115.2).bind (fun r_123 =>
                                              some (r_123.1, r_123.2))
                                          else
                                            if inb x1 8 = true then
                                              if 0 < (lg_cmp (x3.toInt64 + x5.toInt64) ((r_115.2.1 63 x1.toNatClampNeg).toInt64)) then
                                                (f_X9_no (-5) r_115.2).bind (fun r_126 =>
                                                  some (r_126.1, r_126.2))
                                              else
                                                if inb x2 8 = true then
                                                  if (lg_cmp (x4.toInt64 + x5.toInt64) ((r_115.2.1 63 x2.toNatClampNeg).toInt64)) ≤ 0 then
                                                    if x1 = x2 then
                                                      if x4 ≤ x3 then
                                                        f_X9_copy_L251 x1 x2 x3 x4 x5 (fun ν_130 =>
                                                          some (1, ν_130)) FU 0 r_115.2
                                                      else
                                                        f_X9_copy_L203 x1 x2 x3 x4 (fun ν_131 =>
                                                          some (1, ν_131)) FU (x5 - 1) r_115.2
                                                    else
                                                      f_X9_copy_L251 x1 x2 x3 x4 x5 (fun ν_129 =>
                                                        some (1, ν_129)) FU 0 r_115.2
                                                  else
                                                    (f_X9_no (-5) r_115.2).bind (fun r_132 =>
                                                      some (r_132.1, r_132.2))
                                                else none
                                            else none
                                      else
                                        (f_X9_no (-4) r_115.2).bind (fun r_134 =>
                                          some (r_134.1, r_134.2))
                                    else
                                      (f_X9_no (-3) r_115.2).bind (fun r_136 =>
                                        some (r_136.1, r_136.2))
                                  else none
                              else none
                            else
                              if inb x1 8 = true then
                                if inb x2 8 = true then
                                  if (r_115.2.1 62 x1.toNatClampNeg) = (r_115.2.1 62 x2.toNatClampNeg) then
                                    if inb x1 8 = true then
                                      if (r_115.2.1 62 x1.toNatClampNeg) < 0 then
                                        (f_X9_no (-3) r_115.2).bind (fun r_141 =>
                                          some (r_141.1, r_141.2))
                                      else
                                        if inb x2 8 = true then
                                          if 0 ≤ (r_115.2.1 62 x2.toNatClampNeg) then
                                            if 0 ≤ x5 then
                                              if x3 < 0 then
                                                (f_X9_no (-5) r_115.2).bind (fun r_144 =>
                                                  some (r_144.1, r_144.2))
                                              else
                                                if x4 < 0 then
                                                  (f_X9_no (-5) r_115.2).bind (fun r_146 =>
                                                    some (r_146.1, r_146.2))
                                                else
                                                  if inb x1 8 = true then
                                                    if 0 < (lg_cmp (x3.toInt64 + x5.toInt64) ((r_115.2.1 63 x1.toNatClampNeg).toInt64)) then
                                                      (f_X9_no (-5) r_115.2).bind (fun r_149 =>
                                                        some (r_149.1, r_149.2))
                                                    else
                                                      if inb x2 8 = true then
                                                        if (lg_cmp (x4.toInt64 + x5.toInt64) ((r_115.2.1 63 x2.toNatClampNeg).toInt64)) ≤ 0 then
                                                          if x1 = x2 then
                                                            if x4 ≤ x3 then
                                                              f_X9_copy_L251 x1 x2 x3 x4 x5 (fun ν_153 =>
                                                                some (1, ν_153)) FU 0 r_115.2
                                                            else
                                                              f_X9_copy_L203 x1 x2 x3 x4 (fun ν_154 =>
                                                                some (1, ν_154)) FU (x5 - 1) r_115.2
                                                          else
                                                            f_X9_copy_L251 x1 x2 x3 x4 x5 (fun ν_152 =>
                                                              some (1, ν_152)) FU 0 r_115.2
                                                        else
                                                          (f_X9_no (-5) r_115.2).bind (fun r_155 =>
                                                            some (r_155.1, r_155.2))
                                                      else none
                                                  else none
                                            else
                                              (f_X9_no (-4) r_115.2).bind (fun r_157 =>
                                                some (r_157.1, r_157.2))
                                          else
                                            (f_X9_no (-3) r_115.2).bind (fun r_159 =>
                                              some (r_159.1, r_159.2))
                                        else none
                                    else none
                                  else
                                    (f_X9_no (-2) r_115.2).bind (fun r_161 =>
                                      some (r_161.1, r_161.2))
                                else none
                              else none)))
              else none
            else
              (f_X9_isRow x1 r_5.2).bind (fun r_163 =>
                if r_163.1 = 0 then
                  (f_X9_no (-2) r_163.2).bind (fun r_165 =>
                    some (r_165.1, r_165.2))
                else
                  if inb x2 8 = true then
                    if (r_163.2.1 62 x2.toNatClampNeg) < 0 then
                      (f_X9_isRow x1 r_163.2).bind (fun r_168 =>
                        if r_168.1 = 0 then
                          if inb x1 8 = true then
                            if (r_168.2.1 62 x1.toNatClampNeg) < 0 then
                              (f_X9_no (-3) r_168.2).bind (fun r_171 =>
                                some (r_171.1, r_171.2))
                            else
                              if inb x2 8 = true then
                                if 0 ≤ (r_168.2.1 62 x2.toNatClampNeg) then
                                  if 0 ≤ x5 then
                                    if x3 < 0 then
                                      (f_X9_no (-5) r_168.2).bind (fun r_174 =>
                                        some (r_174.1, r_174.2))
                                    else
                                      if x4 < 0 then
                                        (f_X9_no (-5) r_168.2).bind (fun r_176 =>
                                          some (r_176.1, r_176.2))
                                      else
                                        if inb x1 8 = true then
                                          if 0 < (lg_cmp (x3.toInt64 + x5.toInt64) ((r_168.2.1 63 x1.toNatClampNeg).toInt64)) then
                                            (f_X9_no (-5) r_168.2).bind (fun r_179 =>
                                              some (r_179.1, r_179.2))
                                          else
                                            if inb x2 8 = true then
                                              if (lg_cmp (x4.toInt64 + x5.toInt64) ((r_168.2.1 63 x2.toNatClampNeg).toInt64)) ≤ 0 then
                                                if x1 = x2 then
                                                  if x4 ≤ x3 then
                                                    f_X9_copy_L251 x1 x2 x3 x4 x5 (fun ν_183 =>
                                                      some (1, ν_183)) FU 0 r_168.2
                                                  else
                                                    f_X9_copy_L203 x1 x2 x3 x4 (fun ν_184 =>
                                                      some (1, ν_184)) FU (x5 - 1) r_168.2
                                                else
                                                  f_X9_copy_L251 x1 x2 x3 x4 x5 (fun ν_182 =>
                                                    some (1, ν_182)) FU 0 r_168.2
                                              else
                                                (f_X9_no (-5) r_168.2).bind (fun r_185 =>
                                                  some (r_185.1, r_185.2))
                                            else none
                                        else none
                                  else
                                    (f_X9_no (-4) r_168.2).bind (fun r_187 =>
                                      some (r_187.1, r_187.2))
                                else
                                  (f_X9_no (-3) r_168.2).bind (fun r_189 =>
                                    some (r_189.1, r_189.2))
                              else none
                          else none
                        else
                          (f_X9_isRow x2 r_168.2).bind (fun r_191 =>
                            if r_191.1 = 0 then
                              if inb x1 8 = true then
                                if (r_191.2.1 62 x1.toNatClampNeg) < 0 then
                                  (f_X9_no (-3) r_191.2).bind (fun r_194 =>
                                    some (r_194.1, r_194.2))
                                else
                                  if inb x2 8 = true then
                                    if 0 ≤ (r_191.2.1 62 x2.toNatClampNeg) then
                                      if 0 ≤ x5 then
                                        if x3 < 0 then
                                          (f_X9_no (-5) r_191.2).bind (fun r_197 =>
                                            some (r_197.1, r_197.2))
                                        else
                                          if x4 < 0 then
                                            (f_X9_no (-5) r_191.2).bind (fun r_199 =>
                                              some (r_199.1, r_199.2))
                                          else
                                            if inb x1 8 = true then
                                              if 0 < (lg_cmp (x3.toInt64 + x5.toInt64) ((r_191.2.1 63 x1.toNatClampNeg).toInt64)) then
                                                (f_X9_no (-5) r_191.2).bind (fun r_202 =>
                                                  some (r_202.1, r_202.2))
                                              else
                                                if inb x2 8 = true then
                                                  if (lg_cmp (x4.toInt64 + x5.toInt64) ((r_191.2.1 63 x2.toNatClampNeg).toInt64)) ≤ 0 then
                                                    if x1 = x2 then
                                                      if x4 ≤ x3 then
                                                        f_X9_copy_L251 x1 x2 x3 x4 x5 (fun ν_206 =>
                                                          some (1, ν_206)) FU 0 r_191.2
                                                      else
                                                        f_X9_copy_L203 x1 x2 x3 x4 (fun ν_207 =>
                                                          some (1, ν_207)) FU (x5 - 1) r_191.2
                                                    else
                                                      f_X9_copy_L251 x1 x2 x3 x4 x5 (fun ν_205 =>
                                                        some (1, ν_205)) FU 0 r_191.2
                                                  else
                                                    (f_X9_no (-5) r_191.2).bind (fun r_208 =>
                                                      some (r_208.1, r_208.2))
                                                else none
                                            else none
                                      else
                                        (f_X9_no (-4) r_191.2).bind (fun r_210 =>
                                          some (r_210.1, r_210.2))
                                    else
                                      (f_X9_no (-3) r_191.2).bind (fun r_212 =>
                                        some (r_212.1, r_212.2))
                                  else none
                              else none
                            else
                              if inb x1 8 = true then
                                if inb x2 8 = true then
                                  if (r_191.2.1 62 x1.toNatClampNeg) = (r_191.2.1 62 x2.toNatClampNeg) then
                                    if inb x1 8 = true then
                                      if (r_191.2.1 62 x1.toNatClampNeg) < 0 then
                                        (f_X9_no (-3) r_191.2).bind (fun r_217 =>
                                          some (r_217.1, r_217.2))
                                      else
                                        if inb x2 8 = true then
                                          if 0 ≤ (r_191.2.1 62 x2.toNatClampNeg) then
                                            if 0 ≤ x5 then
                                              if x3 < 0 then
                                                (f_X9_no (-5) r_191.2).bind (fun r_220 =>
                                                  some (r_220.1, r_220.2))
                                              else
                                                if x4 < 0 then
                                                  (f_X9_no (-5) r_191.2).bind (fun r_222 =>
                                                    some (r_222.1, r_222.2))
                                                else
                                                  if inb x1 8 = true then
                                                    if 0 < (lg_cmp (x3.toInt64 + x5.toInt64) ((r_191.2.1 63 x1.toNatClampNeg).toInt64)) then
                                                      (f_X9_no (-5) r_191.2).bind (fun r_225 =>
                                                        some (r_225.1, r_225.2))
                                                    else
                                                      if inb x2 8 = true then
                                                        if (lg_cmp (x4.toInt64 + x5.toInt64) ((r_191.2.1 63 x2.toNatClampNeg).toInt64)) ≤ 0 then
                                                          if x1 = x2 then
                                                            if x4 ≤ x3 then
                                                              f_X9_copy_L251 x1 x2 x3 x4 x5 (fun ν_229 =>
                                                                some (1, ν_229)) FU 0 r_191.2
                                                            else
                                                              f_X9_copy_L203 x1 x2 x3 x4 (fun ν_230 =>
                                                                some (1, ν_230)) FU (x5 - 1) r_191.2
                                                          else
                                                            f_X9_copy_L251 x1 x2 x3 x4 x5 (fun ν_228 =>
                                                              some (1, ν_228)) FU 0 r_191.2
                                                        else
                                                          (f_X9_no (-5) r_191.2).bind (fun r_231 =>
                                                            some (r_231.1, r_231.2))
                                                      else none
                                                  else none
                                            else
                                              (f_X9_no (-4) r_191.2).bind (fun r_233 =>
                                                some (r_233.1, r_233.2))
                                          else
                                            (f_X9_no (-3) r_191.2).bind (fun r_235 =>
                                              some (r_235.1, r_235.2))
                                        else none
                                    else none
                                  else
                                    (f_X9_no (-2) r_191.2).bind (fun r_237 =>
                                      some (r_237.1, r_237.2))
                                else none
                              else none))
                    else
                      (f_X9_isRow x2 r_163.2).bind (fun r_239 =>
                        if r_239.1 = 0 then
                          (f_X9_no (-2) r_239.2).bind (fun r_241 =>
                            some (r_241.1, r_241.2))
                        else
                          (f_X9_isRow x1 r_239.2).bind (fun r_243 =>
                            if r_243.1 = 0 then
                              if inb x1 8 = true then
                                if (r_243.2.1 62 x1.toNatClampNeg) < 0 then
                                  (f_X9_no (-3) r_243.2).bind (fun r_246 =>
                                    some (r_246.1, r_246.2))
                                else
                                  if inb x2 8 = true then
                                    if 0 ≤ (r_243.2.1 62 x2.toNatClampNeg) then
                                      if 0 ≤ x5 then
                                        if x3 < 0 then
                                          (f_X9_no (-5) r_243.2).bind (fun r_249 =>
                                            some (r_249.1, r_249.2))
                                        else
                                          if x4 < 0 then
                                            (f_X9_no (-5) r_243.2).bind (fun r_251 =>
                                              some (r_251.1, r_251.2))
                                          else
                                            if inb x1 8 = true then
                                              if 0 < (lg_cmp (x3.toInt64 + x5.toInt64) ((r_243.2.1 63 x1.toNatClampNeg).toInt64)) then
                                                (f_X9_no (-5) r_243.2).bind (fun r_254 =>
                                                  some (r_254.1, r_254.2))
                                              else
                                                if inb x2 8 = true then
                                                  if (lg_cmp (x4.toInt64 + x5.toInt64) ((r_243.2.1 63 x2.toNatClampNeg).toInt64)) ≤ 0 then
                                                    if x1 = x2 then
                                                      if x4 ≤ x3 then
                                                        f_X9_copy_L251 x1 x2 x3 x4 x5 (fun ν_258 =>
                                                          some (1, ν_258)) FU 0 r_243.2
                                                      else
                                                        f_X9_copy_L203 x1 x2 x3 x4 (fun ν_259 =>
                                                          some (1, ν_259)) FU (x5 - 1) r_243.2
                                                    else
                                                      f_X9_copy_L251 x1 x2 x3 x4 x5 (fun ν_257 =>
                                                        some (1, ν_257)) FU 0 r_243.2
                                                  else
                                                    (f_X9_no (-5) r_243.2).bind (fun r_260 =>
                                                      some (r_260.1, r_260.2))
                                                else none
                                            else none
                                      else
                                        (f_X9_no (-4) r_243.2).bind (fun r_262 =>
                                          some (r_262.1, r_262.2))
                                    else
                                      (f_X9_no (-3) r_243.2).bind (fun r_264 =>
                                        some (r_264.1, r_264.2))
                                  else none
                              else none
                            else
                              (f_X9_isRow x2 r_243.2).bind (fun r_266 =>
                                if r_266.1 = 0 then
                                  if inb x1 8 = true then
                                    if (r_266.2.1 62 x1.toNatClampNeg) < 0 then
                                      (f_X9_no (-3) r_266.2).bind (fun r_269 =>
                                        some (r_269.1, r_269.2))
                                    else
                                      if inb x2 8 = true then
                                        if 0 ≤ (r_266.2.1 62 x2.toNatClampNeg) then
                                          if 0 ≤ x5 then
                                            if x3 < 0 then
                                              (f_X9_no (-5) r_266.2).bind (fun r_272 =>
                                                some (r_272.1, r_272.2))
                                            else
                                              if x4 < 0 then
                                                (f_X9_no (-5) r_266.2).bind (fun r_274 =>
                                                  some (r_274.1, r_274.2))
                                              else
                                                if inb x1 8 = true then
                                                  if 0 < (lg_cmp (x3.toInt64 + x5.toInt64) ((r_266.2.1 63 x1.toNatClampNeg).toInt64)) then
                                                    (f_X9_no (-5) r_266.2).bind (fun r_277 =>
                                                      some (r_277.1, r_277.2))
                                                  else
                                                    if inb x2 8 = true then
                                                      if (lg_cmp (x4.toInt64 + x5.toInt64) ((r_266.2.1 63 x2.toNatClampNeg).toInt64)) ≤ 0 then
                                                        if x1 = x2 then
                                                          if x4 ≤ x3 then
                                                            f_X9_copy_L251 x1 x2 x3 x4 x5 (fun ν_281 =>
                                                              some (1, ν_281)) FU 0 r_266.2
                                                          else
                                                            f_X9_copy_L203 x1 x2 x3 x4 (fun ν_282 =>
                                                              some (1, ν_282)) FU (x5 - 1) r_266.2
                                                        else
                                                          f_X9_copy_L251 x1 x2 x3 x4 x5 (fun ν_280 =>
                                                            some (1, ν_280)) FU 0 r_266.2
                                                      else
                                                        (f_X9_no (-5) r_266.2).bind (fun r_283 =>
                                                          some (r_283.1, r_283.2))
                                                    else none
                                                else none
                                          else
                                            (f_X9_no (-4) r_266.2).bind (fun r_285 =>
                                              some (r_285.1, r_285.2))
                                        else
                                          (f_X9_no (-3) r_266.2).bind (fun r_287 =>
                                            some (r_287.1, r_287.2))
                                      else none
                                  else none
                                else
                                  if inb x1 8 = true then
                                    if inb x2 8 = true then
                                      if (r_266.2.1 62 x1.toNatClampNeg) = (r_266.2.1 62 x2.toNatClampNeg) then
                                        if inb x1 8 = true then
                                          if (r_266.2.1 62 x1.toNatClampNeg) < 0 then
                                            (f_X9_no (-3) r_266.2).bind (fun r_292 =>
                                              some (r_292.1, r_292.2))
                                          else
                                            if inb x2 8 = true then
                                              if 0 ≤ (r_266.2.1 62 x2.toNatClampNeg) then
                                                if 0 ≤ x5 then
                                                  if x3 < 0 then
                                                    (f_X9_no (-5) r_266.2).bind (fun r_295 =>
                                                      some (r_295.1, r_295.2))
                                                  else
                                                    if x4 < 0 then
                                                      (f_X9_no (-5) r_266.2).bind (fun r_297 =>
                                                        some (r_297.1, r_297.2))
                                                    else
                                                      if inb x1 8 = true then
                                                        if 0 < (lg_cmp (x3.toInt64 + x5.toInt64) ((r_266.2.1 63 x1.toNatClampNeg).toInt64)) then
                                                          (f_X9_no (-5) r_266.2).bind (fun r_300 =>
                                                            some (r_300.1, r_300.2))
                                                        else
                                                          if inb x2 8 = true then
                                                            if (lg_cmp (x4.toInt64 + x5.toInt64) ((r_266.2.1 63 x2.toNatClampNeg).toInt64)) ≤ 0 then
                                                              if x1 = x2 then
                                                                if x4 ≤ x3 then
                                                                  f_X9_copy_L251 x1 x2 x3 x4 x5 (fun ν_304 =>
                                                                    some (1, ν_304)) FU 0 r_266.2
                                                                else
                                                                  f_X9_copy_L203 x1 x2 x3 x4 (fun ν_305 =>
                                                                    some (1, ν_305)) FU (x5 - 1) r_266.2
                                                              else
                                                                f_X9_copy_L251 x1 x2 x3 x4 x5 (fun ν_303 =>
                                                                  some (1, ν_303)) FU 0 r_266.2
                                                            else
                                                              (f_X9_no (-5) r_266.2).bind (fun r_306 =>
                                                                some (r_306.1, r_306.2))
                                                          else none
                                                      else none
                                                else
                                                  (f_X9_no (-4) r_266.2).bind (fun r_308 =>
                                                    some (r_308.1, r_308.2))
                                              else
                                                (f_X9_no (-3) r_266.2).bind (fun r_310 =>
                                                  some (r_310.1, r_310.2))
                                            else none
                                        else none
                                      else
                                        (f_X9_no (-2) r_266.2).bind (fun r_312 =>
                                          some (r_312.1, r_312.2))
                                    else none
                                  else none)))
                  else none)
          else none))
theorem me_X9_copy : g_me yX9_copy cX9_copy 7 ((Option.some .int)) 5 := ⟨tw_1027, tw_79, ⟨by decide +kernel, by decide +kernel, by decide +kernel⟩, by decide⟩
set_option maxRecDepth 20000 in
set_option maxHeartbeats 2000000 in
theorem m_X9_copy_L251 {X : gX} {ad : Nat → Nat} {y1 : Int32} {y2 : Int32} {y3 : Int32} {y4 : Int32} {y5 : Int32} {k295 : gN → Option (Int32 × gN)}  : ∀ (n : Nat) (y6 : Int32) (ν : gN) (r : Int32 × gN), f_X9_copy_L251 y1 y2 y3 y4 y5 k295 n y6 ν = some r → (∀ (ν1 : gN), k295 ν1 = some r → h_go X ad RX9 "copy" cX9_copy 7 ((Option.some .int)) 2 (some (.int r.1), r.2) 295 [] [] ν1) → h_go X ad RX9 "copy" cX9_copy 7 ((Option.some .int)) 2 (some (.int r.1), r.2) 251 [(0, .ref (ad 53)), (1, .int y1), (2, .int y2), (3, .int y3), (4, .int y4), (5, .int y5), (6, .int y6)] [] ν := by
  intro n
  induction n with
  | zero => intro y6 ν r h hk295; rw [f_X9_copy_L251] at h; exact q_n h
  | succ n ih =>
    intro y6 ν r h hk295
    rw [f_X9_copy_L251] at h
    refine go_iload 6 rfl dX9_copy_251 ?_
    refine go_iload 5 rfl dX9_copy_253 ?_
    refine go_icmp_ge (tgt := 295) dX9_copy_255 rfl (fun hc => ?_) (fun hc => ?_)
    · replace h := q_t h hc
      refine go_sub (l' := []) [] rfl ?_
      exact hk295  _ h
    · replace h := q_f h hc
      refine go_aload_n rfl 0 rfl dX9_copy_258 ?_
      refine h_getr 12 cl7 rfl (by decide) tw_924 64 rfl dX9_copy_259 ?_
      refine go_sipush kz_sipush_160 dX9_copy_262 ?_
      refine go_iload_n rfl 2 rfl dX9_copy_265 ?_
      refine go_imul dX9_copy_266 ?_
      refine go_iload 4 rfl dX9_copy_267 ?_
      refine go_iadd dX9_copy_269 ?_
      refine go_iload 6 rfl dX9_copy_270 ?_
      refine go_iadd dX9_copy_272 ?_
      refine go_aload_n rfl 0 rfl dX9_copy_273 ?_
      refine h_getr 12 cl7 rfl (by decide) tw_924 64 rfl dX9_copy_274 ?_
      refine go_sipush kz_sipush_160 dX9_copy_277 ?_
      refine go_iload_n rfl 1 rfl dX9_copy_280 ?_
      refine go_imul dX9_copy_281 ?_
      refine go_iload_n rfl 3 rfl dX9_copy_282 ?_
      refine go_iadd dX9_copy_283 ?_
      refine go_iload 6 rfl dX9_copy_284 ?_
      refine go_iadd dX9_copy_286 ?_
      obtain ⟨hg_23, h⟩ := q_g h
      refine h_lald 1280 rfl hg_23 dX9_copy_287 ?_
      obtain ⟨hg_24, h⟩ := q_g h
      obtain ⟨ν_25, e_26, h⟩ := q_l h
      refine h_last 1280 rfl hg_24 e_26 dX9_copy_288 ?_
      refine h_iinc (l' := [(6, .int (y6 + 1)), (0, .ref (ad 53)), (1, .int y1), (2, .int y2), (3, .int y3), (4, .int y4), (5, .int y5)]) dX9_copy_289 6 rfl kz_iconst_1 (by decide) rfl ?_
      refine go_goto (tgt := 251) dX9_copy_292 rfl ?_
      refine go_sub (l' := [(0, .ref (ad 53)), (1, .int y1), (2, .int y2), (3, .int y3), (4, .int y4), (5, .int y5), (6, .int (y6 + 1))]) [1, 2, 3, 4, 5, 6, 0] rfl ?_
      exact ih _ _ _ h hk295
set_option maxRecDepth 20000 in
set_option maxHeartbeats 2000000 in
theorem m_X9_copy_L203 {X : gX} {ad : Nat → Nat} {y1 : Int32} {y2 : Int32} {y3 : Int32} {y4 : Int32} {k245 : gN → Option (Int32 × gN)}  : ∀ (n : Nat) (y6 : Int32) (ν : gN) (r : Int32 × gN), f_X9_copy_L203 y1 y2 y3 y4 k245 n y6 ν = some r → (∀ (ν1 : gN), k245 ν1 = some r → h_go X ad RX9 "copy" cX9_copy 7 ((Option.some .int)) 2 (some (.int r.1), r.2) 245 [] [] ν1) → h_go X ad RX9 "copy" cX9_copy 7 ((Option.some .int)) 2 (some (.int r.1), r.2) 203 [(0, .ref (ad 53)), (1, .int y1), (2, .int y2), (3, .int y3), (4, .int y4), (6, .int y6)] [] ν := by
  intro n
  induction n with
  | zero => intro y6 ν r h hk245; rw [f_X9_copy_L203] at h; exact q_n h
  | succ n ih =>
    intro y6 ν r h hk245
    rw [f_X9_copy_L203] at h
    refine go_iload 5 rfl dX9_copy_203 ?_
    refine go_if_lt (tgt := 245) dX9_copy_205 rfl (fun hc => ?_) (fun hc => ?_)
    · replace h := q_t h hc
      refine go_sub (l' := []) [] rfl ?_
      exact hk245  _ h
    · replace h := q_f h hc
      refine go_aload_n rfl 0 rfl dX9_copy_208 ?_
      refine h_getr 12 cl7 rfl (by decide) tw_924 64 rfl dX9_copy_209 ?_
      refine go_sipush kz_sipush_160 dX9_copy_212 ?_
      refine go_iload_n rfl 2 rfl dX9_copy_215 ?_
      refine go_imul dX9_copy_216 ?_
      refine go_iload 4 rfl dX9_copy_217 ?_
      refine go_iadd dX9_copy_219 ?_
      refine go_iload 5 rfl dX9_copy_220 ?_
      refine go_iadd dX9_copy_222 ?_
      refine go_aload_n rfl 0 rfl dX9_copy_223 ?_
      refine h_getr 12 cl7 rfl (by decide) tw_924 64 rfl dX9_copy_224 ?_
      refine go_sipush kz_sipush_160 dX9_copy_227 ?_
      refine go_iload_n rfl 1 rfl dX9_copy_230 ?_
      refine go_imul dX9_copy_231 ?_
      refine go_iload_n rfl 3 rfl dX9_copy_232 ?_
      refine go_iadd dX9_copy_233 ?_
      refine go_iload 5 rfl dX9_copy_234 ?_
      refine go_iadd dX9_copy_236 ?_
      obtain ⟨hg_29, h⟩ := q_g h
      refine h_lald 1280 rfl hg_29 dX9_copy_237 ?_
      obtain ⟨hg_30, h⟩ := q_g h
      obtain ⟨ν_31, e_32, h⟩ := q_l h
      refine h_last 1280 rfl hg_30 e_32 dX9_copy_238 ?_
      refine h_iinc (l' := [(6, .int (y6 + (-1))), (0, .ref (ad 53)), (1, .int y1), (2, .int y2), (3, .int y3), (4, .int y4)]) dX9_copy_239 5 rfl kz_iconst_m1 (by decide) rfl ?_
      refine go_goto (tgt := 203) dX9_copy_242 rfl ?_
      refine go_sub (l' := [(0, .ref (ad 53)), (1, .int y1), (2, .int y2), (3, .int y3), (4, .int y4), (6, .int (y6 + (-1)))]) [1, 2, 3, 4, 5, 0] rfl ?_
      exact ih _ _ _ h hk245
set_option maxRecDepth 20000 in
set_option maxHeartbeats 2000000 in
theorem m_X9_copy {X : gX} {ad : Nat → Nat} {x1 : Int32} {x2 : Int32} {x3 : Int32} {x4 : Int32} {x5 : Int32} {ν : gN} {r : Int32 × gN}  (h : f_X9_copy x1 x2 x3 x4 x5 ν = some r) : h_ct X ad yX9_copy cX9_copy 7 ((Option.some .int)) 2 [.ref (ad 53), .int x1, .int x2, .int x3, .int x4, .int x5] ν (some (.int r.1), r.2) := by
  rw [f_X9_copy] at h
  refine h_ct_of (l := [(0, .ref (ad 53)), (1, .int x1), (2, .int x2), (3, .int x3), (4, .int x4), (5, .int x5)]) (by decide) (Nat.le_of_ble_eq_true rfl) rfl ?_
  refine go_iload_n rfl 1 rfl dX9_copy_0 ?_
  refine go_iconst kz_iconst_0 dX9_copy_1 ?_
  refine go_bipush kz_bipush_7 dX9_copy_2 ?_
  obtain ⟨r_1, h_2, h⟩ := q_b h
  refine h_callSi (st := []) [.int x1, .int 0, .int 7] (m_X9_within h_2) me_X9_within tw_1005 tw_1006 (hdd_of (by decide)) ⟨Nat.zero_le _, Nat.zero_le _⟩ rfl rfl (Nat.le_of_ble_eq_true rfl) dX9_copy_4 ?_
  refine go_if_eq (tgt := 20) dX9_copy_7 rfl (fun hc => ?_) (fun hc => ?_)
  · replace h := q_t h hc
    refine go_aload_n rfl 0 rfl dX9_copy_20 ?_
    refine go_iconst kz_iconst_m1 dX9_copy_21 ?_
    obtain ⟨r_3, h_4, h⟩ := q_b h
    refine h_callVi (st := []) [.int (-1)] (m_X9_no h_4) me_X9_no (g_recv cl7.1 rfl) tw_1008 tw_1010 tw_23 (hdd_of (by decide)) ⟨Nat.zero_le _, Nat.zero_le _⟩ rfl rfl (Nat.le_of_ble_eq_true rfl) dX9_copy_22 ?_
    exact h_iret h dX9_copy_25 rfl
  · replace h := q_f h hc
    refine go_iload_n rfl 2 rfl dX9_copy_10 ?_
    refine go_iconst kz_iconst_0 dX9_copy_11 ?_
    refine go_bipush kz_bipush_7 dX9_copy_12 ?_
    obtain ⟨r_5, h_6, h⟩ := q_b h
    refine h_callSi (st := []) [.int x2, .int 0, .int 7] (m_X9_within h_6) me_X9_within tw_1005 tw_1006 (hdd_of (by decide)) ⟨Nat.zero_le _, Nat.zero_le _⟩ rfl rfl (Nat.le_of_ble_eq_true rfl) dX9_copy_14 ?_
    refine go_if_ne (tgt := 26) dX9_copy_17 rfl (fun hc => ?_) (fun hc => ?_)
    · replace h := q_f h hc
      refine go_aload_n rfl 0 rfl dX9_copy_26 ?_
      refine h_getr 10 cl7 rfl (by decide) tw_922 62 rfl dX9_copy_27 ?_
      refine go_iload_n rfl 1 rfl dX9_copy_30 ?_
      obtain ⟨hg_7, h⟩ := q_g h
      refine h_iald 8 rfl hg_7 dX9_copy_31 ?_
      refine go_if_lt (tgt := 43) dX9_copy_32 rfl (fun hc => ?_) (fun hc => ?_)
      · replace h := q_t h hc
        refine go_aload_n rfl 0 rfl dX9_copy_43 ?_
        refine h_getr 10 cl7 rfl (by decide) tw_922 62 rfl dX9_copy_44 ?_
        refine go_iload_n rfl 2 rfl dX9_copy_47 ?_
        obtain ⟨hg_8, h⟩ := q_g h
        refine h_iald 8 rfl hg_8 dX9_copy_48 ?_
        refine go_if_lt (tgt := 60) dX9_copy_49 rfl (fun hc => ?_) (fun hc => ?_)
        · replace h := q_t h hc
          refine go_aload_n rfl 0 rfl dX9_copy_60 ?_
          refine go_iload_n rfl 1 rfl dX9_copy_61 ?_
          obtain ⟨r_9, h_10, h⟩ := q_b h
          refine h_callVi (st := []) [.int x1] (m_X9_isRow h_10) me_X9_isRow (g_recv cl7.1 rfl) tw_1020 tw_1022 tw_25 (hdd_of (by decide)) ⟨Nat.zero_le _, Nat.zero_le _⟩ rfl rfl (Nat.le_of_ble_eq_true rfl) dX9_copy_62 ?_
          refine go_if_eq (tgt := 98) dX9_copy_65 rfl (fun hc => ?_) (fun hc => ?_)
          · replace h := q_t h hc
            refine go_aload_n rfl 0 rfl dX9_copy_98 ?_
            refine h_getr 10 cl7 rfl (by decide) tw_922 62 rfl dX9_copy_99 ?_
            refine go_iload_n rfl 1 rfl dX9_copy_102 ?_
            obtain ⟨hg_11, h⟩ := q_g h
            refine h_iald 8 rfl hg_11 dX9_copy_103 ?_
            refine go_if_lt (tgt := 116) dX9_copy_104 rfl (fun hc => ?_) (fun hc => ?_)
            · replace h := q_t h hc
              refine go_aload_n rfl 0 rfl dX9_copy_116 ?_
              refine go_bipush kz_bipush_m3 dX9_copy_117 ?_
              obtain ⟨r_12, h_13, h⟩ := q_b h
              refine h_callVi (st := []) [.int (-3)] (m_X9_no h_13) me_X9_no (g_recv cl7.1 rfl) tw_1008 tw_1010 tw_23 (hdd_of (by decide)) ⟨Nat.zero_le _, Nat.zero_le _⟩ rfl rfl (Nat.le_of_ble_eq_true rfl) dX9_copy_119 ?_
              exact h_iret h dX9_copy_122 rfl
            · replace h := q_f h hc
              refine go_aload_n rfl 0 rfl dX9_copy_107 ?_
              refine h_getr 10 cl7 rfl (by decide) tw_922 62 rfl dX9_copy_108 ?_
              refine go_iload_n rfl 2 rfl dX9_copy_111 ?_
              obtain ⟨hg_14, h⟩ := q_g h
              refine h_iald 8 rfl hg_14 dX9_copy_112 ?_
              refine go_if_ge (tgt := 123) dX9_copy_113 rfl (fun hc => ?_) (fun hc => ?_)
              · replace h := q_t h hc
                refine go_iload 5 rfl dX9_copy_123 ?_
                refine go_if_ge (tgt := 135) dX9_copy_125 rfl (fun hc => ?_) (fun hc => ?_)
                · replace h := q_t h hc
                  refine go_iload_n rfl 3 rfl dX9_copy_135 ?_
                  refine go_if_lt (tgt := 179) dX9_copy_136 rfl (fun hc => ?_) (fun hc => ?_)
                  · replace h := q_t h hc
                    refine go_aload_n rfl 0 rfl dX9_copy_179 ?_
                    refine go_bipush kz_bipush_m5 dX9_copy_180 ?_
                    obtain ⟨r_15, h_16, h⟩ := q_b h
                    refine h_callVi (st := []) [.int (-5)] (m_X9_no h_16) me_X9_no (g_recv cl7.1 rfl) tw_1008 tw_1010 tw_23 (hdd_of (by decide)) ⟨Nat.zero_le _, Nat.zero_le _⟩ rfl rfl (Nat.le_of_ble_eq_true rfl) dX9_copy_182 ?_
                    exact h_iret h dX9_copy_185 rfl
                  · replace h := q_f h hc
                    refine go_iload 4 rfl dX9_copy_139 ?_
                    refine go_if_lt (tgt := 179) dX9_copy_141 rfl (fun hc => ?_) (fun hc => ?_)
                    · replace h := q_t h hc
                      refine go_aload_n rfl 0 rfl dX9_copy_179 ?_
                      refine go_bipush kz_bipush_m5 dX9_copy_180 ?_
                      obtain ⟨r_17, h_18, h⟩ := q_b h
                      refine h_callVi (st := []) [.int (-5)] (m_X9_no h_18) me_X9_no (g_recv cl7.1 rfl) tw_1008 tw_1010 tw_23 (hdd_of (by decide)) ⟨Nat.zero_le _, Nat.zero_le _⟩ rfl rfl (Nat.le_of_ble_eq_true rfl) dX9_copy_182 ?_
                      exact h_iret h dX9_copy_185 rfl
                    · replace h := q_f h hc
                      refine go_iload_n rfl 3 rfl dX9_copy_144 ?_
                      refine go_i2l dX9_copy_145 ?_
                      refine go_iload 5 rfl dX9_copy_146 ?_
                      refine go_i2l dX9_copy_148 ?_
                      refine go_ladd dX9_copy_149 ?_
                      refine go_aload_n rfl 0 rfl dX9_copy_150 ?_
                      refine h_getr 11 cl7 rfl (by decide) tw_923 63 rfl dX9_copy_151 ?_
                      refine go_iload_n rfl 1 rfl dX9_copy_154 ?_
                      obtain ⟨hg_19, h⟩ := q_g h
                      refine h_iald 8 rfl hg_19 dX9_copy_155 ?_
                      refine go_i2l dX9_copy_156 ?_
                      refine go_lcmp dX9_copy_157 ?_
                      refine go_if_gt (tgt := 179) dX9_copy_158 rfl (fun hc => ?_) (fun hc => ?_)
                      · replace h := q_t h hc
                        refine go_aload_n rfl 0 rfl dX9_copy_179 ?_
                        refine go_bipush kz_bipush_m5 dX9_copy_180 ?_
                        obtain ⟨r_20, h_21, h⟩ := q_b h
                        refine h_callVi (st := []) [.int (-5)] (m_X9_no h_21) me_X9_no (g_recv cl7.1 rfl) tw_1008 tw_1010 tw_23 (hdd_of (by decide)) ⟨Nat.zero_le _, Nat.zero_le _⟩ rfl rfl (Nat.le_of_ble_eq_true rfl) dX9_copy_182 ?_
                        exact h_iret h dX9_copy_185 rfl
                      · replace h := q_f h hc
                        refine go_iload 4 rfl dX9_copy_161 ?_
                        refine go_i2l dX9_copy_163 ?_
                        refine go_iload 5 rfl dX9_copy_164 ?_
                        refine go_i2l dX9_copy_166 ?_
                        refine go_ladd dX9_copy_167 ?_
                        refine go_aload_n rfl 0 rfl dX9_copy_168 ?_
                        refine h_getr 11 cl7 rfl (by decide) tw_923 63 rfl dX9_copy_169 ?_
                        refine go_iload_n rfl 2 rfl dX9_copy_172 ?_
                        obtain ⟨hg_22, h⟩ := q_g h
                        refine h_iald 8 rfl hg_22 dX9_copy_173 ?_
                        refine go_i2l dX9_copy_174 ?_
                        refine go_lcmp dX9_copy_175 ?_
                        refine go_if_le (tgt := 186) dX9_copy_176 rfl (fun hc => ?_) (fun hc => ?_)
                        · replace h := q_t h hc
                          refine go_iload_n rfl 1 rfl dX9_copy_186 ?_
                          refine go_iload_n rfl 2 rfl dX9_copy_187 ?_
                          refine go_icmp_ne (tgt := 248) dX9_copy_188 rfl (fun hc => ?_) (fun hc => ?_)
                          · replace h := q_f h hc
                            refine go_iconst kz_iconst_0 dX9_copy_248 ?_
                            refine go_istore (l' := [(6, .int 0), (0, .ref (ad 53)), (1, .int x1), (2, .int x2), (3, .int x3), (4, .int x4), (5, .int x5)]) dX9_copy_249 (by decide) rfl ?_
                            refine go_sub (l' := [(0, .ref (ad 53)), (1, .int x1), (2, .int x2), (3, .int x3), (4, .int x4), (5, .int x5), (6, .int 0)]) [1, 2, 3, 4, 5, 6, 0] rfl ?_
                            refine m_X9_copy_L251  FU _ _ _ h (fun ν_27 h => ?_)
                            refine go_iconst kz_iconst_1 dX9_copy_295 ?_
                            exact h_iret h dX9_copy_296 rfl
                          · replace h := q_t h hc
                            refine go_iload_n rfl 3 rfl dX9_copy_191 ?_
                            refine go_iload 4 rfl dX9_copy_192 ?_
                            refine go_icmp_ge (tgt := 248) dX9_copy_194 rfl (fun hc => ?_) (fun hc => ?_)
                            · replace h := q_t h hc
                              refine go_iconst kz_iconst_0 dX9_copy_248 ?_
                              refine go_istore (l' := [(6, .int 0), (0, .ref (ad 53)), (1, .int x1), (2, .int x2), (3, .int x3), (4, .int x4), (5, .int x5)]) dX9_copy_249 (by decide) rfl ?_
                              refine go_sub (l' := [(0, .ref (ad 53)), (1, .int x1), (2, .int x2), (3, .int x3), (4, .int x4), (5, .int x5), (6, .int 0)]) [1, 2, 3, 4, 5, 6, 0] rfl ?_
                              refine m_X9_copy_L251  FU _ _ _ h (fun ν_28 h => ?_)
                              refine go_iconst kz_iconst_1 dX9_copy_295 ?_
                              exact h_iret h dX9_copy_296 rfl
                            · replace h := q_f h hc
                              refine go_iload 5 rfl dX9_copy_197 ?_
                              refine go_iconst kz_iconst_1 dX9_copy_199 ?_
                              refine go_isub dX9_copy_200 ?_
                              refine go_istore (l' := [(6, .int (x5 - 1)), (0, .ref (ad 53)), (1, .int x1), (2, .int x2), (3, .int x3), (4, .int x4), (5, .int x5)]) dX9_copy_201 (by decide) rfl ?_
                              refine go_sub (l' := [(0, .ref (ad 53)), (1, .int x1), (2, .int x2), (3, .int x3), (4, .int x4), (6, .int (x5 - 1))]) [1, 2, 3, 4, 5, 0] rfl ?_
                              refine m_X9_copy_L203  FU _ _ _ h (fun ν_33 h => ?_)
                              refine go_goto (tgt := 295) dX9_copy_245 rfl ?_
                              refine go_iconst kz_iconst_1 dX9_copy_295 ?_
                              exact h_iret h dX9_copy_296 rfl
                        · replace h := q_f h hc
                          refine go_aload_n rfl 0 rfl dX9_copy_179 ?_
                          refine go_bipush kz_bipush_m5 dX9_copy_180 ?_
                          obtain ⟨r_34, h_35, h⟩ := q_b h
                          refine h_callVi (st := []) [.int (-5)] (m_X9_no h_35) me_X9_no (g_recv cl7.1 rfl) tw_1008 tw_1010 tw_23 (hdd_of (by decide)) ⟨Nat.zero_le _, Nat.zero_le _⟩ rfl rfl (Nat.le_of_ble_eq_true rfl) dX9_copy_182 ?_
                          exact h_iret h dX9_copy_185 rfl
                · replace h := q_f h hc
                  refine go_aload_n rfl 0 rfl dX9_copy_128 ?_
                  refine go_bipush kz_bipush_m4 dX9_copy_129 ?_
                  obtain ⟨r_36, h_37, h⟩ := q_b h
                  refine h_callVi (st := []) [.int (-4)] (m_X9_no h_37) me_X9_no (g_recv cl7.1 rfl) tw_1008 tw_1010 tw_23 (hdd_of (by decide)) ⟨Nat.zero_le _, Nat.zero_le _⟩ rfl rfl (Nat.le_of_ble_eq_true rfl) dX9_copy_131 ?_
                  exact h_iret h dX9_copy_134 rfl
              · replace h := q_f h hc
                refine go_aload_n rfl 0 rfl dX9_copy_116 ?_
                refine go_bipush kz_bipush_m3 dX9_copy_117 ?_
                obtain ⟨r_38, h_39, h⟩ := q_b h
                refine h_callVi (st := []) [.int (-3)] (m_X9_no h_39) me_X9_no (g_recv cl7.1 rfl) tw_1008 tw_1010 tw_23 (hdd_of (by decide)) ⟨Nat.zero_le _, Nat.zero_le _⟩ rfl rfl (Nat.le_of_ble_eq_true rfl) dX9_copy_119 ?_
                exact h_iret h dX9_copy_122 rfl
          · replace h := q_f h hc
            refine go_aload_n rfl 0 rfl dX9_copy_68 ?_
            refine go_iload_n rfl 2 rfl dX9_copy_69 ?_
            obtain ⟨r_40, h_41, h⟩ := q_b h
            refine h_callVi (st := []) [.int x2] (m_X9_isRow h_41) me_X9_isRow (g_recv cl7.1 rfl) tw_1020 tw_1022 tw_25 (hdd_of (by decide)) ⟨Nat.zero_le _, Nat.zero_le _⟩ rfl rfl (Nat.le_of_ble_eq_true rfl) dX9_copy_70 ?_
            refine go_if_eq (tgt := 98) dX9_copy_73 rfl (fun hc => ?_) (fun hc => ?_)
            · replace h := q_t h hc
              refine go_aload_n rfl 0 rfl dX9_copy_98 ?_
              refine h_getr 10 cl7 rfl (by decide) tw_922 62 rfl dX9_copy_99 ?_
              refine go_iload_n rfl 1 rfl dX9_copy_102 ?_
              obtain ⟨hg_42, h⟩ := q_g h
              refine h_iald 8 rfl hg_42 dX9_copy_103 ?_
              refine go_if_lt (tgt := 116) dX9_copy_104 rfl (fun hc => ?_) (fun hc => ?_)
              · replace h := q_t h hc
                refine go_aload_n rfl 0 rfl dX9_copy_116 ?_
                refine go_bipush kz_bipush_m3 dX9_copy_117 ?_
                obtain ⟨r_43, h_44, h⟩ := q_b h
                refine h_callVi (st := []) [.int (-3)] (m_X9_no h_44) me_X9_no (g_recv cl7.1 rfl) tw_1008 tw_1010 tw_23 (hdd_of (by decide)) ⟨Nat.zero_le _, Nat.zero_le _⟩ rfl rfl (Nat.le_of_ble_eq_true rfl) dX9_copy_119 ?_
                exact h_iret h dX9_copy_122 rfl
              · replace h := q_f h hc
                refine go_aload_n rfl 0 rfl dX9_copy_107 ?_
                refine h_getr 10 cl7 rfl (by decide) tw_922 62 rfl dX9_copy_108 ?_
                refine go_iload_n rfl 2 rfl dX9_copy_111 ?_
                obtain ⟨hg_45, h⟩ := q_g h
                refine h_iald 8 rfl hg_45 dX9_copy_112 ?_
                refine go_if_ge (tgt := 123) dX9_copy_113 rfl (fun hc => ?_) (fun hc => ?_)
                · replace h := q_t h hc
                  refine go_iload 5 rfl dX9_copy_123 ?_
                  refine go_if_ge (tgt := 135) dX9_copy_125 rfl (fun hc => ?_) (fun hc => ?_)
                  · replace h := q_t h hc
                    refine go_iload_n rfl 3 rfl dX9_copy_135 ?_
                    refine go_if_lt (tgt := 179) dX9_copy_136 rfl (fun hc => ?_) (fun hc => ?_)
                    · replace h := q_t h hc
                      refine go_aload_n rfl 0 rfl dX9_copy_179 ?_
                      refine go_bipush kz_bipush_m5 dX9_copy_180 ?_
                      obtain ⟨r_46, h_47, h⟩ := q_b h
                      refine h_callVi (st := []) [.int (-5)] (m_X9_no h_47) me_X9_no (g_recv cl7.1 rfl) tw_1008 tw_1010 tw_23 (hdd_of (by decide)) ⟨Nat.zero_le _, Nat.zero_le _⟩ rfl rfl (Nat.le_of_ble_eq_true rfl) dX9_copy_182 ?_
                      exact h_iret h dX9_copy_185 rfl
                    · replace h := q_f h hc
                      refine go_iload 4 rfl dX9_copy_139 ?_
                      refine go_if_lt (tgt := 179) dX9_copy_141 rfl (fun hc => ?_) (fun hc => ?_)
                      · replace h := q_t h hc
                        refine go_aload_n rfl 0 rfl dX9_copy_179 ?_
                        refine go_bipush kz_bipush_m5 dX9_copy_180 ?_
                        obtain ⟨r_48, h_49, h⟩ := q_b h
                        refine h_callVi (st := []) [.int (-5)] (m_X9_no h_49) me_X9_no (g_recv cl7.1 rfl) tw_1008 tw_1010 tw_23 (hdd_of (by decide)) ⟨Nat.zero_le _, Nat.zero_le _⟩ rfl rfl (Nat.le_of_ble_eq_true rfl) dX9_copy_182 ?_
                        exact h_iret h dX9_copy_185 rfl
                      · replace h := q_f h hc
                        refine go_iload_n rfl 3 rfl dX9_copy_144 ?_
                        refine go_i2l dX9_copy_145 ?_
                        refine go_iload 5 rfl dX9_copy_146 ?_
                        refine go_i2l dX9_copy_148 ?_
                        refine go_ladd dX9_copy_149 ?_
                        refine go_aload_n rfl 0 rfl dX9_copy_150 ?_
                        refine h_getr 11 cl7 rfl (by decide) tw_923 63 rfl dX9_copy_151 ?_
                        refine go_iload_n rfl 1 rfl dX9_copy_154 ?_
                        obtain ⟨hg_50, h⟩ := q_g h
                        refine h_iald 8 rfl hg_50 dX9_copy_155 ?_
                        refine go_i2l dX9_copy_156 ?_
                        refine go_lcmp dX9_copy_157 ?_
                        refine go_if_gt (tgt := 179) dX9_copy_158 rfl (fun hc => ?_) (fun hc => ?_)
                        · replace h := q_t h hc
                          refine go_aload_n rfl 0 rfl dX9_copy_179 ?_
                          refine go_bipush kz_bipush_m5 dX9_copy_180 ?_
                          obtain ⟨r_51, h_52, h⟩ := q_b h
                          refine h_callVi (st := []) [.int (-5)] (m_X9_no h_52) me_X9_no (g_recv cl7.1 rfl) tw_1008 tw_1010 tw_23 (hdd_of (by decide)) ⟨Nat.zero_le _, Nat.zero_le _⟩ rfl rfl (Nat.le_of_ble_eq_true rfl) dX9_copy_182 ?_
                          exact h_iret h dX9_copy_185 rfl
                        · replace h := q_f h hc
                          refine go_iload 4 rfl dX9_copy_161 ?_
                          refine go_i2l dX9_copy_163 ?_
                          refine go_iload 5 rfl dX9_copy_164 ?_
                          refine go_i2l dX9_copy_166 ?_
                          refine go_ladd dX9_copy_167 ?_
                          refine go_aload_n rfl 0 rfl dX9_copy_168 ?_
                          refine h_getr 11 cl7 rfl (by decide) tw_923 63 rfl dX9_copy_169 ?_
                          refine go_iload_n rfl 2 rfl dX9_copy_172 ?_
                          obtain ⟨hg_53, h⟩ := q_g h
                          refine h_iald 8 rfl hg_53 dX9_copy_173 ?_
                          refine go_i2l dX9_copy_174 ?_
                          refine go_lcmp dX9_copy_175 ?_
                          refine go_if_le (tgt := 186) dX9_copy_176 rfl (fun hc => ?_) (fun hc => ?_)
                          · replace h := q_t h hc
                            refine go_iload_n rfl 1 rfl dX9_copy_186 ?_
                            refine go_iload_n rfl 2 rfl dX9_copy_187 ?_
                            refine go_icmp_ne (tgt := 248) dX9_copy_188 rfl (fun hc => ?_) (fun hc => ?_)
                            · replace h := q_f h hc
                              refine go_iconst kz_iconst_0 dX9_copy_248 ?_
                              refine go_istore (l' := [(6, .int 0), (0, .ref (ad 53)), (1, .int x1), (2, .int x2), (3, .int x3), (4, .int x4), (5, .int x5)]) dX9_copy_249 (by decide) rfl ?_
                              refine go_sub (l' := [(0, .ref (ad 53)), (1, .int x1), (2, .int x2), (3, .int x3), (4, .int x4), (5, .int x5), (6, .int 0)]) [1, 2, 3, 4, 5, 6, 0] rfl ?_
                              refine m_X9_copy_L251  FU _ _ _ h (fun ν_54 h => ?_)
                              refine go_iconst kz_iconst_1 dX9_copy_295 ?_
                              exact h_iret h dX9_copy_296 rfl
                            · replace h := q_t h hc
                              refine go_iload_n rfl 3 rfl dX9_copy_191 ?_
                              refine go_iload 4 rfl dX9_copy_192 ?_
                              refine go_icmp_ge (tgt := 248) dX9_copy_194 rfl (fun hc => ?_) (fun hc => ?_)
                              · replace h := q_t h hc
                                refine go_iconst kz_iconst_0 dX9_copy_248 ?_
                                refine go_istore (l' := [(6, .int 0), (0, .ref (ad 53)), (1, .int x1), (2, .int x2), (3, .int x3), (4, .int x4), (5, .int x5)]) dX9_copy_249 (by decide) rfl ?_
                                refine go_sub (l' := [(0, .ref (ad 53)), (1, .int x1), (2, .int x2), (3, .int x3), (4, .int x4), (5, .int x5), (6, .int 0)]) [1, 2, 3, 4, 5, 6, 0] rfl ?_
                                refine m_X9_copy_L251  FU _ _ _ h (fun ν_55 h => ?_)
                                refine go_iconst kz_iconst_1 dX9_copy_295 ?_
                                exact h_iret h dX9_copy_296 rfl
                              · replace h := q_f h hc
                                refine go_iload 5 rfl dX9_copy_197 ?_
                                refine go_iconst kz_iconst_1 dX9_copy_199 ?_
                                refine go_isub dX9_copy_200 ?_
                                refine go_istore (l' := [(6, .int (x5 - 1)), (0, .ref (ad 53)), (1, .int x1), (2, .int x2), (3, .int x3), (4, .int x4), (5, .int x5)]) dX9_copy_201 (by decide) rfl ?_
                                refine go_sub (l' := [(0, .ref (ad 53)), (1, .int x1), (2, .int x2), (3, .int x3), (4, .int x4), (6, .int (x5 - 1))]) [1, 2, 3, 4, 5, 0] rfl ?_
                                refine m_X9_copy_L203  FU _ _ _ h (fun ν_56 h => ?_)
                                refine go_goto (tgt := 295) dX9_copy_245 rfl ?_
                                refine go_iconst kz_iconst_1 dX9_copy_295 ?_
                                exact h_iret h dX9_copy_296 rfl
                          · replace h := q_f h hc
                            refine go_aload_n rfl 0 rfl dX9_copy_179 ?_
                            refine go_bipush kz_bipush_m5 dX9_copy_180 ?_
                            obtain ⟨r_57, h_58, h⟩ := q_b h
                            refine h_callVi (st := []) [.int (-5)] (m_X9_no h_58) me_X9_no (g_recv cl7.1 rfl) tw_1008 tw_1010 tw_23 (hdd_of (by decide)) ⟨Nat.zero_le _, Nat.zero_le _⟩ rfl rfl (Nat.le_of_ble_eq_true rfl) dX9_copy_182 ?_
                            exact h_iret h dX9_copy_185 rfl
                  · replace h := q_f h hc
                    refine go_aload_n rfl 0 rfl dX9_copy_128 ?_
                    refine go_bipush kz_bipush_m4 dX9_copy_129 ?_
                    obtain ⟨r_59, h_60, h⟩ := q_b h
                    refine h_callVi (st := []) [.int (-4)] (m_X9_no h_60) me_X9_no (g_recv cl7.1 rfl) tw_1008 tw_1010 tw_23 (hdd_of (by decide)) ⟨Nat.zero_le _, Nat.zero_le _⟩ rfl rfl (Nat.le_of_ble_eq_true rfl) dX9_copy_131 ?_
                    exact h_iret h dX9_copy_134 rfl
                · replace h := q_f h hc
                  refine go_aload_n rfl 0 rfl dX9_copy_116 ?_
                  refine go_bipush kz_bipush_m3 dX9_copy_117 ?_
                  obtain ⟨r_61, h_62, h⟩ := q_b h
                  refine h_callVi (st := []) [.int (-3)] (m_X9_no h_62) me_X9_no (g_recv cl7.1 rfl) tw_1008 tw_1010 tw_23 (hdd_of (by decide)) ⟨Nat.zero_le _, Nat.zero_le _⟩ rfl rfl (Nat.le_of_ble_eq_true rfl) dX9_copy_119 ?_
                  exact h_iret h dX9_copy_122 rfl
            · replace h := q_f h hc
              refine go_aload_n rfl 0 rfl dX9_copy_76 ?_
              refine h_getr 10 cl7 rfl (by decide) tw_922 62 rfl dX9_copy_77 ?_
              refine go_iload_n rfl 1 rfl dX9_copy_80 ?_
              obtain ⟨hg_63, h⟩ := q_g h
              refine h_iald 8 rfl hg_63 dX9_copy_81 ?_
              refine go_aload_n rfl 0 rfl dX9_copy_82 ?_
              refine h_getr 10 cl7 rfl (by decide) tw_922 62 rfl dX9_copy_83 ?_
              refine go_iload_n rfl 2 rfl dX9_copy_86 ?_
              obtain ⟨hg_64, h⟩ := q_g h
              refine h_iald 8 rfl hg_64 dX9_copy_87 ?_
              refine go_icmp_eq (tgt := 98) dX9_copy_88 rfl (fun hc => ?_) (fun hc => ?_)
              · replace h := q_t h hc
                refine go_aload_n rfl 0 rfl dX9_copy_98 ?_
                refine h_getr 10 cl7 rfl (by decide) tw_922 62 rfl dX9_copy_99 ?_
                refine go_iload_n rfl 1 rfl dX9_copy_102 ?_
                obtain ⟨hg_65, h⟩ := q_g h
                refine h_iald 8 rfl hg_65 dX9_copy_103 ?_
                refine go_if_lt (tgt := 116) dX9_copy_104 rfl (fun hc => ?_) (fun hc => ?_)
                · replace h := q_t h hc
                  refine go_aload_n rfl 0 rfl dX9_copy_116 ?_
                  refine go_bipush kz_bipush_m3 dX9_copy_117 ?_
                  obtain ⟨r_66, h_67, h⟩ := q_b h
                  refine h_callVi (st := []) [.int (-3)] (m_X9_no h_67) me_X9_no (g_recv cl7.1 rfl) tw_1008 tw_1010 tw_23 (hdd_of (by decide)) ⟨Nat.zero_le _, Nat.zero_le _⟩ rfl rfl (Nat.le_of_ble_eq_true rfl) dX9_copy_119 ?_
                  exact h_iret h dX9_copy_122 rfl
                · replace h := q_f h hc
                  refine go_aload_n rfl 0 rfl dX9_copy_107 ?_
                  refine h_getr 10 cl7 rfl (by decide) tw_922 62 rfl dX9_copy_108 ?_
                  refine go_iload_n rfl 2 rfl dX9_copy_111 ?_
                  obtain ⟨hg_68, h⟩ := q_g h
                  refine h_iald 8 rfl hg_68 dX9_copy_112 ?_
                  refine go_if_ge (tgt := 123) dX9_copy_113 rfl (fun hc => ?_) (fun hc => ?_)
                  · replace h := q_t h hc
                    refine go_iload 5 rfl dX9_copy_123 ?_
                    refine go_if_ge (tgt := 135) dX9_copy_125 rfl (fun hc => ?_) (fun hc => ?_)
                    · replace h := q_t h hc
                      refine go_iload_n rfl 3 rfl dX9_copy_135 ?_
                      refine go_if_lt (tgt := 179) dX9_copy_136 rfl (fun hc => ?_) (fun hc => ?_)
                      · replace h := q_t h hc
                        refine go_aload_n rfl 0 rfl dX9_copy_179 ?_
                        refine go_bipush kz_bipush_m5 dX9_copy_180 ?_
                        obtain ⟨r_69, h_70, h⟩ := q_b h
                        refine h_callVi (st := []) [.int (-5)] (m_X9_no h_70) me_X9_no (g_recv cl7.1 rfl) tw_1008 tw_1010 tw_23 (hdd_of (by decide)) ⟨Nat.zero_le _, Nat.zero_le _⟩ rfl rfl (Nat.le_of_ble_eq_true rfl) dX9_copy_182 ?_
                        exact h_iret h dX9_copy_185 rfl
                      · replace h := q_f h hc
                        refine go_iload 4 rfl dX9_copy_139 ?_
                        refine go_if_lt (tgt := 179) dX9_copy_141 rfl (fun hc => ?_) (fun hc => ?_)
                        · replace h := q_t h hc
                          refine go_aload_n rfl 0 rfl dX9_copy_179 ?_
                          refine go_bipush kz_bipush_m5 dX9_copy_180 ?_
                          obtain ⟨r_71, h_72, h⟩ := q_b h
                          refine h_callVi (st := []) [.int (-5)] (m_X9_no h_72) me_X9_no (g_recv cl7.1 rfl) tw_1008 tw_1010 tw_23 (hdd_of (by decide)) ⟨Nat.zero_le _, Nat.zero_le _⟩ rfl rfl (Nat.le_of_ble_eq_true rfl) dX9_copy_182 ?_
                          exact h_iret h dX9_copy_185 rfl
                        · replace h := q_f h hc
                          refine go_iload_n rfl 3 rfl dX9_copy_144 ?_
                          refine go_i2l dX9_copy_145 ?_
                          refine go_iload 5 rfl dX9_copy_146 ?_
                          refine go_i2l dX9_copy_148 ?_
                          refine go_ladd dX9_copy_149 ?_
                          refine go_aload_n rfl 0 rfl dX9_copy_150 ?_
                          refine h_getr 11 cl7 rfl (by decide) tw_923 63 rfl dX9_copy_151 ?_
                          refine go_iload_n rfl 1 rfl dX9_copy_154 ?_
                          obtain ⟨hg_73, h⟩ := q_g h
                          refine h_iald 8 rfl hg_73 dX9_copy_155 ?_
                          refine go_i2l dX9_copy_156 ?_
                          refine go_lcmp dX9_copy_157 ?_
                          refine go_if_gt (tgt := 179) dX9_copy_158 rfl (fun hc => ?_) (fun hc => ?_)
                          · replace h := q_t h hc
                            refine go_aload_n rfl 0 rfl dX9_copy_179 ?_
                            refine go_bipush kz_bipush_m5 dX9_copy_180 ?_
                            obtain ⟨r_74, h_75, h⟩ := q_b h
                            refine h_callVi (st := []) [.int (-5)] (m_X9_no h_75) me_X9_no (g_recv cl7.1 rfl) tw_1008 tw_1010 tw_23 (hdd_of (by decide)) ⟨Nat.zero_le _, Nat.zero_le _⟩ rfl rfl (Nat.le_of_ble_eq_true rfl) dX9_copy_182 ?_
                            exact h_iret h dX9_copy_185 rfl
                          · replace h := q_f h hc
                            refine go_iload 4 rfl dX9_copy_161 ?_
                            refine go_i2l dX9_copy_163 ?_
                            refine go_iload 5 rfl dX9_copy_164 ?_
                            refine go_i2l dX9_copy_166 ?_
                            refine go_ladd dX9_copy_167 ?_
                            refine go_aload_n rfl 0 rfl dX9_copy_168 ?_
                            refine h_getr 11 cl7 rfl (by decide) tw_923 63 rfl dX9_copy_169 ?_
                            refine go_iload_n rfl 2 rfl dX9_copy_172 ?_
                            obtain ⟨hg_76, h⟩ := q_g h
                            refine h_iald 8 rfl hg_76 dX9_copy_173 ?_
                            refine go_i2l dX9_copy_174 ?_
                            refine go_lcmp dX9_copy_175 ?_
                            refine go_if_le (tgt := 186) dX9_copy_176 rfl (fun hc => ?_) (fun hc => ?_)
                            · replace h := q_t h hc
                              refine go_iload_n rfl 1 rfl dX9_copy_186 ?_
                              refine go_iload_n rfl 2 rfl dX9_copy_187 ?_
                              refine go_icmp_ne (tgt := 248) dX9_copy_188 rfl (fun hc => ?_) (fun hc => ?_)
                              · replace h := q_f h hc
                                refine go_iconst kz_iconst_0 dX9_copy_248 ?_
                                refine go_istore (l' := [(6, .int 0), (0, .ref (ad 53)), (1, .int x1), (2, .int x2), (3, .int x3), (4, .int x4), (5, .int x5)]) dX9_copy_249 (by decide) rfl ?_
                                refine go_sub (l' := [(0, .ref (ad 53)), (1, .int x1), (2, .int x2), (3, .int x3), (4, .int x4), (5, .int x5), (6, .int 0)]) [1, 2, 3, 4, 5, 6, 0] rfl ?_
                                refine m_X9_copy_L251  FU _ _ _ h (fun ν_77 h => ?_)
                                refine go_iconst kz_iconst_1 dX9_copy_295 ?_
                                exact h_iret h dX9_copy_296 rfl
                              · replace h := q_t h hc
                                refine go_iload_n rfl 3 rfl dX9_copy_191 ?_
                                refine go_iload 4 rfl dX9_copy_192 ?_
                                refine go_icmp_ge (tgt := 248) dX9_copy_194 rfl (fun hc => ?_) (fun hc => ?_)
                                · replace h := q_t h hc
                                  refine go_iconst kz_iconst_0 dX9_copy_248 ?_
                                  refine go_istore (l' := [(6, .int 0), (0, .ref (ad 53)), (1, .int x1), (2, .int x2), (3, .int x3), (4, .int x4), (5, .int x5)]) dX9_copy_249 (by decide) rfl ?_
                                  refine go_sub (l' := [(0, .ref (ad 53)), (1, .int x1), (2, .int x2), (3, .int x3), (4, .int x4), (5, .int x5), (6, .int 0)]) [1, 2, 3, 4, 5, 6, 0] rfl ?_
                                  refine m_X9_copy_L251  FU _ _ _ h (fun ν_78 h => ?_)
                                  refine go_iconst kz_iconst_1 dX9_copy_295 ?_
                                  exact h_iret h dX9_copy_296 rfl
                                · replace h := q_f h hc
                                  refine go_iload 5 rfl dX9_copy_197 ?_
                                  refine go_iconst kz_iconst_1 dX9_copy_199 ?_
                                  refine go_isub dX9_copy_200 ?_
                                  refine go_istore (l' := [(6, .int (x5 - 1)), (0, .ref (ad 53)), (1, .int x1), (2, .int x2), (3, .int x3), (4, .int x4), (5, .int x5)]) dX9_copy_201 (by decide) rfl ?_
                                  refine go_sub (l' := [(0, .ref (ad 53)), (1, .int x1), (2, .int x2), (3, .int x3), (4, .int x4), (6, .int (x5 - 1))]) [1, 2, 3, 4, 5, 0] rfl ?_
                                  refine m_X9_copy_L203  FU _ _ _ h (fun ν_79 h => ?_)
                                  refine go_goto (tgt := 295) dX9_copy_245 rfl ?_
                                  refine go_iconst kz_iconst_1 dX9_copy_295 ?_
                                  exact h_iret h dX9_copy_296 rfl
                            · replace h := q_f h hc
                              refine go_aload_n rfl 0 rfl dX9_copy_179 ?_
                              refine go_bipush kz_bipush_m5 dX9_copy_180 ?_
                              obtain ⟨r_80, h_81, h⟩ := q_b h
                              refine h_callVi (st := []) [.int (-5)] (m_X9_no h_81) me_X9_no (g_recv cl7.1 rfl) tw_1008 tw_1010 tw_23 (hdd_of (by decide)) ⟨Nat.zero_le _, Nat.zero_le _⟩ rfl rfl (Nat.le_of_ble_eq_true rfl) dX9_copy_182 ?_
                              exact h_iret h dX9_copy_185 rfl
                    · replace h := q_f h hc
                      refine go_aload_n rfl 0 rfl dX9_copy_128 ?_
                      refine go_bipush kz_bipush_m4 dX9_copy_129 ?_
                      obtain ⟨r_82, h_83, h⟩ := q_b h
                      refine h_callVi (st := []) [.int (-4)] (m_X9_no h_83) me_X9_no (g_recv cl7.1 rfl) tw_1008 tw_1010 tw_23 (hdd_of (by decide)) ⟨Nat.zero_le _, Nat.zero_le _⟩ rfl rfl (Nat.le_of_ble_eq_true rfl) dX9_copy_131 ?_
                      exact h_iret h dX9_copy_134 rfl
                  · replace h := q_f h hc
                    refine go_aload_n rfl 0 rfl dX9_copy_116 ?_
                    refine go_bipush kz_bipush_m3 dX9_copy_117 ?_
                    obtain ⟨r_84, h_85, h⟩ := q_b h
                    refine h_callVi (st := []) [.int (-3)] (m_X9_no h_85) me_X9_no (g_recv cl7.1 rfl) tw_1008 tw_1010 tw_23 (hdd_of (by decide)) ⟨Nat.zero_le _, Nat.zero_le _⟩ rfl rfl (Nat.le_of_ble_eq_true rfl) dX9_copy_119 ?_
                    exact h_iret h dX9_copy_122 rfl
              · replace h := q_f h hc
                refine go_aload_n rfl 0 rfl dX9_copy_91 ?_
                refine go_bipush kz_bipush_m2 dX9_copy_92 ?_
                obtain ⟨r_86, h_87, h⟩ := q_b h
                refine h_callVi (st := []) [.int (-2)] (m_X9_no h_87) me_X9_no (g_recv cl7.1 rfl) tw_1008 tw_1010 tw_23 (hdd_of (by decide)) ⟨Nat.zero_le _, Nat.zero_le _⟩ rfl rfl (Nat.le_of_ble_eq_true rfl) dX9_copy_94 ?_
                exact h_iret h dX9_copy_97 rfl
        · replace h := q_f h hc
          refine go_aload_n rfl 0 rfl dX9_copy_52 ?_
          refine go_iload_n rfl 2 rfl dX9_copy_53 ?_
          obtain ⟨r_88, h_89, h⟩ := q_b h
          refine h_callVi (st := []) [.int x2] (m_X9_isRow h_89) me_X9_isRow (g_recv cl7.1 rfl) tw_1020 tw_1022 tw_25 (hdd_of (by decide)) ⟨Nat.zero_le _, Nat.zero_le _⟩ rfl rfl (Nat.le_of_ble_eq_true rfl) dX9_copy_54 ?_
          refine go_if_eq (tgt := 91) dX9_copy_57 rfl (fun hc => ?_) (fun hc => ?_)
          · replace h := q_t h hc
            refine go_aload_n rfl 0 rfl dX9_copy_91 ?_
            refine go_bipush kz_bipush_m2 dX9_copy_92 ?_
            obtain ⟨r_90, h_91, h⟩ := q_b h
            refine h_callVi (st := []) [.int (-2)] (m_X9_no h_91) me_X9_no (g_recv cl7.1 rfl) tw_1008 tw_1010 tw_23 (hdd_of (by decide)) ⟨Nat.zero_le _, Nat.zero_le _⟩ rfl rfl (Nat.le_of_ble_eq_true rfl) dX9_copy_94 ?_
            exact h_iret h dX9_copy_97 rfl
          · replace h := q_f h hc
            refine go_aload_n rfl 0 rfl dX9_copy_60 ?_
            refine go_iload_n rfl 1 rfl dX9_copy_61 ?_
            obtain ⟨r_92, h_93, h⟩ := q_b h
            refine h_callVi (st := []) [.int x1] (m_X9_isRow h_93) me_X9_isRow (g_recv cl7.1 rfl) tw_1020 tw_1022 tw_25 (hdd_of (by decide)) ⟨Nat.zero_le _, Nat.zero_le _⟩ rfl rfl (Nat.le_of_ble_eq_true rfl) dX9_copy_62 ?_
            refine go_if_eq (tgt := 98) dX9_copy_65 rfl (fun hc => ?_) (fun hc => ?_)
            · replace h := q_t h hc
              refine go_aload_n rfl 0 rfl dX9_copy_98 ?_
              refine h_getr 10 cl7 rfl (by decide) tw_922 62 rfl dX9_copy_99 ?_
              refine go_iload_n rfl 1 rfl dX9_copy_102 ?_
              obtain ⟨hg_94, h⟩ := q_g h
              refine h_iald 8 rfl hg_94 dX9_copy_103 ?_
              refine go_if_lt (tgt := 116) dX9_copy_104 rfl (fun hc => ?_) (fun hc => ?_)
              · replace h := q_t h hc
                refine go_aload_n rfl 0 rfl dX9_copy_116 ?_
                refine go_bipush kz_bipush_m3 dX9_copy_117 ?_
                obtain ⟨r_95, h_96, h⟩ := q_b h
                refine h_callVi (st := []) [.int (-3)] (m_X9_no h_96) me_X9_no (g_recv cl7.1 rfl) tw_1008 tw_1010 tw_23 (hdd_of (by decide)) ⟨Nat.zero_le _, Nat.zero_le _⟩ rfl rfl (Nat.le_of_ble_eq_true rfl) dX9_copy_119 ?_
                exact h_iret h dX9_copy_122 rfl
              · replace h := q_f h hc
                refine go_aload_n rfl 0 rfl dX9_copy_107 ?_
                refine h_getr 10 cl7 rfl (by decide) tw_922 62 rfl dX9_copy_108 ?_
                refine go_iload_n rfl 2 rfl dX9_copy_111 ?_
                obtain ⟨hg_97, h⟩ := q_g h
                refine h_iald 8 rfl hg_97 dX9_copy_112 ?_
                refine go_if_ge (tgt := 123) dX9_copy_113 rfl (fun hc => ?_) (fun hc => ?_)
                · replace h := q_t h hc
                  refine go_iload 5 rfl dX9_copy_123 ?_
                  refine go_if_ge (tgt := 135) dX9_copy_125 rfl (fun hc => ?_) (fun hc => ?_)
                  · replace h := q_t h hc
                    refine go_iload_n rfl 3 rfl dX9_copy_135 ?_
                    refine go_if_lt (tgt := 179) dX9_copy_136 rfl (fun hc => ?_) (fun hc => ?_)
                    · replace h := q_t h hc
                      refine go_aload_n rfl 0 rfl dX9_copy_179 ?_
                      refine go_bipush kz_bipush_m5 dX9_copy_180 ?_
                      obtain ⟨r_98, h_99, h⟩ := q_b h
                      refine h_callVi (st := []) [.int (-5)] (m_X9_no h_99) me_X9_no (g_recv cl7.1 rfl) tw_1008 tw_1010 tw_23 (hdd_of (by decide)) ⟨Nat.zero_le _, Nat.zero_le _⟩ rfl rfl (Nat.le_of_ble_eq_true rfl) dX9_copy_182 ?_
                      exact h_iret h dX9_copy_185 rfl
                    · replace h := q_f h hc
                      refine go_iload 4 rfl dX9_copy_139 ?_
                      refine go_if_lt (tgt := 179) dX9_copy_141 rfl (fun hc => ?_) (fun hc => ?_)
                      · replace h := q_t h hc
                        refine go_aload_n rfl 0 rfl dX9_copy_179 ?_
                        refine go_bipush kz_bipush_m5 dX9_copy_180 ?_
                        obtain ⟨r_100, h_101, h⟩ := q_b h
                        refine h_callVi (st := []) [.int (-5)] (m_X9_no h_101) me_X9_no (g_recv cl7.1 rfl) tw_1008 tw_1010 tw_23 (hdd_of (by decide)) ⟨Nat.zero_le _, Nat.zero_le _⟩ rfl rfl (Nat.le_of_ble_eq_true rfl) dX9_copy_182 ?_
                        exact h_iret h dX9_copy_185 rfl
                      · replace h := q_f h hc
                        refine go_iload_n rfl 3 rfl dX9_copy_144 ?_
                        refine go_i2l dX9_copy_145 ?_
                        refine go_iload 5 rfl dX9_copy_146 ?_
                        refine go_i2l dX9_copy_148 ?_
                        refine go_ladd dX9_copy_149 ?_
                        refine go_aload_n rfl 0 rfl dX9_copy_150 ?_
                        refine h_getr 11 cl7 rfl (by decide) tw_923 63 rfl dX9_copy_151 ?_
                        refine go_iload_n rfl 1 rfl dX9_copy_154 ?_
                        obtain ⟨hg_102, h⟩ := q_g h
                        refine h_iald 8 rfl hg_102 dX9_copy_155 ?_
                        refine go_i2l dX9_copy_156 ?_
                        refine go_lcmp dX9_copy_157 ?_
                        refine go_if_gt (tgt := 179) dX9_copy_158 rfl (fun hc => ?_) (fun hc => ?_)
                        · replace h := q_t h hc
                          refine go_aload_n rfl 0 rfl dX9_copy_179 ?_
                          refine go_bipush kz_bipush_m5 dX9_copy_180 ?_
                          obtain ⟨r_103, h_104, h⟩ := q_b h
                          refine h_callVi (st := []) [.int (-5)] (m_X9_no h_104) me_X9_no (g_recv cl7.1 rfl) tw_1008 tw_1010 tw_23 (hdd_of (by decide)) ⟨Nat.zero_le _, Nat.zero_le _⟩ rfl rfl (Nat.le_of_ble_eq_true rfl) dX9_copy_182 ?_
                          exact h_iret h dX9_copy_185 rfl
                        · replace h := q_f h hc
                          refine go_iload 4 rfl dX9_copy_161 ?_
                          refine go_i2l dX9_copy_163 ?_
                          refine go_iload 5 rfl dX9_copy_164 ?_
                          refine go_i2l dX9_copy_166 ?_
                          refine go_ladd dX9_copy_167 ?_
                          refine go_aload_n rfl 0 rfl dX9_copy_168 ?_
                          refine h_getr 11 cl7 rfl (by decide) tw_923 63 rfl dX9_copy_169 ?_
                          refine go_iload_n rfl 2 rfl dX9_copy_172 ?_
                          obtain ⟨hg_105, h⟩ := q_g h
                          refine h_iald 8 rfl hg_105 dX9_copy_173 ?_
                          refine go_i2l dX9_copy_174 ?_
                          refine go_lcmp dX9_copy_175 ?_
                          refine go_if_le (tgt := 186) dX9_copy_176 rfl (fun hc => ?_) (fun hc => ?_)
                          · replace h := q_t h hc
                            refine go_iload_n rfl 1 rfl dX9_copy_186 ?_
                            refine go_iload_n rfl 2 rfl dX9_copy_187 ?_
                            refine go_icmp_ne (tgt := 248) dX9_copy_188 rfl (fun hc => ?_) (fun hc => ?_)
                            · replace h := q_f h hc
                              refine go_iconst kz_iconst_0 dX9_copy_248 ?_
                              refine go_istore (l' := [(6, .int 0), (0, .ref (ad 53)), (1, .int x1), (2, .int x2), (3, .int x3), (4, .int x4), (5, .int x5)]) dX9_copy_249 (by decide) rfl ?_
                              refine go_sub (l' := [(0, .ref (ad 53)), (1, .int x1), (2, .int x2), (3, .int x3), (4, .int x4), (5, .int x5), (6, .int 0)]) [1, 2, 3, 4, 5, 6, 0] rfl ?_
                              refine m_X9_copy_L251  FU _ _ _ h (fun ν_106 h => ?_)
                              refine go_iconst kz_iconst_1 dX9_copy_295 ?_
                              exact h_iret h dX9_copy_296 rfl
                            · replace h := q_t h hc
                              refine go_iload_n rfl 3 rfl dX9_copy_191 ?_
                              refine go_iload 4 rfl dX9_copy_192 ?_
                              refine go_icmp_ge (tgt := 248) dX9_copy_194 rfl (fun hc => ?_) (fun hc => ?_)
                              · replace h := q_t h hc
                                refine go_iconst kz_iconst_0 dX9_copy_248 ?_
                                refine go_istore (l' := [(6, .int 0), (0, .ref (ad 53)), (1, .int x1), (2, .int x2), (3, .int x3), (4, .int x4), (5, .int x5)]) dX9_copy_249 (by decide) rfl ?_
                                refine go_sub (l' := [(0, .ref (ad 53)), (1, .int x1), (2, .int x2), (3, .int x3), (4, .int x4), (5, .int x5), (6, .int 0)]) [1, 2, 3, 4, 5, 6, 0] rfl ?_
                                refine m_X9_copy_L251  FU _ _ _ h (fun ν_107 h => ?_)
                                refine go_iconst kz_iconst_1 dX9_copy_295 ?_
                                exact h_iret h dX9_copy_296 rfl
                              · replace h := q_f h hc
                                refine go_iload 5 rfl dX9_copy_197 ?_
                                refine go_iconst kz_iconst_1 dX9_copy_199 ?_
                                refine go_isub dX9_copy_200 ?_
                                refine go_istore (l' := [(6, .int (x5 - 1)), (0, .ref (ad 53)), (1, .int x1), (2, .int x2), (3, .int x3), (4, .int x4), (5, .int x5)]) dX9_copy_201 (by decide) rfl ?_
                                refine go_sub (l' := [(0, .ref (ad 53)), (1, .int x1), (2, .int x2), (3, .int x3), (4, .int x4), (6, .int (x5 - 1))]) [1, 2, 3, 4, 5, 0] rfl ?_
                                refine m_X9_copy_L203  FU _ _ _ h (fun ν_108 h => ?_)
                                refine go_goto (tgt := 295) dX9_copy_245 rfl ?_
                                refine go_iconst kz_iconst_1 dX9_copy_295 ?_
                                exact h_iret h dX9_copy_296 rfl
                          · replace h := q_f h hc
                            refine go_aload_n rfl 0 rfl dX9_copy_179 ?_
                            refine go_bipush kz_bipush_m5 dX9_copy_180 ?_
                            obtain ⟨r_109, h_110, h⟩ := q_b h
                            refine h_callVi (st := []) [.int (-5)] (m_X9_no h_110) me_X9_no (g_recv cl7.1 rfl) tw_1008 tw_1010 tw_23 (hdd_of (by decide)) ⟨Nat.zero_le _, Nat.zero_le _⟩ rfl rfl (Nat.le_of_ble_eq_true rfl) dX9_copy_182 ?_
                            exact h_iret h dX9_copy_185 rfl
                  · replace h := q_f h hc
                    refine go_aload_n rfl 0 rfl dX9_copy_128 ?_
                    refine go_bipush kz_bipush_m4 dX9_copy_129 ?_
                    obtain ⟨r_111, h_112, h⟩ := q_b h
                    refine h_callVi (st := []) [.int (-4)] (m_X9_no h_112) me_X9_no (g_recv cl7.1 rfl) tw_1008 tw_1010 tw_23 (hdd_of (by decide)) ⟨Nat.zero_le _, Nat.zero_le _⟩ rfl rfl (Nat.le_of_ble_eq_true rfl) dX9_copy_131 ?_
                    exact h_iret h dX9_copy_134 rfl
                · replace h := q_f h hc
                  refine go_aload_n rfl 0 rfl dX9_copy_116 ?_
                  refine go_bipush kz_bipush_m3 dX9_copy_117 ?_
                  obtain ⟨r_113, h_114, h⟩ := q_b h
                  refine h_callVi (st := []) [.int (-3)] (m_X9_no h_114) me_X9_no (g_recv cl7.1 rfl) tw_1008 tw_1010 tw_23 (hdd_of (by decide)) ⟨Nat.zero_le _, Nat.zero_le _⟩ rfl rfl (Nat.le_of_ble_eq_true rfl) dX9_copy_119 ?_
                  exact h_iret h dX9_copy_122 rfl
            · replace h := q_f h hc
              refine go_aload_n rfl 0 rfl dX9_copy_68 ?_
              refine go_iload_n rfl 2 rfl dX9_copy_69 ?_
              obtain ⟨r_115, h_116, h⟩ := q_b h
              refine h_callVi (st := []) [.int x2] (m_X9_isRow h_116) me_X9_isRow (g_recv cl7.1 rfl) tw_1020 tw_1022 tw_25 (hdd_of (by decide)) ⟨Nat.zero_le _, Nat.zero_le _⟩ rfl rfl (Nat.le_of_ble_eq_true rfl) dX9_copy_70 ?_
              refine go_if_eq (tgt := 98) dX9_copy_73 rfl (fun hc => ?_) (fun hc => ?_)
              · replace h := q_t h hc
                refine go_aload_n rfl 0 rfl dX9_copy_98 ?_
                refine h_getr 10 cl7 rfl (by decide) tw_922 62 rfl dX9_copy_99 ?_
                refine go_iload_n rfl 1 rfl dX9_copy_102 ?_
                obtain ⟨hg_117, h⟩ := q_g h
                refine h_iald 8 rfl hg_117 dX9_copy_103 ?_
                refine go_if_lt (tgt := 116) dX9_copy_104 rfl (fun hc => ?_) (fun hc => ?_)
                · replace h := q_t h hc
                  refine go_aload_n rfl 0 rfl dX9_copy_116 ?_
                  refine go_bipush kz_bipush_m3 dX9_copy_117 ?_
                  obtain ⟨r_118, h_119, h⟩ := q_b h
                  refine h_callVi (st := []) [.int (-3)] (m_X9_no h_119) me_X9_no (g_recv cl7.1 rfl) tw_1008 tw_1010 tw_23 (hdd_of (by decide)) ⟨Nat.zero_le _, Nat.zero_le _⟩ rfl rfl (Nat.le_of_ble_eq_true rfl) dX9_copy_119 ?_
                  exact h_iret h dX9_copy_122 rfl
                · replace h := q_f h hc
                  refine go_aload_n rfl 0 rfl dX9_copy_107 ?_
                  refine h_getr 10 cl7 rfl (by decide) tw_922 62 rfl dX9_copy_108 ?_
                  refine go_iload_n rfl 2 rfl dX9_copy_111 ?_
                  obtain ⟨hg_120, h⟩ := q_g h
                  refine h_iald 8 rfl hg_120 dX9_copy_112 ?_
                  refine go_if_ge (tgt := 123) dX9_copy_113 rfl (fun hc => ?_) (fun hc => ?_)
                  · replace h := q_t h hc
                    refine go_iload 5 rfl dX9_copy_123 ?_
                    refine go_if_ge (tgt := 135) dX9_copy_125 rfl (fun hc => ?_) (fun hc => ?_)
                    · replace h := q_t h hc
                      refine go_iload_n rfl 3 rfl dX9_copy_135 ?_
                      refine go_if_lt (tgt := 179) dX9_copy_136 rfl (fun hc => ?_) (fun hc => ?_)
                      · replace h := q_t h hc
                        refine go_aload_n rfl 0 rfl dX9_copy_179 ?_
                        refine go_bipush kz_bipush_m5 dX9_copy_180 ?_
                        obtain ⟨r_121, h_122, h⟩ := q_b h
                        refine h_callVi (st := []) [.int (-5)] (m_X9_no h_122) me_X9_no (g_recv cl7.1 rfl) tw_1008 tw_1010 tw_23 (hdd_of (by decide)) ⟨Nat.zero_le _, Nat.zero_le _⟩ rfl rfl (Nat.le_of_ble_eq_true rfl) dX9_copy_182 ?_
                        exact h_iret h dX9_copy_185 rfl
                      · replace h := q_f h hc
                        refine go_iload 4 rfl dX9_copy_139 ?_
                        refine go_if_lt (tgt := 179) dX9_copy_141 rfl (fun hc => ?_) (fun hc => ?_)
                        · replace h := q_t h hc
                          refine go_aload_n rfl 0 rfl dX9_copy_179 ?_
                          refine go_bipush kz_bipush_m5 dX9_copy_180 ?_
                          obtain ⟨r_123, h_124, h⟩ := q_b h
                          refine h_callVi (st := []) [.int (-5)] (m_X9_no h_124) me_X9_no (g_recv cl7.1 rfl) tw_1008 tw_1010 tw_23 (hdd_of (by decide)) ⟨Nat.zero_le _, Nat.zero_le _⟩ rfl rfl (Nat.le_of_ble_eq_true rfl) dX9_copy_182 ?_
                          exact h_iret h dX9_copy_185 rfl
                        · replace h := q_f h hc
                          refine go_iload_n rfl 3 rfl dX9_copy_144 ?_
                          refine go_i2l dX9_copy_145 ?_
                          refine go_iload 5 rfl dX9_copy_146 ?_
                          refine go_i2l dX9_copy_148 ?_
                          refine go_ladd dX9_copy_149 ?_
                          refine go_aload_n rfl 0 rfl dX9_copy_150 ?_
                          refine h_getr 11 cl7 rfl (by decide) tw_923 63 rfl dX9_copy_151 ?_
                          refine go_iload_n rfl 1 rfl dX9_copy_154 ?_
                          obtain ⟨hg_125, h⟩ := q_g h
                          refine h_iald 8 rfl hg_125 dX9_copy_155 ?_
                          refine go_i2l dX9_copy_156 ?_
                          refine go_lcmp dX9_copy_157 ?_
                          refine go_if_gt (tgt := 179) dX9_copy_158 rfl (fun hc => ?_) (fun hc => ?_)
                          · replace h := q_t h hc
                            refine go_aload_n rfl 0 rfl dX9_copy_179 ?_
                            refine go_bipush kz_bipush_m5 dX9_copy_180 ?_
                            obtain ⟨r_126, h_127, h⟩ := q_b h
                            refine h_callVi (st := []) [.int (-5)] (m_X9_no h_127) me_X9_no (g_recv cl7.1 rfl) tw_1008 tw_1010 tw_23 (hdd_of (by decide)) ⟨Nat.zero_le _, Nat.zero_le _⟩ rfl rfl (Nat.le_of_ble_eq_true rfl) dX9_copy_182 ?_
                            exact h_iret h dX9_copy_185 rfl
                          · replace h := q_f h hc
                            refine go_iload 4 rfl dX9_copy_161 ?_
                            refine go_i2l dX9_copy_163 ?_
                            refine go_iload 5 rfl dX9_copy_164 ?_
                            refine go_i2l dX9_copy_166 ?_
                            refine go_ladd dX9_copy_167 ?_
                            refine go_aload_n rfl 0 rfl dX9_copy_168 ?_
                            refine h_getr 11 cl7 rfl (by decide) tw_923 63 rfl dX9_copy_169 ?_
                            refine go_iload_n rfl 2 rfl dX9_copy_172 ?_
                            obtain ⟨hg_128, h⟩ := q_g h
                            refine h_iald 8 rfl hg_128 dX9_copy_173 ?_
                            refine go_i2l dX9_copy_174 ?_
                            refine go_lcmp dX9_copy_175 ?_
                            refine go_if_le (tgt := 186) dX9_copy_176 rfl (fun hc => ?_) (fun hc => ?_)
                            · replace h := q_t h hc
                              refine go_iload_n rfl 1 rfl dX9_copy_186 ?_
                              refine go_iload_n rfl 2 rfl dX9_copy_187 ?_
                              refine go_icmp_ne (tgt := 248) dX9_copy_188 rfl (fun hc => ?_) (fun hc => ?_)
                              · replace h := q_f h hc
                                refine go_iconst kz_iconst_0 dX9_copy_248 ?_
                                refine go_istore (l' := [(6, .int 0), (0, .ref (ad 53)), (1, .int x1), (2, .int x2), (3, .int x3), (4, .int x4), (5, .int x5)]) dX9_copy_249 (by decide) rfl ?_
                                refine go_sub (l' := [(0, .ref (ad 53)), (1, .int x1), (2, .int x2), (3, .int x3), (4, .int x4), (5, .int x5), (6, .int 0)]) [1, 2, 3, 4, 5, 6, 0] rfl ?_
                                refine m_X9_copy_L251  FU _ _ _ h (fun ν_129 h => ?_)
                                refine go_iconst kz_iconst_1 dX9_copy_295 ?_
                                exact h_iret h dX9_copy_296 rfl
                              · replace h := q_t h hc
                                refine go_iload_n rfl 3 rfl dX9_copy_191 ?_
                                refine go_iload 4 rfl dX9_copy_192 ?_
                                refine go_icmp_ge (tgt := 248) dX9_copy_194 rfl (fun hc => ?_) (fun hc => ?_)
                                · replace h := q_t h hc
                                  refine go_iconst kz_iconst_0 dX9_copy_248 ?_
                                  refine go_istore (l' := [(6, .int 0), (0, .ref (ad 53)), (1, .int x1), (2, .int x2), (3, .int x3), (4, .int x4), (5, .int x5)]) dX9_copy_249 (by decide) rfl ?_
                                  refine go_sub (l' := [(0, .ref (ad 53)), (1, .int x1), (2, .int x2), (3, .int x3), (4, .int x4), (5, .int x5), (6, .int 0)]) [1, 2, 3, 4, 5, 6, 0] rfl ?_
                                  refine m_X9_copy_L251  FU _ _ _ h (fun ν_130 h => ?_)
                                  refine go_iconst kz_iconst_1 dX9_copy_295 ?_
                                  exact h_iret h dX9_copy_296 rfl
                                · replace h := q_f h hc
                                  refine go_iload 5 rfl dX9_copy_197 ?_
                                  refine go_iconst kz_iconst_1 dX9_copy_199 ?_
                                  refine go_isub dX9_copy_200 ?_
                                  refine go_istore (l' := [(6, .int (x5 - 1)), (0, .ref (ad 53)), (1, .int x1), (2, .int x2), (3, .int x3), (4, .int x4), (5, .int x5)]) dX9_copy_201 (by decide) rfl ?_
                                  refine go_sub (l' := [(0, .ref (ad 53)), (1, .int x1), (2, .int x2), (3, .int x3), (4, .int x4), (6, .int (x5 - 1))]) [1, 2, 3, 4, 5, 0] rfl ?_
                                  refine m_X9_copy_L203  FU _ _ _ h (fun ν_131 h => ?_)
                                  refine go_goto (tgt := 295) dX9_copy_245 rfl ?_
                                  refine go_iconst kz_iconst_1 dX9_copy_295 ?_
                                  exact h_iret h dX9_copy_296 rfl
                            · replace h := q_f h hc
                              refine go_aload_n rfl 0 rfl dX9_copy_179 ?_
                              refine go_bipush kz_bipush_m5 dX9_copy_180 ?_
                              obtain ⟨r_132, h_133, h⟩ := q_b h
                              refine h_callVi (st := []) [.int (-5)] (m_X9_no h_133) me_X9_no (g_recv cl7.1 rfl) tw_1008 tw_1010 tw_23 (hdd_of (by decide)) ⟨Nat.zero_le _, Nat.zero_le _⟩ rfl rfl (Nat.le_of_ble_eq_true rfl) dX9_copy_182 ?_
                              exact h_iret h dX9_copy_185 rfl
                    · replace h := q_f h hc
                      refine go_aload_n rfl 0 rfl dX9_copy_128 ?_
                      refine go_bipush kz_bipush_m4 dX9_copy_129 ?_
                      obtain ⟨r_134, h_135, h⟩ := q_b h
                      refine h_callVi (st := []) [.int (-4)] (m_X9_no h_135) me_X9_no (g_recv cl7.1 rfl) tw_1008 tw_1010 tw_23 (hdd_of (by decide)) ⟨Nat.zero_le _, Nat.zero_le _⟩ rfl rfl (Nat.le_of_ble_eq_true rfl) dX9_copy_131 ?_
                      exact h_iret h dX9_copy_134 rfl
                  · replace h := q_f h hc
                    refine go_aload_n rfl 0 rfl dX9_copy_116 ?_
                    refine go_bipush kz_bipush_m3 dX9_copy_117 ?_
                    obtain ⟨r_136, h_137, h⟩ := q_b h
                    refine h_callVi (st := []) [.int (-3)] (m_X9_no h_137) me_X9_no (g_recv cl7.1 rfl) tw_1008 tw_1010 tw_23 (hdd_of (by decide)) ⟨Nat.zero_le _, Nat.zero_le _⟩ rfl rfl (Nat.le_of_ble_eq_true rfl) dX9_copy_119 ?_
                    exact h_iret h dX9_copy_122 rfl
              · replace h := q_f h hc
                refine go_aload_n rfl 0 rfl dX9_copy_76 ?_
                refine h_getr 10 cl7 rfl (by decide) tw_922 62 rfl dX9_copy_77 ?_
                refine go_iload_n rfl 1 rfl dX9_copy_80 ?_
                obtain ⟨hg_138, h⟩ := q_g h
                refine h_iald 8 rfl hg_138 dX9_copy_81 ?_
                refine go_aload_n rfl 0 rfl dX9_copy_82 ?_
                refine h_getr 10 cl7 rfl (by decide) tw_922 62 rfl dX9_copy_83 ?_
                refine go_iload_n rfl 2 rfl dX9_copy_86 ?_
                obtain ⟨hg_139, h⟩ := q_g h
                refine h_iald 8 rfl hg_139 dX9_copy_87 ?_
                refine go_icmp_eq (tgt := 98) dX9_copy_88 rfl (fun hc => ?_) (fun hc => ?_)
                · replace h := q_t h hc
                  refine go_aload_n rfl 0 rfl dX9_copy_98 ?_
                  refine h_getr 10 cl7 rfl (by decide) tw_922 62 rfl dX9_copy_99 ?_
                  refine go_iload_n rfl 1 rfl dX9_copy_102 ?_
                  obtain ⟨hg_140, h⟩ := q_g h
                  refine h_iald 8 rfl hg_140 dX9_copy_103 ?_
                  refine go_if_lt (tgt := 116) dX9_copy_104 rfl (fun hc => ?_) (fun hc => ?_)
                  · replace h := q_t h hc
                    refine go_aload_n rfl 0 rfl dX9_copy_116 ?_
                    refine go_bipush kz_bipush_m3 dX9_copy_117 ?_
                    obtain ⟨r_141, h_142, h⟩ := q_b h
                    refine h_callVi (st := []) [.int (-3)] (m_X9_no h_142) me_X9_no (g_recv cl7.1 rfl) tw_1008 tw_1010 tw_23 (hdd_of (by decide)) ⟨Nat.zero_le _, Nat.zero_le _⟩ rfl rfl (Nat.le_of_ble_eq_true rfl) dX9_copy_119 ?_
                    exact h_iret h dX9_copy_122 rfl
                  · replace h := q_f h hc
                    refine go_aload_n rfl 0 rfl dX9_copy_107 ?_
                    refine h_getr 10 cl7 rfl (by decide) tw_922 62 rfl dX9_copy_108 ?_
                    refine go_iload_n rfl 2 rfl dX9_copy_111 ?_
                    obtain ⟨hg_143, h⟩ := q_g h
                    refine h_iald 8 rfl hg_143 dX9_copy_112 ?_
                    refine go_if_ge (tgt := 123) dX9_copy_113 rfl (fun hc => ?_) (fun hc => ?_)
                    · replace h := q_t h hc
                      refine go_iload 5 rfl dX9_copy_123 ?_
                      refine go_if_ge (tgt := 135) dX9_copy_125 rfl (fun hc => ?_) (fun hc => ?_)
                      · replace h := q_t h hc
                        refine go_iload_n rfl 3 rfl dX9_copy_135 ?_
                        refine go_if_lt (tgt := 179) dX9_copy_136 rfl (fun hc => ?_) (fun hc => ?_)
                        · replace h := q_t h hc
                          refine go_aload_n rfl 0 rfl dX9_copy_179 ?_
                          refine go_bipush kz_bipush_m5 dX9_copy_180 ?_
                          obtain ⟨r_144, h_145, h⟩ := q_b h
                          refine h_callVi (st := []) [.int (-5)] (m_X9_no h_145) me_X9_no (g_recv cl7.1 rfl) tw_1008 tw_1010 tw_23 (hdd_of (by decide)) ⟨Nat.zero_le _, Nat.zero_le _⟩ rfl rfl (Nat.le_of_ble_eq_true rfl) dX9_copy_182 ?_
                          exact h_iret h dX9_copy_185 rfl
                        · replace h := q_f h hc
                          refine go_iload 4 rfl dX9_copy_139 ?_
                          refine go_if_lt (tgt := 179) dX9_copy_141 rfl (fun hc => ?_) (fun hc => ?_)
                          · replace h := q_t h hc
                            refine go_aload_n rfl 0 rfl dX9_copy_179 ?_
                            refine go_bipush kz_bipush_m5 dX9_copy_180 ?_
                            obtain ⟨r_146, h_147, h⟩ := q_b h
                            refine h_callVi (st := []) [.int (-5)] (m_X9_no h_147) me_X9_no (g_recv cl7.1 rfl) tw_1008 tw_1010 tw_23 (hdd_of (by decide)) ⟨Nat.zero_le _, Nat.zero_le _⟩ rfl rfl (Nat.le_of_ble_eq_true rfl) dX9_copy_182 ?_
                            exact h_iret h dX9_copy_185 rfl
                          · replace h := q_f h hc
                            refine go_iload_n rfl 3 rfl dX9_copy_144 ?_
                            refine go_i2l dX9_copy_145 ?_
                            refine go_iload 5 rfl dX9_copy_146 ?_
                            refine go_i2l dX9_copy_148 ?_
                            refine go_ladd dX9_copy_149 ?_
                            refine go_aload_n rfl 0 rfl dX9_copy_150 ?_
                            refine h_getr 11 cl7 rfl (by decide) tw_923 63 rfl dX9_copy_151 ?_
                            refine go_iload_n rfl 1 rfl dX9_copy_154 ?_
                            obtain ⟨hg_148, h⟩ := q_g h
                            refine h_iald 8 rfl hg_148 dX9_copy_155 ?_
                            refine go_i2l dX9_copy_156 ?_
                            refine go_lcmp dX9_copy_157 ?_
                            refine go_if_gt (tgt := 179) dX9_copy_158 rfl (fun hc => ?_) (fun hc => ?_)
                            · replace h := q_t h hc
                              refine go_aload_n rfl 0 rfl dX9_copy_179 ?_
                              refine go_bipush kz_bipush_m5 dX9_copy_180 ?_
                              obtain ⟨r_149, h_150, h⟩ := q_b h
                              refine h_callVi (st := []) [.int (-5)] (m_X9_no h_150) me_X9_no (g_recv cl7.1 rfl) tw_1008 tw_1010 tw_23 (hdd_of (by decide)) ⟨Nat.zero_le _, Nat.zero_le _⟩ rfl rfl (Nat.le_of_ble_eq_true rfl) dX9_copy_182 ?_
                              exact h_iret h dX9_copy_185 rfl
                            · replace h := q_f h hc
                              refine go_iload 4 rfl dX9_copy_161 ?_
                              refine go_i2l dX9_copy_163 ?_
                              refine go_iload 5 rfl dX9_copy_164 ?_
                              refine go_i2l dX9_copy_166 ?_
                              refine go_ladd dX9_copy_167 ?_
                              refine go_aload_n rfl 0 rfl dX9_copy_168 ?_
                              refine h_getr 11 cl7 rfl (by decide) tw_923 63 rfl dX9_copy_169 ?_
                              refine go_iload_n rfl 2 rfl dX9_copy_172 ?_
                              obtain ⟨hg_151, h⟩ := q_g h
                              refine h_iald 8 rfl hg_151 dX9_copy_173 ?_
                              refine go_i2l dX9_copy_174 ?_
                              refine go_lcmp dX9_copy_175 ?_
                              refine go_if_le (tgt := 186) dX9_copy_176 rfl (fun hc => ?_) (fun hc => ?_)
                              · replace h := q_t h hc
                                refine go_iload_n rfl 1 rfl dX9_copy_186 ?_
                                refine go_iload_n rfl 2 rfl dX9_copy_187 ?_
                                refine go_icmp_ne (tgt := 248) dX9_copy_188 rfl (fun hc => ?_) (fun hc => ?_)
                                · replace h := q_f h hc
                                  refine go_iconst kz_iconst_0 dX9_copy_248 ?_
                                  refine go_istore (l' := [(6, .int 0), (0, .ref (ad 53)), (1, .int x1), (2, .int x2), (3, .int x3), (4, .int x4), (5, .int x5)]) dX9_copy_249 (by decide) rfl ?_
                                  refine go_sub (l' := [(0, .ref (ad 53)), (1, .int x1), (2, .int x2), (3, .int x3), (4, .int x4), (5, .int x5), (6, .int 0)]) [1, 2, 3, 4, 5, 6, 0] rfl ?_
                                  refine m_X9_copy_L251  FU _ _ _ h (fun ν_152 h => ?_)
                                  refine go_iconst kz_iconst_1 dX9_copy_295 ?_
                                  exact h_iret h dX9_copy_296 rfl
                                · replace h := q_t h hc
                                  refine go_iload_n rfl 3 rfl dX9_copy_191 ?_
                                  refine go_iload 4 rfl dX9_copy_192 ?_
                                  refine go_icmp_ge (tgt := 248) dX9_copy_194 rfl (fun hc => ?_) (fun hc => ?_)
                                  · replace h := q_t h hc
                                    refine go_iconst kz_iconst_0 dX9_copy_248 ?_
                                    refine go_istore (l' := [(6, .int 0), (0, .ref (ad 53)), (1, .int x1), (2, .int x2), (3, .int x3), (4, .int x4), (5, .int x5)]) dX9_copy_249 (by decide) rfl ?_
                                    refine go_sub (l' := [(0, .ref (ad 53)), (1, .int x1), (2, .int x2), (3, .int x3), (4, .int x4), (5, .int x5), (6, .int 0)]) [1, 2, 3, 4, 5, 6, 0] rfl ?_
                                    refine m_X9_copy_L251  FU _ _ _ h (fun ν_153 h => ?_)
                                    refine go_iconst kz_iconst_1 dX9_copy_295 ?_
                                    exact h_iret h dX9_copy_296 rfl
                                  · replace h := q_f h hc
                                    refine go_iload 5 rfl dX9_copy_197 ?_
                                    refine go_iconst kz_iconst_1 dX9_copy_199 ?_
                                    refine go_isub dX9_copy_200 ?_
                                    refine go_istore (l' := [(6, .int (x5 - 1)), (0, .ref (ad 53)), (1, .int x1), (2, .int x2), (3, .int x3), (4, .int x4), (5, .int x5)]) dX9_copy_201 (by decide) rfl ?_
                                    refine go_sub (l' := [(0, .ref (ad 53)), (1, .int x1), (2, .int x2), (3, .int x3), (4, .int x4), (6, .int (x5 - 1))]) [1, 2, 3, 4, 5, 0] rfl ?_
                                    refine m_X9_copy_L203  FU _ _ _ h (fun ν_154 h => ?_)
                                    refine go_goto (tgt := 295) dX9_copy_245 rfl ?_
                                    refine go_iconst kz_iconst_1 dX9_copy_295 ?_
                                    exact h_iret h dX9_copy_296 rfl
                              · replace h := q_f h hc
                                refine go_aload_n rfl 0 rfl dX9_copy_179 ?_
                                refine go_bipush kz_bipush_m5 dX9_copy_180 ?_
                                obtain ⟨r_155, h_156, h⟩ := q_b h
                                refine h_callVi (st := []) [.int (-5)] (m_X9_no h_156) me_X9_no (g_recv cl7.1 rfl) tw_1008 tw_1010 tw_23 (hdd_of (by decide)) ⟨Nat.zero_le _, Nat.zero_le _⟩ rfl rfl (Nat.le_of_ble_eq_true rfl) dX9_copy_182 ?_
                                exact h_iret h dX9_copy_185 rfl
                      · replace h := q_f h hc
                        refine go_aload_n rfl 0 rfl dX9_copy_128 ?_
                        refine go_bipush kz_bipush_m4 dX9_copy_129 ?_
                        obtain ⟨r_157, h_158, h⟩ := q_b h
                        refine h_callVi (st := []) [.int (-4)] (m_X9_no h_158) me_X9_no (g_recv cl7.1 rfl) tw_1008 tw_1010 tw_23 (hdd_of (by decide)) ⟨Nat.zero_le _, Nat.zero_le _⟩ rfl rfl (Nat.le_of_ble_eq_true rfl) dX9_copy_131 ?_
                        exact h_iret h dX9_copy_134 rfl
                    · replace h := q_f h hc
                      refine go_aload_n rfl 0 rfl dX9_copy_116 ?_
                      refine go_bipush kz_bipush_m3 dX9_copy_117 ?_
                      obtain ⟨r_159, h_160, h⟩ := q_b h
                      refine h_callVi (st := []) [.int (-3)] (m_X9_no h_160) me_X9_no (g_recv cl7.1 rfl) tw_1008 tw_1010 tw_23 (hdd_of (by decide)) ⟨Nat.zero_le _, Nat.zero_le _⟩ rfl rfl (Nat.le_of_ble_eq_true rfl) dX9_copy_119 ?_
                      exact h_iret h dX9_copy_122 rfl
                · replace h := q_f h hc
                  refine go_aload_n rfl 0 rfl dX9_copy_91 ?_
                  refine go_bipush kz_bipush_m2 dX9_copy_92 ?_
                  obtain ⟨r_161, h_162, h⟩ := q_b h
                  refine h_callVi (st := []) [.int (-2)] (m_X9_no h_162) me_X9_no (g_recv cl7.1 rfl) tw_1008 tw_1010 tw_23 (hdd_of (by decide)) ⟨Nat.zero_le _, Nat.zero_le _⟩ rfl rfl (Nat.le_of_ble_eq_true rfl) dX9_copy_94 ?_
                  exact h_iret h dX9_copy_97 rfl
      · replace h := q_f h hc
        refine go_aload_n rfl 0 rfl dX9_copy_35 ?_
        refine go_iload_n rfl 1 rfl dX9_copy_36 ?_
        obtain ⟨r_163, h_164, h⟩ := q_b h
        refine h_callVi (st := []) [.int x1] (m_X9_isRow h_164) me_X9_isRow (g_recv cl7.1 rfl) tw_1020 tw_1022 tw_25 (hdd_of (by decide)) ⟨Nat.zero_le _, Nat.zero_le _⟩ rfl rfl (Nat.le_of_ble_eq_true rfl) dX9_copy_37 ?_
        refine go_if_eq (tgt := 91) dX9_copy_40 rfl (fun hc => ?_) (fun hc => ?_)
        · replace h := q_t h hc
          refine go_aload_n rfl 0 rfl dX9_copy_91 ?_
          refine go_bipush kz_bipush_m2 dX9_copy_92 ?_
          obtain ⟨r_165, h_166, h⟩ := q_b h
          refine h_callVi (st := []) [.int (-2)] (m_X9_no h_166) me_X9_no (g_recv cl7.1 rfl) tw_1008 tw_1010 tw_23 (hdd_of (by decide)) ⟨Nat.zero_le _, Nat.zero_le _⟩ rfl rfl (Nat.le_of_ble_eq_true rfl) dX9_copy_94 ?_
          exact h_iret h dX9_copy_97 rfl
        · replace h := q_f h hc
          refine go_aload_n rfl 0 rfl dX9_copy_43 ?_
          refine h_getr 10 cl7 rfl (by decide) tw_922 62 rfl dX9_copy_44 ?_
          refine go_iload_n rfl 2 rfl dX9_copy_47 ?_
          obtain ⟨hg_167, h⟩ := q_g h
          refine h_iald 8 rfl hg_167 dX9_copy_48 ?_
          refine go_if_lt (tgt := 60) dX9_copy_49 rfl (fun hc => ?_) (fun hc => ?_)
          · replace h := q_t h hc
            refine go_aload_n rfl 0 rfl dX9_copy_60 ?_
            refine go_iload_n rfl 1 rfl dX9_copy_61 ?_
            obtain ⟨r_168, h_169, h⟩ := q_b h
            refine h_callVi (st := []) [.int x1] (m_X9_isRow h_169) me_X9_isRow (g_recv cl7.1 rfl) tw_1020 tw_1022 tw_25 (hdd_of (by decide)) ⟨Nat.zero_le _, Nat.zero_le _⟩ rfl rfl (Nat.le_of_ble_eq_true rfl) dX9_copy_62 ?_
            refine go_if_eq (tgt := 98) dX9_copy_65 rfl (fun hc => ?_) (fun hc => ?_)
            · replace h := q_t h hc
              refine go_aload_n rfl 0 rfl dX9_copy_98 ?_
              refine h_getr 10 cl7 rfl (by decide) tw_922 62 rfl dX9_copy_99 ?_
              refine go_iload_n rfl 1 rfl dX9_copy_102 ?_
              obtain ⟨hg_170, h⟩ := q_g h
              refine h_iald 8 rfl hg_170 dX9_copy_103 ?_
              refine go_if_lt (tgt := 116) dX9_copy_104 rfl (fun hc => ?_) (fun hc => ?_)
              · replace h := q_t h hc
                refine go_aload_n rfl 0 rfl dX9_copy_116 ?_
                refine go_bipush kz_bipush_m3 dX9_copy_117 ?_
                obtain ⟨r_171, h_172, h⟩ := q_b h
                refine h_callVi (st := []) [.int (-3)] (m_X9_no h_172) me_X9_no (g_recv cl7.1 rfl) tw_1008 tw_1010 tw_23 (hdd_of (by decide)) ⟨Nat.zero_le _, Nat.zero_le _⟩ rfl rfl (Nat.le_of_ble_eq_true rfl) dX9_copy_119 ?_
                exact h_iret h dX9_copy_122 rfl
              · replace h := q_f h hc
                refine go_aload_n rfl 0 rfl dX9_copy_107 ?_
                refine h_getr 10 cl7 rfl (by decide) tw_922 62 rfl dX9_copy_108 ?_
                refine go_iload_n rfl 2 rfl dX9_copy_111 ?_
                obtain ⟨hg_173, h⟩ := q_g h
                refine h_iald 8 rfl hg_173 dX9_copy_112 ?_
                refine go_if_ge (tgt := 123) dX9_copy_113 rfl (fun hc => ?_) (fun hc => ?_)
                · replace h := q_t h hc
                  refine go_iload 5 rfl dX9_copy_123 ?_
                  refine go_if_ge (tgt := 135) dX9_copy_125 rfl (fun hc => ?_) (fun hc => ?_)
                  · replace h := q_t h hc
                    refine go_iload_n rfl 3 rfl dX9_copy_135 ?_
                    refine go_if_lt (tgt := 179) dX9_copy_136 rfl (fun hc => ?_) (fun hc => ?_)
                    · replace h := q_t h hc
                      refine go_aload_n rfl 0 rfl dX9_copy_179 ?_
                      refine go_bipush kz_bipush_m5 dX9_copy_180 ?_
                      obtain ⟨r_174, h_175, h⟩ := q_b h
                      refine h_callVi (st := []) [.int (-5)] (m_X9_no h_175) me_X9_no (g_recv cl7.1 rfl) tw_1008 tw_1010 tw_23 (hdd_of (by decide)) ⟨Nat.zero_le _, Nat.zero_le _⟩ rfl rfl (Nat.le_of_ble_eq_true rfl) dX9_copy_182 ?_
                      exact h_iret h dX9_copy_185 rfl
                    · replace h := q_f h hc
                      refine go_iload 4 rfl dX9_copy_139 ?_
                      refine go_if_lt (tgt := 179) dX9_copy_141 rfl (fun hc => ?_) (fun hc => ?_)
                      · replace h := q_t h hc
                        refine go_aload_n rfl 0 rfl dX9_copy_179 ?_
                        refine go_bipush kz_bipush_m5 dX9_copy_180 ?_
                        obtain ⟨r_176, h_177, h⟩ := q_b h
                        refine h_callVi (st := []) [.int (-5)] (m_X9_no h_177) me_X9_no (g_recv cl7.1 rfl) tw_1008 tw_1010 tw_23 (hdd_of (by decide)) ⟨Nat.zero_le _, Nat.zero_le _⟩ rfl rfl (Nat.le_of_ble_eq_true rfl) dX9_copy_182 ?_
                        exact h_iret h dX9_copy_185 rfl
                      · replace h := q_f h hc
                        refine go_iload_n rfl 3 rfl dX9_copy_144 ?_
                        refine go_i2l dX9_copy_145 ?_
                        refine go_iload 5 rfl dX9_copy_146 ?_
                        refine go_i2l dX9_copy_148 ?_
                        refine go_ladd dX9_copy_149 ?_
                        refine go_aload_n rfl 0 rfl dX9_copy_150 ?_
                        refine h_getr 11 cl7 rfl (by decide) tw_923 63 rfl dX9_copy_151 ?_
                        refine go_iload_n rfl 1 rfl dX9_copy_154 ?_
                        obtain ⟨hg_178, h⟩ := q_g h
                        refine h_iald 8 rfl hg_178 dX9_copy_155 ?_
                        refine go_i2l dX9_copy_156 ?_
                        refine go_lcmp dX9_copy_157 ?_
                        refine go_if_gt (tgt := 179) dX9_copy_158 rfl (fun hc => ?_) (fun hc => ?_)
                        · replace h := q_t h hc
                          refine go_aload_n rfl 0 rfl dX9_copy_179 ?_
                          refine go_bipush kz_bipush_m5 dX9_copy_180 ?_
                          obtain ⟨r_179, h_180, h⟩ := q_b h
                          refine h_callVi (st := []) [.int (-5)] (m_X9_no h_180) me_X9_no (g_recv cl7.1 rfl) tw_1008 tw_1010 tw_23 (hdd_of (by decide)) ⟨Nat.zero_le _, Nat.zero_le _⟩ rfl rfl (Nat.le_of_ble_eq_true rfl) dX9_copy_182 ?_
                          exact h_iret h dX9_copy_185 rfl
                        · replace h := q_f h hc
                          refine go_iload 4 rfl dX9_copy_161 ?_
                          refine go_i2l dX9_copy_163 ?_
                          refine go_iload 5 rfl dX9_copy_164 ?_
                          refine go_i2l dX9_copy_166 ?_
                          refine go_ladd dX9_copy_167 ?_
                          refine go_aload_n rfl 0 rfl dX9_copy_168 ?_
                          refine h_getr 11 cl7 rfl (by decide) tw_923 63 rfl dX9_copy_169 ?_
                          refine go_iload_n rfl 2 rfl dX9_copy_172 ?_
                          obtain ⟨hg_181, h⟩ := q_g h
                          refine h_iald 8 rfl hg_181 dX9_copy_173 ?_
                          refine go_i2l dX9_copy_174 ?_
                          refine go_lcmp dX9_copy_175 ?_
                          refine go_if_le (tgt := 186) dX9_copy_176 rfl (fun hc => ?_) (fun hc => ?_)
                          · replace h := q_t h hc
                            refine go_iload_n rfl 1 rfl dX9_copy_186 ?_
                            refine go_iload_n rfl 2 rfl dX9_copy_187 ?_
                            refine go_icmp_ne (tgt := 248) dX9_copy_188 rfl (fun hc => ?_) (fun hc => ?_)
                            · replace h := q_f h hc
                              refine go_iconst kz_iconst_0 dX9_copy_248 ?_
                              refine go_istore (l' := [(6, .int 0), (0, .ref (ad 53)), (1, .int x1), (2, .int x2), (3, .int x3), (4, .int x4), (5, .int x5)]) dX9_copy_249 (by decide) rfl ?_
                              refine go_sub (l' := [(0, .ref (ad 53)), (1, .int x1), (2, .int x2), (3, .int x3), (4, .int x4), (5, .int x5), (6, .int 0)]) [1, 2, 3, 4, 5, 6, 0] rfl ?_
                              refine m_X9_copy_L251  FU _ _ _ h (fun ν_182 h => ?_)
                              refine go_iconst kz_iconst_1 dX9_copy_295 ?_
                              exact h_iret h dX9_copy_296 rfl
                            · replace h := q_t h hc
                              refine go_iload_n rfl 3 rfl dX9_copy_191 ?_
                              refine go_iload 4 rfl dX9_copy_192 ?_
                              refine go_icmp_ge (tgt := 248) dX9_copy_194 rfl (fun hc => ?_) (fun hc => ?_)
                              · replace h := q_t h hc
                                refine go_iconst kz_iconst_0 dX9_copy_248 ?_
                                refine go_istore (l' := [(6, .int 0), (0, .ref (ad 53)), (1, .int x1), (2, .int x2), (3, .int x3), (4, .int x4), (5, .int x5)]) dX9_copy_249 (by decide) rfl ?_
                                refine go_sub (l' := [(0, .ref (ad 53)), (1, .int x1), (2, .int x2), (3, .int x3), (4, .int x4), (5, .int x5), (6, .int 0)]) [1, 2, 3, 4, 5, 6, 0] rfl ?_
                                refine m_X9_copy_L251  FU _ _ _ h (fun ν_183 h => ?_)
                                refine go_iconst kz_iconst_1 dX9_copy_295 ?_
                                exact h_iret h dX9_copy_296 rfl
                              · replace h := q_f h hc
                                refine go_iload 5 rfl dX9_copy_197 ?_
                                refine go_iconst kz_iconst_1 dX9_copy_199 ?_
                                refine go_isub dX9_copy_200 ?_
                                refine go_istore (l' := [(6, .int (x5 - 1)), (0, .ref (ad 53)), (1, .int x1), (2, .int x2), (3, .int x3), (4, .int x4), (5, .int x5)]) dX9_copy_201 (by decide) rfl ?_
                                refine go_sub (l' := [(0, .ref (ad 53)), (1, .int x1), (2, .int x2), (3, .int x3), (4, .int x4), (6, .int (x5 - 1))]) [1, 2, 3, 4, 5, 0] rfl ?_
                                refine m_X9_copy_L203  FU _ _ _ h (fun ν_184 h => ?_)
                                refine go_goto (tgt := 295) dX9_copy_245 rfl ?_
                                refine go_iconst kz_iconst_1 dX9_copy_295 ?_
                                exact h_iret h dX9_copy_296 rfl
                          · replace h := q_f h hc
                            refine go_aload_n rfl 0 rfl dX9_copy_179 ?_
                            refine go_bipush kz_bipush_m5 dX9_copy_180 ?_
                            obtain ⟨r_185, h_186, h⟩ := q_b h
                            refine h_callVi (st := []) [.int (-5)] (m_X9_no h_186) me_X9_no (g_recv cl7.1 rfl) tw_1008 tw_1010 tw_23 (hdd_of (by decide)) ⟨Nat.zero_le _, Nat.zero_le _⟩ rfl rfl (Nat.le_of_ble_eq_true rfl) dX9_copy_182 ?_
                            exact h_iret h dX9_copy_185 rfl
                  · replace h := q_f h hc
                    refine go_aload_n rfl 0 rfl dX9_copy_128 ?_
                    refine go_bipush kz_bipush_m4 dX9_copy_129 ?_
                    obtain ⟨r_187, h_188, h⟩ := q_b h
                    refine h_callVi (st := []) [.int (-4)] (m_X9_no h_188) me_X9_no (g_recv cl7.1 rfl) tw_1008 tw_1010 tw_23 (hdd_of (by decide)) ⟨Nat.zero_le _, Nat.zero_le _⟩ rfl rfl (Nat.le_of_ble_eq_true rfl) dX9_copy_131 ?_
                    exact h_iret h dX9_copy_134 rfl
                · replace h := q_f h hc
                  refine go_aload_n rfl 0 rfl dX9_copy_116 ?_
                  refine go_bipush kz_bipush_m3 dX9_copy_117 ?_
                  obtain ⟨r_189, h_190, h⟩ := q_b h
                  refine h_callVi (st := []) [.int (-3)] (m_X9_no h_190) me_X9_no (g_recv cl7.1 rfl) tw_1008 tw_1010 tw_23 (hdd_of (by decide)) ⟨Nat.zero_le _, Nat.zero_le _⟩ rfl rfl (Nat.le_of_ble_eq_true rfl) dX9_copy_119 ?_
                  exact h_iret h dX9_copy_122 rfl
            · replace h := q_f h hc
              refine go_aload_n rfl 0 rfl dX9_copy_68 ?_
              refine go_iload_n rfl 2 rfl dX9_copy_69 ?_
              obtain ⟨r_191, h_192, h⟩ := q_b h
              refine h_callVi (st := []) [.int x2] (m_X9_isRow h_192) me_X9_isRow (g_recv cl7.1 rfl) tw_1020 tw_1022 tw_25 (hdd_of (by decide)) ⟨Nat.zero_le _, Nat.zero_le _⟩ rfl rfl (Nat.le_of_ble_eq_true rfl) dX9_copy_70 ?_
              refine go_if_eq (tgt := 98) dX9_copy_73 rfl (fun hc => ?_) (fun hc => ?_)
              · replace h := q_t h hc
                refine go_aload_n rfl 0 rfl dX9_copy_98 ?_
                refine h_getr 10 cl7 rfl (by decide) tw_922 62 rfl dX9_copy_99 ?_
                refine go_iload_n rfl 1 rfl dX9_copy_102 ?_
                obtain ⟨hg_193, h⟩ := q_g h
                refine h_iald 8 rfl hg_193 dX9_copy_103 ?_
                refine go_if_lt (tgt := 116) dX9_copy_104 rfl (fun hc => ?_) (fun hc => ?_)
                · replace h := q_t h hc
                  refine go_aload_n rfl 0 rfl dX9_copy_116 ?_
                  refine go_bipush kz_bipush_m3 dX9_copy_117 ?_
                  obtain ⟨r_194, h_195, h⟩ := q_b h
                  refine h_callVi (st := []) [.int (-3)] (m_X9_no h_195) me_X9_no (g_recv cl7.1 rfl) tw_1008 tw_1010 tw_23 (hdd_of (by decide)) ⟨Nat.zero_le _, Nat.zero_le _⟩ rfl rfl (Nat.le_of_ble_eq_true rfl) dX9_copy_119 ?_
                  exact h_iret h dX9_copy_122 rfl
                · replace h := q_f h hc
                  refine go_aload_n rfl 0 rfl dX9_copy_107 ?_
                  refine h_getr 10 cl7 rfl (by decide) tw_922 62 rfl dX9_copy_108 ?_
                  refine go_iload_n rfl 2 rfl dX9_copy_111 ?_
                  obtain ⟨hg_196, h⟩ := q_g h
                  refine h_iald 8 rfl hg_196 dX9_copy_112 ?_
                  refine go_if_ge (tgt := 123) dX9_copy_113 rfl (fun hc => ?_) (fun hc => ?_)
                  · replace h := q_t h hc
                    refine go_iload 5 rfl dX9_copy_123 ?_
                    refine go_if_ge (tgt := 135) dX9_copy_125 rfl (fun hc => ?_) (fun hc => ?_)
                    · replace h := q_t h hc
                      refine go_iload_n rfl 3 rfl dX9_copy_135 ?_
                      refine go_if_lt (tgt := 179) dX9_copy_136 rfl (fun hc => ?_) (fun hc => ?_)
                      · replace h := q_t h hc
                        refine go_aload_n rfl 0 rfl dX9_copy_179 ?_
                        refine go_bipush kz_bipush_m5 dX9_copy_180 ?_
                        obtain ⟨r_197, h_198, h⟩ := q_b h
                        refine h_callVi (st := []) [.int (-5)] (m_X9_no h_198) me_X9_no (g_recv cl7.1 rfl) tw_1008 tw_1010 tw_23 (hdd_of (by decide)) ⟨Nat.zero_le _, Nat.zero_le _⟩ rfl rfl (Nat.le_of_ble_eq_true rfl) dX9_copy_182 ?_
                        exact h_iret h dX9_copy_185 rfl
                      · replace h := q_f h hc
                        refine go_iload 4 rfl dX9_copy_139 ?_
                        refine go_if_lt (tgt := 179) dX9_copy_141 rfl (fun hc => ?_) (fun hc => ?_)
                        · replace h := q_t h hc
                          refine go_aload_n rfl 0 rfl dX9_copy_179 ?_
                          refine go_bipush kz_bipush_m5 dX9_copy_180 ?_
                          obtain ⟨r_199, h_200, h⟩ := q_b h
                          refine h_callVi (st := []) [.int (-5)] (m_X9_no h_200) me_X9_no (g_recv cl7.1 rfl) tw_1008 tw_1010 tw_23 (hdd_of (by decide)) ⟨Nat.zero_le _, Nat.zero_le _⟩ rfl rfl (Nat.le_of_ble_eq_true rfl) dX9_copy_182 ?_
                          exact h_iret h dX9_copy_185 rfl
                        · replace h := q_f h hc
                          refine go_iload_n rfl 3 rfl dX9_copy_144 ?_
                          refine go_i2l dX9_copy_145 ?_
                          refine go_iload 5 rfl dX9_copy_146 ?_
                          refine go_i2l dX9_copy_148 ?_
                          refine go_ladd dX9_copy_149 ?_
                          refine go_aload_n rfl 0 rfl dX9_copy_150 ?_
                          refine h_getr 11 cl7 rfl (by decide) tw_923 63 rfl dX9_copy_151 ?_
                          refine go_iload_n rfl 1 rfl dX9_copy_154 ?_
                          obtain ⟨hg_201, h⟩ := q_g h
                          refine h_iald 8 rfl hg_201 dX9_copy_155 ?_
                          refine go_i2l dX9_copy_156 ?_
                          refine go_lcmp dX9_copy_157 ?_
                          refine go_if_gt (tgt := 179) dX9_copy_158 rfl (fun hc => ?_) (fun hc => ?_)
                          · replace h := q_t h hc
                            refine go_aload_n rfl 0 rfl dX9_copy_179 ?_
                            refine go_bipush kz_bipush_m5 dX9_copy_180 ?_
                            obtain ⟨r_202, h_203, h⟩ := q_b h
                            refine h_callVi (st := []) [.int (-5)] (m_X9_no h_203) me_X9_no (g_recv cl7.1 rfl) tw_1008 tw_1010 tw_23 (hdd_of (by decide)) ⟨Nat.zero_le _, Nat.zero_le _⟩ rfl rfl (Nat.le_of_ble_eq_true rfl) dX9_copy_182 ?_
                            exact h_iret h dX9_copy_185 rfl
                          · replace h := q_f h hc
                            refine go_iload 4 rfl dX9_copy_161 ?_
                            refine go_i2l dX9_copy_163 ?_
                            refine go_iload 5 rfl dX9_copy_164 ?_
                            refine go_i2l dX9_copy_166 ?_
                            refine go_ladd dX9_copy_167 ?_
                            refine go_aload_n rfl 0 rfl dX9_copy_168 ?_
                            refine h_getr 11 cl7 rfl (by decide) tw_923 63 rfl dX9_copy_169 ?_
                            refine go_iload_n rfl 2 rfl dX9_copy_172 ?_
                            obtain ⟨hg_204, h⟩ := q_g h
                            refine h_iald 8 rfl hg_204 dX9_copy_173 ?_
                            refine go_i2l dX9_copy_174 ?_
                            refine go_lcmp dX9_copy_175 ?_
                            refine go_if_le (tgt := 186) dX9_copy_176 rfl (fun hc => ?_) (fun hc => ?_)
                            · replace h := q_t h hc
                              refine go_iload_n rfl 1 rfl dX9_copy_186 ?_
                              refine go_iload_n rfl 2 rfl dX9_copy_187 ?_
                              refine go_icmp_ne (tgt := 248) dX9_copy_188 rfl (fun hc => ?_) (fun hc => ?_)
                              · replace h := q_f h hc
                                refine go_iconst kz_iconst_0 dX9_copy_248 ?_
                                refine go_istore (l' := [(6, .int 0), (0, .ref (ad 53)), (1, .int x1), (2, .int x2), (3, .int x3), (4, .int x4), (5, .int x5)]) dX9_copy_249 (by decide) rfl ?_
                                refine go_sub (l' := [(0, .ref (ad 53)), (1, .int x1), (2, .int x2), (3, .int x3), (4, .int x4), (5, .int x5), (6, .int 0)]) [1, 2, 3, 4, 5, 6, 0] rfl ?_
                                refine m_X9_copy_L251  FU _ _ _ h (fun ν_205 h => ?_)
                                refine go_iconst kz_iconst_1 dX9_copy_295 ?_
                                exact h_iret h dX9_copy_296 rfl
                              · replace h := q_t h hc
                                refine go_iload_n rfl 3 rfl dX9_copy_191 ?_
                                refine go_iload 4 rfl dX9_copy_192 ?_
                                refine go_icmp_ge (tgt := 248) dX9_copy_194 rfl (fun hc => ?_) (fun hc => ?_)
                                · replace h := q_t h hc
                                  refine go_iconst kz_iconst_0 dX9_copy_248 ?_
                                  refine go_istore (l' := [(6, .int 0), (0, .ref (ad 53)), (1, .int x1), (2, .int x2), (3, .int x3), (4, .int x4), (5, .int x5)]) dX9_copy_249 (by decide) rfl ?_
                                  refine go_sub (l' := [(0, .ref (ad 53)), (1, .int x1), (2, .int x2), (3, .int x3), (4, .int x4), (5, .int x5), (6, .int 0)]) [1, 2, 3, 4, 5, 6, 0] rfl ?_
                                  refine m_X9_copy_L251  FU _ _ _ h (fun ν_206 h => ?_)
                                  refine go_iconst kz_iconst_1 dX9_copy_295 ?_
                                  exact h_iret h dX9_copy_296 rfl
                                · replace h := q_f h hc
                                  refine go_iload 5 rfl dX9_copy_197 ?_
                                  refine go_iconst kz_iconst_1 dX9_copy_199 ?_
                                  refine go_isub dX9_copy_200 ?_
                                  refine go_istore (l' := [(6, .int (x5 - 1)), (0, .ref (ad 53)), (1, .int x1), (2, .int x2), (3, .int x3), (4, .int x4), (5, .int x5)]) dX9_copy_201 (by decide) rfl ?_
                                  refine go_sub (l' := [(0, .ref (ad 53)), (1, .int x1), (2, .int x2), (3, .int x3), (4, .int x4), (6, .int (x5 - 1))]) [1, 2, 3, 4, 5, 0] rfl ?_
                                  refine m_X9_copy_L203  FU _ _ _ h (fun ν_207 h => ?_)
                                  refine go_goto (tgt := 295) dX9_copy_245 rfl ?_
                                  refine go_iconst kz_iconst_1 dX9_copy_295 ?_
                                  exact h_iret h dX9_copy_296 rfl
                            · replace h := q_f h hc
                              refine go_aload_n rfl 0 rfl dX9_copy_179 ?_
                              refine go_bipush kz_bipush_m5 dX9_copy_180 ?_
                              obtain ⟨r_208, h_209, h⟩ := q_b h
                              refine h_callVi (st := []) [.int (-5)] (m_X9_no h_209) me_X9_no (g_recv cl7.1 rfl) tw_1008 tw_1010 tw_23 (hdd_of (by decide)) ⟨Nat.zero_le _, Nat.zero_le _⟩ rfl rfl (Nat.le_of_ble_eq_true rfl) dX9_copy_182 ?_
                              exact h_iret h dX9_copy_185 rfl
                    · replace h := q_f h hc
                      refine go_aload_n rfl 0 rfl dX9_copy_128 ?_
                      refine go_bipush kz_bipush_m4 dX9_copy_129 ?_
                      obtain ⟨r_210, h_211, h⟩ := q_b h
                      refine h_callVi (st := []) [.int (-4)] (m_X9_no h_211) me_X9_no (g_recv cl7.1 rfl) tw_1008 tw_1010 tw_23 (hdd_of (by decide)) ⟨Nat.zero_le _, Nat.zero_le _⟩ rfl rfl (Nat.le_of_ble_eq_true rfl) dX9_copy_131 ?_
                      exact h_iret h dX9_copy_134 rfl
                  · replace h := q_f h hc
                    refine go_aload_n rfl 0 rfl dX9_copy_116 ?_
                    refine go_bipush kz_bipush_m3 dX9_copy_117 ?_
                    obtain ⟨r_212, h_213, h⟩ := q_b h
                    refine h_callVi (st := []) [.int (-3)] (m_X9_no h_213) me_X9_no (g_recv cl7.1 rfl) tw_1008 tw_1010 tw_23 (hdd_of (by decide)) ⟨Nat.zero_le _, Nat.zero_le _⟩ rfl rfl (Nat.le_of_ble_eq_true rfl) dX9_copy_119 ?_
                    exact h_iret h dX9_copy_122 rfl
              · replace h := q_f h hc
                refine go_aload_n rfl 0 rfl dX9_copy_76 ?_
                refine h_getr 10 cl7 rfl (by decide) tw_922 62 rfl dX9_copy_77 ?_
                refine go_iload_n rfl 1 rfl dX9_copy_80 ?_
                obtain ⟨hg_214, h⟩ := q_g h
                refine h_iald 8 rfl hg_214 dX9_copy_81 ?_
                refine go_aload_n rfl 0 rfl dX9_copy_82 ?_
                refine h_getr 10 cl7 rfl (by decide) tw_922 62 rfl dX9_copy_83 ?_
                refine go_iload_n rfl 2 rfl dX9_copy_86 ?_
                obtain ⟨hg_215, h⟩ := q_g h
                refine h_iald 8 rfl hg_215 dX9_copy_87 ?_
                refine go_icmp_eq (tgt := 98) dX9_copy_88 rfl (fun hc => ?_) (fun hc => ?_)
                · replace h := q_t h hc
                  refine go_aload_n rfl 0 rfl dX9_copy_98 ?_
                  refine h_getr 10 cl7 rfl (by decide) tw_922 62 rfl dX9_copy_99 ?_
                  refine go_iload_n rfl 1 rfl dX9_copy_102 ?_
                  obtain ⟨hg_216, h⟩ := q_g h
                  refine h_iald 8 rfl hg_216 dX9_copy_103 ?_
                  refine go_if_lt (tgt := 116) dX9_copy_104 rfl (fun hc => ?_) (fun hc => ?_)
                  · replace h := q_t h hc
                    refine go_aload_n rfl 0 rfl dX9_copy_116 ?_
                    refine go_bipush kz_bipush_m3 dX9_copy_117 ?_
                    obtain ⟨r_217, h_218, h⟩ := q_b h
                    refine h_callVi (st := []) [.int (-3)] (m_X9_no h_218) me_X9_no (g_recv cl7.1 rfl) tw_1008 tw_1010 tw_23 (hdd_of (by decide)) ⟨Nat.zero_le _, Nat.zero_le _⟩ rfl rfl (Nat.le_of_ble_eq_true rfl) dX9_copy_119 ?_
                    exact h_iret h dX9_copy_122 rfl
                  · replace h := q_f h hc
                    refine go_aload_n rfl 0 rfl dX9_copy_107 ?_
                    refine h_getr 10 cl7 rfl (by decide) tw_922 62 rfl dX9_copy_108 ?_
                    refine go_iload_n rfl 2 rfl dX9_copy_111 ?_
                    obtain ⟨hg_219, h⟩ := q_g h
                    refine h_iald 8 rfl hg_219 dX9_copy_112 ?_
                    refine go_if_ge (tgt := 123) dX9_copy_113 rfl (fun hc => ?_) (fun hc => ?_)
                    · replace h := q_t h hc
                      refine go_iload 5 rfl dX9_copy_123 ?_
                      refine go_if_ge (tgt := 135) dX9_copy_125 rfl (fun hc => ?_) (fun hc => ?_)
                      · replace h := q_t h hc
                        refine go_iload_n rfl 3 rfl dX9_copy_135 ?_
                        refine go_if_lt (tgt := 179) dX9_copy_136 rfl (fun hc => ?_) (fun hc => ?_)
                        · replace h := q_t h hc
                          refine go_aload_n rfl 0 rfl dX9_copy_179 ?_
                          refine go_bipush kz_bipush_m5 dX9_copy_180 ?_
                          obtain ⟨r_220, h_221, h⟩ := q_b h
                          refine h_callVi (st := []) [.int (-5)] (m_X9_no h_221) me_X9_no (g_recv cl7.1 rfl) tw_1008 tw_1010 tw_23 (hdd_of (by decide)) ⟨Nat.zero_le _, Nat.zero_le _⟩ rfl rfl (Nat.le_of_ble_eq_true rfl) dX9_copy_182 ?_
                          exact h_iret h dX9_copy_185 rfl
                        · replace h := q_f h hc
                          refine go_iload 4 rfl dX9_copy_139 ?_
                          refine go_if_lt (tgt := 179) dX9_copy_141 rfl (fun hc => ?_) (fun hc => ?_)
                          · replace h := q_t h hc
                            refine go_aload_n rfl 0 rfl dX9_copy_179 ?_
                            refine go_bipush kz_bipush_m5 dX9_copy_180 ?_
                            obtain ⟨r_222, h_223, h⟩ := q_b h
                            refine h_callVi (st := []) [.int (-5)] (m_X9_no h_223) me_X9_no (g_recv cl7.1 rfl) tw_1008 tw_1010 tw_23 (hdd_of (by decide)) ⟨Nat.zero_le _, Nat.zero_le _⟩ rfl rfl (Nat.le_of_ble_eq_true rfl) dX9_copy_182 ?_
                            exact h_iret h dX9_copy_185 rfl
                          · replace h := q_f h hc
                            refine go_iload_n rfl 3 rfl dX9_copy_144 ?_
                            refine go_i2l dX9_copy_145 ?_
                            refine go_iload 5 rfl dX9_copy_146 ?_
                            refine go_i2l dX9_copy_148 ?_
                            refine go_ladd dX9_copy_149 ?_
                            refine go_aload_n rfl 0 rfl dX9_copy_150 ?_
                            refine h_getr 11 cl7 rfl (by decide) tw_923 63 rfl dX9_copy_151 ?_
                            refine go_iload_n rfl 1 rfl dX9_copy_154 ?_
                            obtain ⟨hg_224, h⟩ := q_g h
                            refine h_iald 8 rfl hg_224 dX9_copy_155 ?_
                            refine go_i2l dX9_copy_156 ?_
                            refine go_lcmp dX9_copy_157 ?_
                            refine go_if_gt (tgt := 179) dX9_copy_158 rfl (fun hc => ?_) (fun hc => ?_)
                            · replace h := q_t h hc
                              refine go_aload_n rfl 0 rfl dX9_copy_179 ?_
                              refine go_bipush kz_bipush_m5 dX9_copy_180 ?_
                              obtain ⟨r_225, h_226, h⟩ := q_b h
                              refine h_callVi (st := []) [.int (-5)] (m_X9_no h_226) me_X9_no (g_recv cl7.1 rfl) tw_1008 tw_1010 tw_23 (hdd_of (by decide)) ⟨Nat.zero_le _, Nat.zero_le _⟩ rfl rfl (Nat.le_of_ble_eq_true rfl) dX9_copy_182 ?_
                              exact h_iret h dX9_copy_185 rfl
                            · replace h := q_f h hc
                              refine go_iload 4 rfl dX9_copy_161 ?_
                              refine go_i2l dX9_copy_163 ?_
                              refine go_iload 5 rfl dX9_copy_164 ?_
                              refine go_i2l dX9_copy_166 ?_
                              refine go_ladd dX9_copy_167 ?_
                              refine go_aload_n rfl 0 rfl dX9_copy_168 ?_
                              refine h_getr 11 cl7 rfl (by decide) tw_923 63 rfl dX9_copy_169 ?_
                              refine go_iload_n rfl 2 rfl dX9_copy_172 ?_
                              obtain ⟨hg_227, h⟩ := q_g h
                              refine h_iald 8 rfl hg_227 dX9_copy_173 ?_
                              refine go_i2l dX9_copy_174 ?_
                              refine go_lcmp dX9_copy_175 ?_
                              refine go_if_le (tgt := 186) dX9_copy_176 rfl (fun hc => ?_) (fun hc => ?_)
                              · replace h := q_t h hc
                                refine go_iload_n rfl 1 rfl dX9_copy_186 ?_
                                refine go_iload_n rfl 2 rfl dX9_copy_187 ?_
                                refine go_icmp_ne (tgt := 248) dX9_copy_188 rfl (fun hc => ?_) (fun hc => ?_)
                                · replace h := q_f h hc
                                  refine go_iconst kz_iconst_0 dX9_copy_248 ?_
                                  refine go_istore (l' := [(6, .int 0), (0, .ref (ad 53)), (1, .int x1), (2, .int x2), (3, .int x3), (4, .int x4), (5, .int x5)]) dX9_copy_249 (by decide) rfl ?_
                                  refine go_sub (l' := [(0, .ref (ad 53)), (1, .int x1), (2, .int x2), (3, .int x3), (4, .int x4), (5, .int x5), (6, .int 0)]) [1, 2, 3, 4, 5, 6, 0] rfl ?_
                                  refine m_X9_copy_L251  FU _ _ _ h (fun ν_228 h => ?_)
                                  refine go_iconst kz_iconst_1 dX9_copy_295 ?_
                                  exact h_iret h dX9_copy_296 rfl
                                · replace h := q_t h hc
                                  refine go_iload_n rfl 3 rfl dX9_copy_191 ?_
                                  refine go_iload 4 rfl dX9_copy_192 ?_
                                  refine go_icmp_ge (tgt := 248) dX9_copy_194 rfl (fun hc => ?_) (fun hc => ?_)
                                  · replace h := q_t h hc
                                    refine go_iconst kz_iconst_0 dX9_copy_248 ?_
                                    refine go_istore (l' := [(6, .int 0), (0, .ref (ad 53)), (1, .int x1), (2, .int x2), (3, .int x3), (4, .int x4), (5, .int x5)]) dX9_copy_249 (by decide) rfl ?_
                                    refine go_sub (l' := [(0, .ref (ad 53)), (1, .int x1), (2, .int x2), (3, .int x3), (4, .int x4), (5, .int x5), (6, .int 0)]) [1, 2, 3, 4, 5, 6, 0] rfl ?_
                                    refine m_X9_copy_L251  FU _ _ _ h (fun ν_229 h => ?_)
                                    refine go_iconst kz_iconst_1 dX9_copy_295 ?_
                                    exact h_iret h dX9_copy_296 rfl
                                  · replace h := q_f h hc
                                    refine go_iload 5 rfl dX9_copy_197 ?_
                                    refine go_iconst kz_iconst_1 dX9_copy_199 ?_
                                    refine go_isub dX9_copy_200 ?_
                                    refine go_istore (l' := [(6, .int (x5 - 1)), (0, .ref (ad 53)), (1, .int x1), (2, .int x2), (3, .int x3), (4, .int x4), (5, .int x5)]) dX9_copy_201 (by decide) rfl ?_
                                    refine go_sub (l' := [(0, .ref (ad 53)), (1, .int x1), (2, .int x2), (3, .int x3), (4, .int x4), (6, .int (x5 - 1))]) [1, 2, 3, 4, 5, 0] rfl ?_
                                    refine m_X9_copy_L203  FU _ _ _ h (fun ν_230 h => ?_)
                                    refine go_goto (tgt := 295) dX9_copy_245 rfl ?_
                                    refine go_iconst kz_iconst_1 dX9_copy_295 ?_
                                    exact h_iret h dX9_copy_296 rfl
                              · replace h := q_f h hc
                                refine go_aload_n rfl 0 rfl dX9_copy_179 ?_
                                refine go_bipush kz_bipush_m5 dX9_copy_180 ?_
                                obtain ⟨r_231, h_232, h⟩ := q_b h
                                refine h_callVi (st := []) [.int (-5)] (m_X9_no h_232) me_X9_no (g_recv cl7.1 rfl) tw_1008 tw_1010 tw_23 (hdd_of (by decide)) ⟨Nat.zero_le _, Nat.zero_le _⟩ rfl rfl (Nat.le_of_ble_eq_true rfl) dX9_copy_182 ?_
                                exact h_iret h dX9_copy_185 rfl
                      · replace h := q_f h hc
                        refine go_aload_n rfl 0 rfl dX9_copy_128 ?_
                        refine go_bipush kz_bipush_m4 dX9_copy_129 ?_
                        obtain ⟨r_233, h_234, h⟩ := q_b h
                        refine h_callVi (st := []) [.int (-4)] (m_X9_no h_234) me_X9_no (g_recv cl7.1 rfl) tw_1008 tw_1010 tw_23 (hdd_of (by decide)) ⟨Nat.zero_le _, Nat.zero_le _⟩ rfl rfl (Nat.le_of_ble_eq_true rfl) dX9_copy_131 ?_
                        exact h_iret h dX9_copy_134 rfl
                    · replace h := q_f h hc
                      refine go_aload_n rfl 0 rfl dX9_copy_116 ?_
                      refine go_bipush kz_bipush_m3 dX9_copy_117 ?_
                      obtain ⟨r_235, h_236, h⟩ := q_b h
                      refine h_callVi (st := []) [.int (-3)] (m_X9_no h_236) me_X9_no (g_recv cl7.1 rfl) tw_1008 tw_1010 tw_23 (hdd_of (by decide)) ⟨Nat.zero_le _, Nat.zero_le _⟩ rfl rfl (Nat.le_of_ble_eq_true rfl) dX9_copy_119 ?_
                      exact h_iret h dX9_copy_122 rfl
                · replace h := q_f h hc
                  refine go_aload_n rfl 0 rfl dX9_copy_91 ?_
                  refine go_bipush kz_bipush_m2 dX9_copy_92 ?_
                  obtain ⟨r_237, h_238, h⟩ := q_b h
                  refine h_callVi (st := []) [.int (-2)] (m_X9_no h_238) me_X9_no (g_recv cl7.1 rfl) tw_1008 tw_1010 tw_23 (hdd_of (by decide)) ⟨Nat.zero_le _, Nat.zero_le _⟩ rfl rfl (Nat.le_of_ble_eq_true rfl) dX9_copy_94 ?_
                  exact h_iret h dX9_copy_97 rfl
          · replace h := q_f h hc
            refine go_aload_n rfl 0 rfl dX9_copy_52 ?_
            refine go_iload_n rfl 2 rfl dX9_copy_53 ?_
            obtain ⟨r_239, h_240, h⟩ := q_b h
            refine h_callVi (st := []) [.int x2] (m_X9_isRow h_240) me_X9_isRow (g_recv cl7.1 rfl) tw_1020 tw_1022 tw_25 (hdd_of (by decide)) ⟨Nat.zero_le _, Nat.zero_le _⟩ rfl rfl (Nat.le_of_ble_eq_true rfl) dX9_copy_54 ?_
            refine go_if_eq (tgt := 91) dX9_copy_57 rfl (fun hc => ?_) (fun hc => ?_)
            · replace h := q_t h hc
              refine go_aload_n rfl 0 rfl dX9_copy_91 ?_
              refine go_bipush kz_bipush_m2 dX9_copy_92 ?_
              obtain ⟨r_241, h_242, h⟩ := q_b h
              refine h_callVi (st := []) [.int (-2)] (m_X9_no h_242) me_X9_no (g_recv cl7.1 rfl) tw_1008 tw_1010 tw_23 (hdd_of (by decide)) ⟨Nat.zero_le _, Nat.zero_le _⟩ rfl rfl (Nat.le_of_ble_eq_true rfl) dX9_copy_94 ?_
              exact h_iret h dX9_copy_97 rfl
            · replace h := q_f h hc
              refine go_aload_n rfl 0 rfl dX9_copy_60 ?_
              refine go_iload_n rfl 1 rfl dX9_copy_61 ?_
              obtain ⟨r_243, h_244, h⟩ := q_b h
              refine h_callVi (st := []) [.int x1] (m_X9_isRow h_244) me_X9_isRow (g_recv cl7.1 rfl) tw_1020 tw_1022 tw_25 (hdd_of (by decide)) ⟨Nat.zero_le _, Nat.zero_le _⟩ rfl rfl (Nat.le_of_ble_eq_true rfl) dX9_copy_62 ?_
              refine go_if_eq (tgt := 98) dX9_copy_65 rfl (fun hc => ?_) (fun hc => ?_)
              · replace h := q_t h hc
                refine go_aload_n rfl 0 rfl dX9_copy_98 ?_
                refine h_getr 10 cl7 rfl (by decide) tw_922 62 rfl dX9_copy_99 ?_
                refine go_iload_n rfl 1 rfl dX9_copy_102 ?_
                obtain ⟨hg_245, h⟩ := q_g h
                refine h_iald 8 rfl hg_245 dX9_copy_103 ?_
                refine go_if_lt (tgt := 116) dX9_copy_104 rfl (fun hc => ?_) (fun hc => ?_)
                · replace h := q_t h hc
                  refine go_aload_n rfl 0 rfl dX9_copy_116 ?_
                  refine go_bipush kz_bipush_m3 dX9_copy_117 ?_
                  obtain ⟨r_246, h_247, h⟩ := q_b h
                  refine h_callVi (st := []) [.int (-3)] (m_X9_no h_247) me_X9_no (g_recv cl7.1 rfl) tw_1008 tw_1010 tw_23 (hdd_of (by decide)) ⟨Nat.zero_le _, Nat.zero_le _⟩ rfl rfl (Nat.le_of_ble_eq_true rfl) dX9_copy_119 ?_
                  exact h_iret h dX9_copy_122 rfl
                · replace h := q_f h hc
                  refine go_aload_n rfl 0 rfl dX9_copy_107 ?_
                  refine h_getr 10 cl7 rfl (by decide) tw_922 62 rfl dX9_copy_108 ?_
                  refine go_iload_n rfl 2 rfl dX9_copy_111 ?_
                  obtain ⟨hg_248, h⟩ := q_g h
                  refine h_iald 8 rfl hg_248 dX9_copy_112 ?_
                  refine go_if_ge (tgt := 123) dX9_copy_113 rfl (fun hc => ?_) (fun hc => ?_)
                  · replace h := q_t h hc
                    refine go_iload 5 rfl dX9_copy_123 ?_
                    refine go_if_ge (tgt := 135) dX9_copy_125 rfl (fun hc => ?_) (fun hc => ?_)
                    · replace h := q_t h hc
                      refine go_iload_n rfl 3 rfl dX9_copy_135 ?_
                      refine go_if_lt (tgt := 179) dX9_copy_136 rfl (fun hc => ?_) (fun hc => ?_)
                      · replace h := q_t h hc
                        refine go_aload_n rfl 0 rfl dX9_copy_179 ?_
                        refine go_bipush kz_bipush_m5 dX9_copy_180 ?_
                        obtain ⟨r_249, h_250, h⟩ := q_b h
                        refine h_callVi (st := []) [.int (-5)] (m_X9_no h_250) me_X9_no (g_recv cl7.1 rfl) tw_1008 tw_1010 tw_23 (hdd_of (by decide)) ⟨Nat.zero_le _, Nat.zero_le _⟩ rfl rfl (Nat.le_of_ble_eq_true rfl) dX9_copy_182 ?_
                        exact h_iret h dX9_copy_185 rfl
                      · replace h := q_f h hc
                        refine go_iload 4 rfl dX9_copy_139 ?_
                        refine go_if_lt (tgt := 179) dX9_copy_141 rfl (fun hc => ?_) (fun hc => ?_)
                        · replace h := q_t h hc
                          refine go_aload_n rfl 0 rfl dX9_copy_179 ?_
                          refine go_bipush kz_bipush_m5 dX9_copy_180 ?_
                          obtain ⟨r_251, h_252, h⟩ := q_b h
                          refine h_callVi (st := []) [.int (-5)] (m_X9_no h_252) me_X9_no (g_recv cl7.1 rfl) tw_1008 tw_1010 tw_23 (hdd_of (by decide)) ⟨Nat.zero_le _, Nat.zero_le _⟩ rfl rfl (Nat.le_of_ble_eq_true rfl) dX9_copy_182 ?_
                          exact h_iret h dX9_copy_185 rfl
                        · replace h := q_f h hc
                          refine go_iload_n rfl 3 rfl dX9_copy_144 ?_
                          refine go_i2l dX9_copy_145 ?_
                          refine go_iload 5 rfl dX9_copy_146 ?_
                          refine go_i2l dX9_copy_148 ?_
                          refine go_ladd dX9_copy_149 ?_
                          refine go_aload_n rfl 0 rfl dX9_copy_150 ?_
                          refine h_getr 11 cl7 rfl (by decide) tw_923 63 rfl dX9_copy_151 ?_
                          refine go_iload_n rfl 1 rfl dX9_copy_154 ?_
                          obtain ⟨hg_253, h⟩ := q_g h
                          refine h_iald 8 rfl hg_253 dX9_copy_155 ?_
                          refine go_i2l dX9_copy_156 ?_
                          refine go_lcmp dX9_copy_157 ?_
                          refine go_if_gt (tgt := 179) dX9_copy_158 rfl (fun hc => ?_) (fun hc => ?_)
                          · replace h := q_t h hc
                            refine go_aload_n rfl 0 rfl dX9_copy_179 ?_
                            refine go_bipush kz_bipush_m5 dX9_copy_180 ?_
                            obtain ⟨r_254, h_255, h⟩ := q_b h
                            refine h_callVi (st := []) [.int (-5)] (m_X9_no h_255) me_X9_no (g_recv cl7.1 rfl) tw_1008 tw_1010 tw_23 (hdd_of (by decide)) ⟨Nat.zero_le _, Nat.zero_le _⟩ rfl rfl (Nat.le_of_ble_eq_true rfl) dX9_copy_182 ?_
                            exact h_iret h dX9_copy_185 rfl
                          · replace h := q_f h hc
                            refine go_iload 4 rfl dX9_copy_161 ?_
                            refine go_i2l dX9_copy_163 ?_
                            refine go_iload 5 rfl dX9_copy_164 ?_
                            refine go_i2l dX9_copy_166 ?_
                            refine go_ladd dX9_copy_167 ?_
                            refine go_aload_n rfl 0 rfl dX9_copy_168 ?_
                            refine h_getr 11 cl7 rfl (by decide) tw_923 63 rfl dX9_copy_169 ?_
                            refine go_iload_n rfl 2 rfl dX9_copy_172 ?_
                            obtain ⟨hg_256, h⟩ := q_g h
                            refine h_iald 8 rfl hg_256 dX9_copy_173 ?_
                            refine go_i2l dX9_copy_174 ?_
                            refine go_lcmp dX9_copy_175 ?_
                            refine go_if_le (tgt := 186) dX9_copy_176 rfl (fun hc => ?_) (fun hc => ?_)
                            · replace h := q_t h hc
                              refine go_iload_n rfl 1 rfl dX9_copy_186 ?_
                              refine go_iload_n rfl 2 rfl dX9_copy_187 ?_
                              refine go_icmp_ne (tgt := 248) dX9_copy_188 rfl (fun hc => ?_) (fun hc => ?_)
                              · replace h := q_f h hc
                                refine go_iconst kz_iconst_0 dX9_copy_248 ?_
                                refine go_istore (l' := [(6, .int 0), (0, .ref (ad 53)), (1, .int x1), (2, .int x2), (3, .int x3), (4, .int x4), (5, .int x5)]) dX9_copy_249 (by decide) rfl ?_
                                refine go_sub (l' := [(0, .ref (ad 53)), (1, .int x1), (2, .int x2), (3, .int x3), (4, .int x4), (5, .int x5), (6, .int 0)]) [1, 2, 3, 4, 5, 6, 0] rfl ?_
                                refine m_X9_copy_L251  FU _ _ _ h (fun ν_257 h => ?_)
                                refine go_iconst kz_iconst_1 dX9_copy_295 ?_
                                exact h_iret h dX9_copy_296 rfl
                              · replace h := q_t h hc
                                refine go_iload_n rfl 3 rfl dX9_copy_191 ?_
                                refine go_iload 4 rfl dX9_copy_192 ?_
                                refine go_icmp_ge (tgt := 248) dX9_copy_194 rfl (fun hc => ?_) (fun hc => ?_)
                                · replace h := q_t h hc
                                  refine go_iconst kz_iconst_0 dX9_copy_248 ?_
                                  refine go_istore (l' := [(6, .int 0), (0, .ref (ad 53)), (1, .int x1), (2, .int x2), (3, .int x3), (4, .int x4), (5, .int x5)]) dX9_copy_249 (by decide) rfl ?_
                                  refine go_sub (l' := [(0, .ref (ad 53)), (1, .int x1), (2, .int x2), (3, .int x3), (4, .int x4), (5, .int x5), (6, .int 0)]) [1, 2, 3, 4, 5, 6, 0] rfl ?_
                                  refine m_X9_copy_L251  FU _ _ _ h (fun ν_258 h => ?_)
                                  refine go_iconst kz_iconst_1 dX9_copy_295 ?_
                                  exact h_iret h dX9_copy_296 rfl
                                · replace h := q_f h hc
                                  refine go_iload 5 rfl dX9_copy_197 ?_
                                  refine go_iconst kz_iconst_1 dX9_copy_199 ?_
                                  refine go_isub dX9_copy_200 ?_
                                  refine go_istore (l' := [(6, .int (x5 - 1)), (0, .ref (ad 53)), (1, .int x1), (2, .int x2), (3, .int x3), (4, .int x4), (5, .int x5)]) dX9_copy_201 (by decide) rfl ?_
                                  refine go_sub (l' := [(0, .ref (ad 53)), (1, .int x1), (2, .int x2), (3, .int x3), (4, .int x4), (6, .int (x5 - 1))]) [1, 2, 3, 4, 5, 0] rfl ?_
                                  refine m_X9_copy_L203  FU _ _ _ h (fun ν_259 h => ?_)
                                  refine go_goto (tgt := 295) dX9_copy_245 rfl ?_
                                  refine go_iconst kz_iconst_1 dX9_copy_295 ?_
                                  exact h_iret h dX9_copy_296 rfl
                            · replace h := q_f h hc
                              refine go_aload_n rfl 0 rfl dX9_copy_179 ?_
                              refine go_bipush kz_bipush_m5 dX9_copy_180 ?_
                              obtain ⟨r_260, h_261, h⟩ := q_b h
                              refine h_callVi (st := []) [.int (-5)] (m_X9_no h_261) me_X9_no (g_recv cl7.1 rfl) tw_1008 tw_1010 tw_23 (hdd_of (by decide)) ⟨Nat.zero_le _, Nat.zero_le _⟩ rfl rfl (Nat.le_of_ble_eq_true rfl) dX9_copy_182 ?_
                              exact h_iret h dX9_copy_185 rfl
                    · replace h := q_f h hc
                      refine go_aload_n rfl 0 rfl dX9_copy_128 ?_
                      refine go_bipush kz_bipush_m4 dX9_copy_129 ?_
                      obtain ⟨r_262, h_263, h⟩ := q_b h
                      refine h_callVi (st := []) [.int (-4)] (m_X9_no h_263) me_X9_no (g_recv cl7.1 rfl) tw_1008 tw_1010 tw_23 (hdd_of (by decide)) ⟨Nat.zero_le _, Nat.zero_le _⟩ rfl rfl (Nat.le_of_ble_eq_true rfl) dX9_copy_131 ?_
                      exact h_iret h dX9_copy_134 rfl
                  · replace h := q_f h hc
                    refine go_aload_n rfl 0 rfl dX9_copy_116 ?_
                    refine go_bipush kz_bipush_m3 dX9_copy_117 ?_
                    obtain ⟨r_264, h_265, h⟩ := q_b h
                    refine h_callVi (st := []) [.int (-3)] (m_X9_no h_265) me_X9_no (g_recv cl7.1 rfl) tw_1008 tw_1010 tw_23 (hdd_of (by decide)) ⟨Nat.zero_le _, Nat.zero_le _⟩ rfl rfl (Nat.le_of_ble_eq_true rfl) dX9_copy_119 ?_
                    exact h_iret h dX9_copy_122 rfl
              · replace h := q_f h hc
                refine go_aload_n rfl 0 rfl dX9_copy_68 ?_
                refine go_iload_n rfl 2 rfl dX9_copy_69 ?_
                obtain ⟨r_266, h_267, h⟩ := q_b h
                refine h_callVi (st := []) [.int x2] (m_X9_isRow h_267) me_X9_isRow (g_recv cl7.1 rfl) tw_1020 tw_1022 tw_25 (hdd_of (by decide)) ⟨Nat.zero_le _, Nat.zero_le _⟩ rfl rfl (Nat.le_of_ble_eq_true rfl) dX9_copy_70 ?_
                refine go_if_eq (tgt := 98) dX9_copy_73 rfl (fun hc => ?_) (fun hc => ?_)
                · replace h := q_t h hc
                  refine go_aload_n rfl 0 rfl dX9_copy_98 ?_
                  refine h_getr 10 cl7 rfl (by decide) tw_922 62 rfl dX9_copy_99 ?_
                  refine go_iload_n rfl 1 rfl dX9_copy_102 ?_
                  obtain ⟨hg_268, h⟩ := q_g h
                  refine h_iald 8 rfl hg_268 dX9_copy_103 ?_
                  refine go_if_lt (tgt := 116) dX9_copy_104 rfl (fun hc => ?_) (fun hc => ?_)
                  · replace h := q_t h hc
                    refine go_aload_n rfl 0 rfl dX9_copy_116 ?_
                    refine go_bipush kz_bipush_m3 dX9_copy_117 ?_
                    obtain ⟨r_269, h_270, h⟩ := q_b h
                    refine h_callVi (st := []) [.int (-3)] (m_X9_no h_270) me_X9_no (g_recv cl7.1 rfl) tw_1008 tw_1010 tw_23 (hdd_of (by decide)) ⟨Nat.zero_le _, Nat.zero_le _⟩ rfl rfl (Nat.le_of_ble_eq_true rfl) dX9_copy_119 ?_
                    exact h_iret h dX9_copy_122 rfl
                  · replace h := q_f h hc
                    refine go_aload_n rfl 0 rfl dX9_copy_107 ?_
                    refine h_getr 10 cl7 rfl (by decide) tw_922 62 rfl dX9_copy_108 ?_
                    refine go_iload_n rfl 2 rfl dX9_copy_111 ?_
                    obtain ⟨hg_271, h⟩ := q_g h
                    refine h_iald 8 rfl hg_271 dX9_copy_112 ?_
                    refine go_if_ge (tgt := 123) dX9_copy_113 rfl (fun hc => ?_) (fun hc => ?_)
                    · replace h := q_t h hc
                      refine go_iload 5 rfl dX9_copy_123 ?_
                      refine go_if_ge (tgt := 135) dX9_copy_125 rfl (fun hc => ?_) (fun hc => ?_)
                      · replace h := q_t h hc
                        refine go_iload_n rfl 3 rfl dX9_copy_135 ?_
                        refine go_if_lt (tgt := 179) dX9_copy_136 rfl (fun hc => ?_) (fun hc => ?_)
                        · replace h := q_t h hc
                          refine go_aload_n rfl 0 rfl dX9_copy_179 ?_
                          refine go_bipush kz_bipush_m5 dX9_copy_180 ?_
                          obtain ⟨r_272, h_273, h⟩ := q_b h
                          refine h_callVi (st := []) [.int (-5)] (m_X9_no h_273) me_X9_no (g_recv cl7.1 rfl) tw_1008 tw_1010 tw_23 (hdd_of (by decide)) ⟨Nat.zero_le _, Nat.zero_le _⟩ rfl rfl (Nat.le_of_ble_eq_true rfl) dX9_copy_182 ?_
                          exact h_iret h dX9_copy_185 rfl
                        · replace h := q_f h hc
                          refine go_iload 4 rfl dX9_copy_139 ?_
                          refine go_if_lt (tgt := 179) dX9_copy_141 rfl (fun hc => ?_) (fun hc => ?_)
                          · replace h := q_t h hc
                            refine go_aload_n rfl 0 rfl dX9_copy_179 ?_
                            refine go_bipush kz_bipush_m5 dX9_copy_180 ?_
                            obtain ⟨r_274, h_275, h⟩ := q_b h
                            refine h_callVi (st := []) [.int (-5)] (m_X9_no h_275) me_X9_no (g_recv cl7.1 rfl) tw_1008 tw_1010 tw_23 (hdd_of (by decide)) ⟨Nat.zero_le _, Nat.zero_le _⟩ rfl rfl (Nat.le_of_ble_eq_true rfl) dX9_copy_182 ?_
                            exact h_iret h dX9_copy_185 rfl
                          · replace h := q_f h hc
                            refine go_iload_n rfl 3 rfl dX9_copy_144 ?_
                            refine go_i2l dX9_copy_145 ?_
                            refine go_iload 5 rfl dX9_copy_146 ?_
                            refine go_i2l dX9_copy_148 ?_
                            refine go_ladd dX9_copy_149 ?_
                            refine go_aload_n rfl 0 rfl dX9_copy_150 ?_
                            refine h_getr 11 cl7 rfl (by decide) tw_923 63 rfl dX9_copy_151 ?_
                            refine go_iload_n rfl 1 rfl dX9_copy_154 ?_
                            obtain ⟨hg_276, h⟩ := q_g h
                            refine h_iald 8 rfl hg_276 dX9_copy_155 ?_
                            refine go_i2l dX9_copy_156 ?_
                            refine go_lcmp dX9_copy_157 ?_
                            refine go_if_gt (tgt := 179) dX9_copy_158 rfl (fun hc => ?_) (fun hc => ?_)
                            · replace h := q_t h hc
                              refine go_aload_n rfl 0 rfl dX9_copy_179 ?_
                              refine go_bipush kz_bipush_m5 dX9_copy_180 ?_
                              obtain ⟨r_277, h_278, h⟩ := q_b h
                              refine h_callVi (st := []) [.int (-5)] (m_X9_no h_278) me_X9_no (g_recv cl7.1 rfl) tw_1008 tw_1010 tw_23 (hdd_of (by decide)) ⟨Nat.zero_le _, Nat.zero_le _⟩ rfl rfl (Nat.le_of_ble_eq_true rfl) dX9_copy_182 ?_
                              exact h_iret h dX9_copy_185 rfl
                            · replace h := q_f h hc
                              refine go_iload 4 rfl dX9_copy_161 ?_
                              refine go_i2l dX9_copy_163 ?_
                              refine go_iload 5 rfl dX9_copy_164 ?_
                              refine go_i2l dX9_copy_166 ?_
                              refine go_ladd dX9_copy_167 ?_
                              refine go_aload_n rfl 0 rfl dX9_copy_168 ?_
                              refine h_getr 11 cl7 rfl (by decide) tw_923 63 rfl dX9_copy_169 ?_
                              refine go_iload_n rfl 2 rfl dX9_copy_172 ?_
                              obtain ⟨hg_279, h⟩ := q_g h
                              refine h_iald 8 rfl hg_279 dX9_copy_173 ?_
                              refine go_i2l dX9_copy_174 ?_
                              refine go_lcmp dX9_copy_175 ?_
                              refine go_if_le (tgt := 186) dX9_copy_176 rfl (fun hc => ?_) (fun hc => ?_)
                              · replace h := q_t h hc
                                refine go_iload_n rfl 1 rfl dX9_copy_186 ?_
                                refine go_iload_n rfl 2 rfl dX9_copy_187 ?_
                                refine go_icmp_ne (tgt := 248) dX9_copy_188 rfl (fun hc => ?_) (fun hc => ?_)
                                · replace h := q_f h hc
                                  refine go_iconst kz_iconst_0 dX9_copy_248 ?_
                                  refine go_istore (l' := [(6, .int 0), (0, .ref (ad 53)), (1, .int x1), (2, .int x2), (3, .int x3), (4, .int x4), (5, .int x5)]) dX9_copy_249 (by decide) rfl ?_
                                  refine go_sub (l' := [(0, .ref (ad 53)), (1, .int x1), (2, .int x2), (3, .int x3), (4, .int x4), (5, .int x5), (6, .int 0)]) [1, 2, 3, 4, 5, 6, 0] rfl ?_
                                  refine m_X9_copy_L251  FU _ _ _ h (fun ν_280 h => ?_)
                                  refine go_iconst kz_iconst_1 dX9_copy_295 ?_
                                  exact h_iret h dX9_copy_296 rfl
                                · replace h := q_t h hc
                                  refine go_iload_n rfl 3 rfl dX9_copy_191 ?_
                                  refine go_iload 4 rfl dX9_copy_192 ?_
                                  refine go_icmp_ge (tgt := 248) dX9_copy_194 rfl (fun hc => ?_) (fun hc => ?_)
                                  · replace h := q_t h hc
                                    refine go_iconst kz_iconst_0 dX9_copy_248 ?_
                                    refine go_istore (l' := [(6, .int 0), (0, .ref (ad 53)), (1, .int x1), (2, .int x2), (3, .int x3), (4, .int x4), (5, .int x5)]) dX9_copy_249 (by decide) rfl ?_
                                    refine go_sub (l' := [(0, .ref (ad 53)), (1, .int x1), (2, .int x2), (3, .int x3), (4, .int x4), (5, .int x5), (6, .int 0)]) [1, 2, 3, 4, 5, 6, 0] rfl ?_
                                    refine m_X9_copy_L251  FU _ _ _ h (fun ν_281 h => ?_)
                                    refine go_iconst kz_iconst_1 dX9_copy_295 ?_
                                    exact h_iret h dX9_copy_296 rfl
                                  · replace h := q_f h hc
                                    refine go_iload 5 rfl dX9_copy_197 ?_
                                    refine go_iconst kz_iconst_1 dX9_copy_199 ?_
                                    refine go_isub dX9_copy_200 ?_
                                    refine go_istore (l' := [(6, .int (x5 - 1)), (0, .ref (ad 53)), (1, .int x1), (2, .int x2), (3, .int x3), (4, .int x4), (5, .int x5)]) dX9_copy_201 (by decide) rfl ?_
                                    refine go_sub (l' := [(0, .ref (ad 53)), (1, .int x1), (2, .int x2), (3, .int x3), (4, .int x4), (6, .int (x5 - 1))]) [1, 2, 3, 4, 5, 0] rfl ?_
                                    refine m_X9_copy_L203  FU _ _ _ h (fun ν_282 h => ?_)
                                    refine go_goto (tgt := 295) dX9_copy_245 rfl ?_
                                    refine go_iconst kz_iconst_1 dX9_copy_295 ?_
                                    exact h_iret h dX9_copy_296 rfl
                              · replace h := q_f h hc
                                refine go_aload_n rfl 0 rfl dX9_copy_179 ?_
                                refine go_bipush kz_bipush_m5 dX9_copy_180 ?_
                                obtain ⟨r_283, h_284, h⟩ := q_b h
                                refine h_callVi (st := []) [.int (-5)] (m_X9_no h_284) me_X9_no (g_recv cl7.1 rfl) tw_1008 tw_1010 tw_23 (hdd_of (by decide)) ⟨Nat.zero_le _, Nat.zero_le _⟩ rfl rfl (Nat.le_of_ble_eq_true rfl) dX9_copy_182 ?_
                                exact h_iret h dX9_copy_185 rfl
                      · replace h := q_f h hc
                        refine go_aload_n rfl 0 rfl dX9_copy_128 ?_
                        refine go_bipush kz_bipush_m4 dX9_copy_129 ?_
                        obtain ⟨r_285, h_286, h⟩ := q_b h
                        refine h_callVi (st := []) [.int (-4)] (m_X9_no h_286) me_X9_no (g_recv cl7.1 rfl) tw_1008 tw_1010 tw_23 (hdd_of (by decide)) ⟨Nat.zero_le _, Nat.zero_le _⟩ rfl rfl (Nat.le_of_ble_eq_true rfl) dX9_copy_131 ?_
                        exact h_iret h dX9_copy_134 rfl
                    · replace h := q_f h hc
                      refine go_aload_n rfl 0 rfl dX9_copy_116 ?_
                      refine go_bipush kz_bipush_m3 dX9_copy_117 ?_
                      obtain ⟨r_287, h_288, h⟩ := q_b h
                      refine h_callVi (st := []) [.int (-3)] (m_X9_no h_288) me_X9_no (g_recv cl7.1 rfl) tw_1008 tw_1010 tw_23 (hdd_of (by decide)) ⟨Nat.zero_le _, Nat.zero_le _⟩ rfl rfl (Nat.le_of_ble_eq_true rfl) dX9_copy_119 ?_
                      exact h_iret h dX9_copy_122 rfl
                · replace h := q_f h hc
                  refine go_aload_n rfl 0 rfl dX9_copy_76 ?_
                  refine h_getr 10 cl7 rfl (by decide) tw_922 62 rfl dX9_copy_77 ?_
                  refine go_iload_n rfl 1 rfl dX9_copy_80 ?_
                  obtain ⟨hg_289, h⟩ := q_g h
                  refine h_iald 8 rfl hg_289 dX9_copy_81 ?_
                  refine go_aload_n rfl 0 rfl dX9_copy_82 ?_
                  refine h_getr 10 cl7 rfl (by decide) tw_922 62 rfl dX9_copy_83 ?_
                  refine go_iload_n rfl 2 rfl dX9_copy_86 ?_
                  obtain ⟨hg_290, h⟩ := q_g h
                  refine h_iald 8 rfl hg_290 dX9_copy_87 ?_
                  refine go_icmp_eq (tgt := 98) dX9_copy_88 rfl (fun hc => ?_) (fun hc => ?_)
                  · replace h := q_t h hc
                    refine go_aload_n rfl 0 rfl dX9_copy_98 ?_
                    refine h_getr 10 cl7 rfl (by decide) tw_922 62 rfl dX9_copy_99 ?_
                    refine go_iload_n rfl 1 rfl dX9_copy_102 ?_
                    obtain ⟨hg_291, h⟩ := q_g h
                    refine h_iald 8 rfl hg_291 dX9_copy_103 ?_
                    refine go_if_lt (tgt := 116) dX9_copy_104 rfl (fun hc => ?_) (fun hc => ?_)
                    · replace h := q_t h hc
                      refine go_aload_n rfl 0 rfl dX9_copy_116 ?_
                      refine go_bipush kz_bipush_m3 dX9_copy_117 ?_
                      obtain ⟨r_292, h_293, h⟩ := q_b h
                      refine h_callVi (st := []) [.int (-3)] (m_X9_no h_293) me_X9_no (g_recv cl7.1 rfl) tw_1008 tw_1010 tw_23 (hdd_of (by decide)) ⟨Nat.zero_le _, Nat.zero_le _⟩ rfl rfl (Nat.le_of_ble_eq_true rfl) dX9_copy_119 ?_
                      exact h_iret h dX9_copy_122 rfl
                    · replace h := q_f h hc
                      refine go_aload_n rfl 0 rfl dX9_copy_107 ?_
                      refine h_getr 10 cl7 rfl (by decide) tw_922 62 rfl dX9_copy_108 ?_
                      refine go_iload_n rfl 2 rfl dX9_copy_111 ?_
                      obtain ⟨hg_294, h⟩ := q_g h
                      refine h_iald 8 rfl hg_294 dX9_copy_112 ?_
                      refine go_if_ge (tgt := 123) dX9_copy_113 rfl (fun hc => ?_) (fun hc => ?_)
                      · replace h := q_t h hc
                        refine go_iload 5 rfl dX9_copy_123 ?_
                        refine go_if_ge (tgt := 135) dX9_copy_125 rfl (fun hc => ?_) (fun hc => ?_)
                        · replace h := q_t h hc
                          refine go_iload_n rfl 3 rfl dX9_copy_135 ?_
                          refine go_if_lt (tgt := 179) dX9_copy_136 rfl (fun hc => ?_) (fun hc => ?_)
                          · replace h := q_t h hc
                            refine go_aload_n rfl 0 rfl dX9_copy_179 ?_
                            refine go_bipush kz_bipush_m5 dX9_copy_180 ?_
                            obtain ⟨r_295, h_296, h⟩ := q_b h
                            refine h_callVi (st := []) [.int (-5)] (m_X9_no h_296) me_X9_no (g_recv cl7.1 rfl) tw_1008 tw_1010 tw_23 (hdd_of (by decide)) ⟨Nat.zero_le _, Nat.zero_le _⟩ rfl rfl (Nat.le_of_ble_eq_true rfl) dX9_copy_182 ?_
                            exact h_iret h dX9_copy_185 rfl
                          · replace h := q_f h hc
                            refine go_iload 4 rfl dX9_copy_139 ?_
                            refine go_if_lt (tgt := 179) dX9_copy_141 rfl (fun hc => ?_) (fun hc => ?_)
                            · replace h := q_t h hc
                              refine go_aload_n rfl 0 rfl dX9_copy_179 ?_
                              refine go_bipush kz_bipush_m5 dX9_copy_180 ?_
                              obtain ⟨r_297, h_298, h⟩ := q_b h
                              refine h_callVi (st := []) [.int (-5)] (m_X9_no h_298) me_X9_no (g_recv cl7.1 rfl) tw_1008 tw_1010 tw_23 (hdd_of (by decide)) ⟨Nat.zero_le _, Nat.zero_le _⟩ rfl rfl (Nat.le_of_ble_eq_true rfl) dX9_copy_182 ?_
                              exact h_iret h dX9_copy_185 rfl
                            · replace h := q_f h hc
                              refine go_iload_n rfl 3 rfl dX9_copy_144 ?_
                              refine go_i2l dX9_copy_145 ?_
                              refine go_iload 5 rfl dX9_copy_146 ?_
                              refine go_i2l dX9_copy_148 ?_
                              refine go_ladd dX9_copy_149 ?_
                              refine go_aload_n rfl 0 rfl dX9_copy_150 ?_
                              refine h_getr 11 cl7 rfl (by decide) tw_923 63 rfl dX9_copy_151 ?_
                              refine go_iload_n rfl 1 rfl dX9_copy_154 ?_
                              obtain ⟨hg_299, h⟩ := q_g h
                              refine h_iald 8 rfl hg_299 dX9_copy_155 ?_
                              refine go_i2l dX9_copy_156 ?_
                              refine go_lcmp dX9_copy_157 ?_
                              refine go_if_gt (tgt := 179) dX9_copy_158 rfl (fun hc => ?_) (fun hc => ?_)
                              · replace h := q_t h hc
                                refine go_aload_n rfl 0 rfl dX9_copy_179 ?_
                                refine go_bipush kz_bipush_m5 dX9_copy_180 ?_
                                obtain ⟨r_300, h_301, h⟩ := q_b h
                                refine h_callVi (st := []) [.int (-5)] (m_X9_no h_301) me_X9_no (g_recv cl7.1 rfl) tw_1008 tw_1010 tw_23 (hdd_of (by decide)) ⟨Nat.zero_le _, Nat.zero_le _⟩ rfl rfl (Nat.le_of_ble_eq_true rfl) dX9_copy_182 ?_
                                exact h_iret h dX9_copy_185 rfl
                              · replace h := q_f h hc
                                refine go_iload 4 rfl dX9_copy_161 ?_
                                refine go_i2l dX9_copy_163 ?_
                                refine go_iload 5 rfl dX9_copy_164 ?_
                                refine go_i2l dX9_copy_166 ?_
                                refine go_ladd dX9_copy_167 ?_
                                refine go_aload_n rfl 0 rfl dX9_copy_168 ?_
                                refine h_getr 11 cl7 rfl (by decide) tw_923 63 rfl dX9_copy_169 ?_
                                refine go_iload_n rfl 2 rfl dX9_copy_172 ?_
                                obtain ⟨hg_302, h⟩ := q_g h
                                refine h_iald 8 rfl hg_302 dX9_copy_173 ?_
                                refine go_i2l dX9_copy_174 ?_
                                refine go_lcmp dX9_copy_175 ?_
                                refine go_if_le (tgt := 186) dX9_copy_176 rfl (fun hc => ?_) (fun hc => ?_)
                                · replace h := q_t h hc
                                  refine go_iload_n rfl 1 rfl dX9_copy_186 ?_
                                  refine go_iload_n rfl 2 rfl dX9_copy_187 ?_
                                  refine go_icmp_ne (tgt := 248) dX9_copy_188 rfl (fun hc => ?_) (fun hc => ?_)
                                  · replace h := q_f h hc
                                    refine go_iconst kz_iconst_0 dX9_copy_248 ?_
                                    refine go_istore (l' := [(6, .int 0), (0, .ref (ad 53)), (1, .int x1), (2, .int x2), (3, .int x3), (4, .int x4), (5, .int x5)]) dX9_copy_249 (by decide) rfl ?_
                                    refine go_sub (l' := [(0, .ref (ad 53)), (1, .int x1), (2, .int x2), (3, .int x3), (4, .int x4), (5, .int x5), (6, .int 0)]) [1, 2, 3, 4, 5, 6, 0] rfl ?_
                                    refine m_X9_copy_L251  FU _ _ _ h (fun ν_303 h => ?_)
                                    refine go_iconst kz_iconst_1 dX9_copy_295 ?_
                                    exact h_iret h dX9_copy_296 rfl
                                  · replace h := q_t h hc
                                    refine go_iload_n rfl 3 rfl dX9_copy_191 ?_
                                    refine go_iload 4 rfl dX9_copy_192 ?_
                                    refine go_icmp_ge (tgt := 248) dX9_copy_194 rfl (fun hc => ?_) (fun hc => ?_)
                                    · replace h := q_t h hc
                                      refine go_iconst kz_iconst_0 dX9_copy_248 ?_
                                      refine go_istore (l' := [(6, .int 0), (0, .ref (ad 53)), (1, .int x1), (2, .int x2), (3, .int x3), (4, .int x4), (5, .int x5)]) dX9_copy_249 (by decide) rfl ?_
                                      refine go_sub (l' := [(0, .ref (ad 53)), (1, .int x1), (2, .int x2), (3, .int x3), (4, .int x4), (5, .int x5), (6, .int 0)]) [1, 2, 3, 4, 5, 6, 0] rfl ?_
                                      refine m_X9_copy_L251  FU _ _ _ h (fun ν_304 h => ?_)
                                      refine go_iconst kz_iconst_1 dX9_copy_295 ?_
                                      exact h_iret h dX9_copy_296 rfl
                                    · replace h := q_f h hc
                                      refine go_iload 5 rfl dX9_copy_197 ?_
                                      refine go_iconst kz_iconst_1 dX9_copy_199 ?_
                                      refine go_isub dX9_copy_200 ?_
                                      refine go_istore (l' := [(6, .int (x5 - 1)), (0, .ref (ad 53)), (1, .int x1), (2, .int x2), (3, .int x3), (4, .int x4), (5, .int x5)]) dX9_copy_201 (by decide) rfl ?_
                                      refine go_sub (l' := [(0, .ref (ad 53)), (1, .int x1), (2, .int x2), (3, .int x3), (4, .int x4), (6, .int (x5 - 1))]) [1, 2, 3, 4, 5, 0] rfl ?_
                                      refine m_X9_copy_L203  FU _ _ _ h (fun ν_305 h => ?_)
                                      refine go_goto (tgt := 295) dX9_copy_245 rfl ?_
                                      refine go_iconst kz_iconst_1 dX9_copy_295 ?_
                                      exact h_iret h dX9_copy_296 rfl
                                · replace h := q_f h hc
                                  refine go_aload_n rfl 0 rfl dX9_copy_179 ?_
                                  refine go_bipush kz_bipush_m5 dX9_copy_180 ?_
                                  obtain ⟨r_306, h_307, h⟩ := q_b h
                                  refine h_callVi (st := []) [.int (-5)] (m_X9_no h_307) me_X9_no (g_recv cl7.1 rfl) tw_1008 tw_1010 tw_23 (hdd_of (by decide)) ⟨Nat.zero_le _, Nat.zero_le _⟩ rfl rfl (Nat.le_of_ble_eq_true rfl) dX9_copy_182 ?_
                                  exact h_iret h dX9_copy_185 rfl
                        · replace h := q_f h hc
                          refine go_aload_n rfl 0 rfl dX9_copy_128 ?_
                          refine go_bipush kz_bipush_m4 dX9_copy_129 ?_
                          obtain ⟨r_308, h_309, h⟩ := q_b h
                          refine h_callVi (st := []) [.int (-4)] (m_X9_no h_309) me_X9_no (g_recv cl7.1 rfl) tw_1008 tw_1010 tw_23 (hdd_of (by decide)) ⟨Nat.zero_le _, Nat.zero_le _⟩ rfl rfl (Nat.le_of_ble_eq_true rfl) dX9_copy_131 ?_
                          exact h_iret h dX9_copy_134 rfl
                      · replace h := q_f h hc
                        refine go_aload_n rfl 0 rfl dX9_copy_116 ?_
                        refine go_bipush kz_bipush_m3 dX9_copy_117 ?_
                        obtain ⟨r_310, h_311, h⟩ := q_b h
                        refine h_callVi (st := []) [.int (-3)] (m_X9_no h_311) me_X9_no (g_recv cl7.1 rfl) tw_1008 tw_1010 tw_23 (hdd_of (by decide)) ⟨Nat.zero_le _, Nat.zero_le _⟩ rfl rfl (Nat.le_of_ble_eq_true rfl) dX9_copy_119 ?_
                        exact h_iret h dX9_copy_122 rfl
                  · replace h := q_f h hc
                    refine go_aload_n rfl 0 rfl dX9_copy_91 ?_
                    refine go_bipush kz_bipush_m2 dX9_copy_92 ?_
                    obtain ⟨r_312, h_313, h⟩ := q_b h
                    refine h_callVi (st := []) [.int (-2)] (m_X9_no h_313) me_X9_no (g_recv cl7.1 rfl) tw_1008 tw_1010 tw_23 (hdd_of (by decide)) ⟨Nat.zero_le _, Nat.zero_le _⟩ rfl rfl (Nat.le_of_ble_eq_true rfl) dX9_copy_94 ?_
                    exact h_iret h dX9_copy_97 rfl
    · replace h := q_t h hc
      refine go_aload_n rfl 0 rfl dX9_copy_20 ?_
      refine go_iconst kz_iconst_m1 dX9_copy_21 ?_
      obtain ⟨r_314, h_315, h⟩ := q_b h
      refine h_callVi (st := []) [.int (-1)] (m_X9_no h_315) me_X9_no (g_recv cl7.1 rfl) tw_1008 tw_1010 tw_23 (hdd_of (by decide)) ⟨Nat.zero_le _, Nat.zero_le _⟩ rfl rfl (Nat.le_of_ble_eq_true rfl) dX9_copy_22 ?_
      exact h_iret h dX9_copy_25 rfl
