/-! each method as a function of the memory (f_), and that the machine does it (m_); written by my own program out of the decoded rows -/
noncomputable def f_J0_isLatin1_aae02 (w0 : Nat) (ν : gN) : Option (Int32 × gN) :=
  if (1 : Int32) = 0 then
    some (0, ν)
  else
    if (0 : Int32) = 0 then
      some (1, ν)
    else
      some (0, ν)
theorem me_J0_isLatin1_aae02 : g_me yJ0_isLatin1_aae02 cJ0_isLatin1_aae02 1 ((Option.some .boolean)) 0 := ⟨tw_556, tw_83, ⟨by decide +kernel, by decide +kernel, by decide +kernel⟩, by decide⟩
set_option maxRecDepth 20000 in
set_option maxHeartbeats 2000000 in
theorem m_J0_isLatin1_aae02 {X : gX} {ad : Nat → Nat} {w0 : Nat} {ν : gN} {r : Int32 × gN} (hw0 : w0 < 7) (h : f_J0_isLatin1_aae02 w0 ν = some r) : h_ct X ad yJ0_isLatin1_aae02 cJ0_isLatin1_aae02 1 ((Option.some .boolean)) 1 [.ref (X.2.2.2.1 (10 + w0))] ν (some (.int r.1), r.2) := by
  rw [f_J0_isLatin1_aae02] at h
  refine h_ct_of (l := [(0, .ref (X.2.2.2.1 (10 + w0)))]) (by decide) (Nat.le_of_ble_eq_true rfl) rfl ?_
  refine go_getsC tw_547 dJ0_isLatin1_aae02_0 ?_
  refine go_if_eq (tgt := 17) dJ0_isLatin1_aae02_3 rfl (fun hc => ?_) (fun hc => ?_)
  · replace h := q_t h hc
    refine go_iconst kz_iconst_0 dJ0_isLatin1_aae02_17 ?_
    exact h_zret rfl h dJ0_isLatin1_aae02_18 rfl
  · replace h := q_f h hc
    refine go_aload_n rfl 0 rfl dJ0_isLatin1_aae02_6 ?_
    refine h_scod hw0 dJ0_isLatin1_aae02_7 ?_
    refine go_if_ne (tgt := 17) dJ0_isLatin1_aae02_10 rfl (fun hc => ?_) (fun hc => ?_)
    · replace h := q_f h hc
      refine go_iconst kz_iconst_0 dJ0_isLatin1_aae02_17 ?_
      exact h_zret rfl h dJ0_isLatin1_aae02_18 rfl
    · replace h := q_t h hc
      refine go_iconst kz_iconst_1 dJ0_isLatin1_aae02_13 ?_
      refine go_goto (tgt := 18) dJ0_isLatin1_aae02_14 rfl ?_
      exact h_zret rfl h dJ0_isLatin1_aae02_18 rfl
noncomputable def f_J3_checkIndex_8e157 (x0 : Int32) (x1 : Int32) (ν : gN) : Option (Int32 × gN) :=
  if x0 < 0 then
    none
  else
    if x0 < x1 then
      some (x0, ν)
    else
      none
theorem me_J3_checkIndex_8e157 : g_me yJ3_checkIndex_8e157 cJ3_checkIndex_8e157 3 ((Option.some .int)) 3 := ⟨tw_567, tw_85, ⟨by decide +kernel, by decide +kernel, by decide +kernel⟩, by decide⟩
set_option maxRecDepth 20000 in
set_option maxHeartbeats 2000000 in
theorem m_J3_checkIndex_8e157 {X : gX} {ad : Nat → Nat} {x0 : Int32} {x1 : Int32} {ν : gN} {r : Int32 × gN}  (h : f_J3_checkIndex_8e157 x0 x1 ν = some r) : h_ct X ad yJ3_checkIndex_8e157 cJ3_checkIndex_8e157 3 ((Option.some .int)) 1 [.int x0, .int x1, va_rf X.2.2.2.2.1] ν (some (.int r.1), r.2) := by
  rw [f_J3_checkIndex_8e157] at h
  refine h_ct_of (l := [(0, .int x0), (1, .int x1), (2, va_rf X.2.2.2.2.1)]) (by decide) (by rcases X.2.2.2.2.1 with _ | q <;> exact Nat.le_of_ble_eq_true rfl) rfl ?_
  refine go_iload_n rfl 0 rfl dJ3_checkIndex_8e157_0 ?_
  refine go_if_lt (tgt := 9) dJ3_checkIndex_8e157_1 rfl (fun hc => ?_) (fun hc => ?_)
  · replace h := q_t h hc
    exact q_n h
  · replace h := q_f h hc
    refine go_iload_n rfl 0 rfl dJ3_checkIndex_8e157_4 ?_
    refine go_iload_n rfl 1 rfl dJ3_checkIndex_8e157_5 ?_
    refine go_icmp_lt (tgt := 16) dJ3_checkIndex_8e157_6 rfl (fun hc => ?_) (fun hc => ?_)
    · replace h := q_t h hc
      refine go_iload_n rfl 0 rfl dJ3_checkIndex_8e157_16 ?_
      exact h_iret h dJ3_checkIndex_8e157_17 rfl
    · replace h := q_f h hc
      exact q_n h
noncomputable def f_J0_checkIndex_df160 (x0 : Int32) (x1 : Int32) (ν : gN) : Option (gN) :=
  (f_J3_checkIndex_8e157 x0 x1 ν).bind (fun r_1 =>
    some r_1.2)
theorem me_J0_checkIndex_df160 : g_me yJ0_checkIndex_df160 cJ0_checkIndex_df160 2 (none) 2 := ⟨tw_562, tw_83, ⟨by decide +kernel, by decide +kernel, by decide +kernel⟩, by decide⟩
set_option maxRecDepth 20000 in
set_option maxHeartbeats 2000000 in
theorem m_J0_checkIndex_df160 {X : gX} {ad : Nat → Nat} {x0 : Int32} {x1 : Int32} {ν : gN} {r : gN}  (h : f_J0_checkIndex_df160 x0 x1 ν = some r) : h_ct X ad yJ0_checkIndex_df160 cJ0_checkIndex_df160 2 (none) 2 [.int x0, .int x1] ν (none, r) := by
  rw [f_J0_checkIndex_df160] at h
  refine h_ct_of (l := [(0, .int x0), (1, .int x1)]) (by decide) (Nat.le_of_ble_eq_true rfl) rfl ?_
  refine go_iload_n rfl 0 rfl dJ0_checkIndex_df160_0 ?_
  refine go_iload_n rfl 1 rfl dJ0_checkIndex_df160_1 ?_
  refine go_getsF tw_563 dJ0_checkIndex_df160_2 ?_
  obtain ⟨r_1, h_2, h⟩ := q_b h
  refine h_callSi (st := []) [.int x0, .int x1, va_rf X.2.2.2.2.1] (m_J3_checkIndex_8e157 h_2) me_J3_checkIndex_8e157 tw_565 tw_566 (hdd_of (by decide)) ⟨Nat.zero_le _, Nat.zero_le _⟩ rfl rfl (Nat.le_of_ble_eq_true rfl) dJ0_checkIndex_df160_5 ?_
  refine go_pop rfl dJ0_checkIndex_df160_8 ?_
  exact h_vret h dJ0_checkIndex_df160_9 rfl
noncomputable def f_J1_charAt_3b067 (w0 : Nat) (x1 : Int32) (ν : gN) : Option (Int32 × gN) :=
  (f_J0_checkIndex_df160 x1 (nI (g_len.getD w0 0)) ν).bind (fun r_1 =>
    if inb x1 (g_len.getD w0 0) = true then
      if cb (j_i2c (((g_byt.getD w0 []).getD x1.toNatClampNeg 0) &&& 255)) = true then
        some (j_i2c (((g_byt.getD w0 []).getD x1.toNatClampNeg 0) &&& 255), r_1)
      else none
    else none)
theorem me_J1_charAt_3b067 : g_me yJ1_charAt_3b067 cJ1_charAt_3b067 2 ((Option.some .char)) 2 := ⟨tw_559, tw_84, ⟨by decide +kernel, by decide +kernel, by decide +kernel⟩, by decide⟩
set_option maxRecDepth 20000 in
set_option maxHeartbeats 2000000 in
theorem m_J1_charAt_3b067 {X : gX} {ad : Nat → Nat} {w0 : Nat} {x1 : Int32} {ν : gN} {r : Int32 × gN} (hw0 : w0 < 7) (h : f_J1_charAt_3b067 w0 x1 ν = some r) : h_ct X ad yJ1_charAt_3b067 cJ1_charAt_3b067 2 ((Option.some .char)) 3 [.ref (X.2.2.2.1 (20 + w0)), .int x1] ν (some (.int r.1), r.2) := by
  rw [f_J1_charAt_3b067] at h
  refine h_ct_of (l := [(0, .ref (X.2.2.2.1 (20 + w0))), (1, .int x1)]) (by decide) (Nat.le_of_ble_eq_true rfl) rfl ?_
  refine go_iload_n rfl 1 rfl dJ1_charAt_3b067_0 ?_
  refine go_aload_n rfl 0 rfl dJ1_charAt_3b067_1 ?_
  refine h_blen hw0 dJ1_charAt_3b067_2 ?_
  obtain ⟨r_1, h_2, h⟩ := q_b h
  refine h_callSv (st := []) [.int x1, .int (nI (g_len.getD w0 0))] (m_J0_checkIndex_df160 h_2) me_J0_checkIndex_df160 tw_560 tw_561 (hdd_of (by decide)) ⟨Nat.zero_le _, Nat.zero_le _⟩ rfl rfl (Nat.le_of_ble_eq_true rfl) dJ1_charAt_3b067_3 ?_
  refine go_aload_n rfl 0 rfl dJ1_charAt_3b067_6 ?_
  refine go_iload_n rfl 1 rfl dJ1_charAt_3b067_7 ?_
  obtain ⟨hg_3, h⟩ := q_g h
  refine h_bald hw0 hg_3 dJ1_charAt_3b067_8 ?_
  refine go_sipush kz_sipush_255 dJ1_charAt_3b067_9 ?_
  refine go_iand dJ1_charAt_3b067_12 ?_
  refine h_i2c dJ1_charAt_3b067_13 ?_
  obtain ⟨hg_4, h⟩ := q_g h
  exact h_xret (cb_n hg_4) h dJ1_charAt_3b067_14 rfl
noncomputable def f_J0_charAt_5068e (w0 : Nat) (x1 : Int32) (ν : gN) : Option (Int32 × gN) :=
  (f_J0_isLatin1_aae02 w0 ν).bind (fun r_1 =>
    if r_1.1 = 0 then
      none
    else
      (f_J1_charAt_3b067 w0 x1 r_1.2).bind (fun r_3 =>
        if cb r_3.1 = true then
          some (r_3.1, r_3.2)
        else none))
theorem me_J0_charAt_5068e : g_me yJ0_charAt_5068e cJ0_charAt_5068e 2 ((Option.some .char)) 1 := ⟨tw_552, tw_83, ⟨by decide +kernel, by decide +kernel, by decide +kernel⟩, by decide⟩
set_option maxRecDepth 20000 in
set_option maxHeartbeats 2000000 in
theorem m_J0_charAt_5068e {X : gX} {ad : Nat → Nat} {w0 : Nat} {x1 : Int32} {ν : gN} {r : Int32 × gN} (hw0 : w0 < 7) (h : f_J0_charAt_5068e w0 x1 ν = some r) : h_ct X ad yJ0_charAt_5068e cJ0_charAt_5068e 2 ((Option.some .char)) 4 [.ref (X.2.2.2.1 (10 + w0)), .int x1] ν (some (.int r.1), r.2) := by
  rw [f_J0_charAt_5068e] at h
  refine h_ct_of (l := [(0, .ref (X.2.2.2.1 (10 + w0))), (1, .int x1)]) (by decide) (Nat.le_of_ble_eq_true rfl) rfl ?_
  refine go_aload_n rfl 0 rfl dJ0_charAt_5068e_0 ?_
  obtain ⟨r_1, h_2, h⟩ := q_b h
  refine h_callVi (st := []) [] (m_J0_isLatin1_aae02 hw0 h_2) me_J0_isLatin1_aae02 (g_recvS hw0) tw_553 tw_554 tw_555 (hdd_of (by decide)) ⟨Nat.zero_le _, Nat.zero_le _⟩ rfl rfl (Nat.le_of_ble_eq_true rfl) dJ0_charAt_5068e_1 ?_
  refine go_if_eq (tgt := 16) dJ0_charAt_5068e_4 rfl (fun hc => ?_) (fun hc => ?_)
  · replace h := q_t h hc
    exact q_n h
  · replace h := q_f h hc
    refine go_aload_n rfl 0 rfl dJ0_charAt_5068e_7 ?_
    refine h_sval hw0 dJ0_charAt_5068e_8 ?_
    refine go_iload_n rfl 1 rfl dJ0_charAt_5068e_11 ?_
    obtain ⟨r_3, h_4, h⟩ := q_b h
    refine h_callSi (st := []) [.ref (X.2.2.2.1 (20 + w0)), .int x1] (m_J1_charAt_3b067 hw0 h_4) me_J1_charAt_3b067 tw_557 tw_558 (hdd_of (by decide)) ⟨Nat.zero_le _, Nat.zero_le _⟩ rfl rfl (Nat.le_of_ble_eq_true rfl) dJ0_charAt_5068e_12 ?_
    obtain ⟨hg_5, h⟩ := q_g h
    exact h_xret (cb_n hg_5) h dJ0_charAt_5068e_15 rfl
noncomputable def f_J0_coder_7d493 (w0 : Nat) (ν : gN) : Option (Int32 × gN) :=
  if (1 : Int32) = 0 then
    some (1, ν)
  else
    some (0, ν)
theorem me_J0_coder_7d493 : g_me yJ0_coder_7d493 cJ0_coder_7d493 1 ((Option.some .byte)) 0 := ⟨tw_546, tw_83, ⟨by decide +kernel, by decide +kernel, by decide +kernel⟩, by decide⟩
set_option maxRecDepth 20000 in
set_option maxHeartbeats 2000000 in
theorem m_J0_coder_7d493 {X : gX} {ad : Nat → Nat} {w0 : Nat} {ν : gN} {r : Int32 × gN} (hw0 : w0 < 7) (h : f_J0_coder_7d493 w0 ν = some r) : h_ct X ad yJ0_coder_7d493 cJ0_coder_7d493 1 ((Option.some .byte)) 1 [.ref (X.2.2.2.1 (10 + w0))] ν (some (.int r.1), r.2) := by
  rw [f_J0_coder_7d493] at h
  refine h_ct_of (l := [(0, .ref (X.2.2.2.1 (10 + w0)))]) (by decide) (Nat.le_of_ble_eq_true rfl) rfl ?_
  refine go_getsC tw_547 dJ0_coder_7d493_0 ?_
  refine go_if_eq (tgt := 13) dJ0_coder_7d493_3 rfl (fun hc => ?_) (fun hc => ?_)
  · replace h := q_t h hc
    refine go_iconst kz_iconst_1 dJ0_coder_7d493_13 ?_
    exact h_xret rfl h dJ0_coder_7d493_14 rfl
  · replace h := q_f h hc
    refine go_aload_n rfl 0 rfl dJ0_coder_7d493_6 ?_
    refine h_scod hw0 dJ0_coder_7d493_7 ?_
    refine go_goto (tgt := 14) dJ0_coder_7d493_10 rfl ?_
    exact h_xret rfl h dJ0_coder_7d493_14 rfl
noncomputable def f_J0_length_8abf5 (w0 : Nat) (ν : gN) : Option (Int32 × gN) :=
  (f_J0_coder_7d493 w0 ν).bind (fun r_1 =>
    some (j_shr (nI (g_len.getD w0 0)) r_1.1, r_1.2))
theorem me_J0_length_8abf5 : g_me yJ0_length_8abf5 cJ0_length_8abf5 1 ((Option.some .int)) 0 := ⟨tw_542, tw_83, ⟨by decide +kernel, by decide +kernel, by decide +kernel⟩, by decide⟩
set_option maxRecDepth 20000 in
set_option maxHeartbeats 2000000 in
theorem m_J0_length_8abf5 {X : gX} {ad : Nat → Nat} {w0 : Nat} {ν : gN} {r : Int32 × gN} (hw0 : w0 < 7) (h : f_J0_length_8abf5 w0 ν = some r) : h_ct X ad yJ0_length_8abf5 cJ0_length_8abf5 1 ((Option.some .int)) 2 [.ref (X.2.2.2.1 (10 + w0))] ν (some (.int r.1), r.2) := by
  rw [f_J0_length_8abf5] at h
  refine h_ct_of (l := [(0, .ref (X.2.2.2.1 (10 + w0)))]) (by decide) (Nat.le_of_ble_eq_true rfl) rfl ?_
  refine go_aload_n rfl 0 rfl dJ0_length_8abf5_0 ?_
  refine h_sval hw0 dJ0_length_8abf5_1 ?_
  refine h_blen hw0 dJ0_length_8abf5_4 ?_
  refine go_aload_n rfl 0 rfl dJ0_length_8abf5_5 ?_
  obtain ⟨r_1, h_2, h⟩ := q_b h
  refine h_callVi (st := [.int (nI (g_len.getD w0 0))]) [] (m_J0_coder_7d493 hw0 h_2) me_J0_coder_7d493 (g_recvS hw0) tw_543 tw_544 tw_545 (hdd_of (by decide)) ⟨Nat.zero_le _, Nat.zero_le _⟩ rfl rfl (Nat.le_of_ble_eq_true rfl) dJ0_length_8abf5_6 ?_
  refine h_ishr dJ0_length_8abf5_9 ?_
  exact h_iret h dJ0_length_8abf5_10 rfl
noncomputable def f_J13_bitCount_95d88 (x0 : Int64) (ν : gN) : Option (Int32 × gN) :=
  qL (x0 - ((j_lushr x0 1) &&& 6148914691236517205)) (fun v_1 =>
    qL ((v_1 &&& 3689348814741910323) + ((j_lushr v_1 2) &&& 3689348814741910323)) (fun v_3 =>
      qL ((v_3 + (j_lushr v_3 4)) &&& 1085102592571150095) (fun v_5 =>
        qL (v_5 + (j_lushr v_5 8)) (fun v_7 =>
          qL (v_7 + (j_lushr v_7 16)) (fun v_9 =>
            qL (v_9 + (j_lushr v_9 32)) (fun v_11 =>
              some (v_11.toInt32 &&& 127, ν)))))))
theorem me_J13_bitCount_95d88 : g_me yJ13_bitCount_95d88 cJ13_bitCount_95d88 2 ((Option.some .int)) 1 := ⟨tw_768, tw_88, ⟨by decide +kernel, by decide +kernel, by decide +kernel⟩, by decide⟩
set_option maxRecDepth 20000 in
set_option maxHeartbeats 2000000 in
theorem m_J13_bitCount_95d88 {X : gX} {ad : Nat → Nat} {x0 : Int64} {ν : gN} {r : Int32 × gN}  (h : f_J13_bitCount_95d88 x0 ν = some r) : h_ct X ad yJ13_bitCount_95d88 cJ13_bitCount_95d88 2 ((Option.some .int)) 1 [.long x0] ν (some (.int r.1), r.2) := by
  rw [f_J13_bitCount_95d88] at h
  refine h_ct_of (l := [(0, .long x0)]) (by decide) (Nat.le_of_ble_eq_true rfl) rfl ?_
  refine go_lload_n rfl 0 rfl dJ13_bitCount_95d88_0 ?_
  refine go_lload_n rfl 0 rfl dJ13_bitCount_95d88_1 ?_
  refine go_iconst kz_iconst_1 dJ13_bitCount_95d88_2 ?_
  refine h_lushr dJ13_bitCount_95d88_3 ?_
  refine go_ldc2 (v := 6148914691236517205) tw_769 dJ13_bitCount_95d88_4 ?_
  refine go_land dJ13_bitCount_95d88_7 ?_
  refine go_lsub dJ13_bitCount_95d88_8 ?_
  obtain ⟨v_1, e_2, h⟩ := q_l h
  refine h_nameL e_2 ?_
  refine go_lstore_n (l' := [(0, .long v_1)]) dJ13_bitCount_95d88_9 rfl (by decide) rfl ?_
  refine go_lload_n rfl 0 rfl dJ13_bitCount_95d88_10 ?_
  refine go_ldc2 (v := 3689348814741910323) tw_770 dJ13_bitCount_95d88_11 ?_
  refine go_land dJ13_bitCount_95d88_14 ?_
  refine go_lload_n rfl 0 rfl dJ13_bitCount_95d88_15 ?_
  refine go_iconst kz_iconst_2 dJ13_bitCount_95d88_16 ?_
  refine h_lushr dJ13_bitCount_95d88_17 ?_
  refine go_ldc2 (v := 3689348814741910323) tw_770 dJ13_bitCount_95d88_18 ?_
  refine go_land dJ13_bitCount_95d88_21 ?_
  refine go_ladd dJ13_bitCount_95d88_22 ?_
  obtain ⟨v_3, e_4, h⟩ := q_l h
  refine h_nameL e_4 ?_
  refine go_lstore_n (l' := [(0, .long v_3)]) dJ13_bitCount_95d88_23 rfl (by decide) rfl ?_
  refine go_lload_n rfl 0 rfl dJ13_bitCount_95d88_24 ?_
  refine go_lload_n rfl 0 rfl dJ13_bitCount_95d88_25 ?_
  refine go_iconst kz_iconst_4 dJ13_bitCount_95d88_26 ?_
  refine h_lushr dJ13_bitCount_95d88_27 ?_
  refine go_ladd dJ13_bitCount_95d88_28 ?_
  refine go_ldc2 (v := 1085102592571150095) tw_771 dJ13_bitCount_95d88_29 ?_
  refine go_land dJ13_bitCount_95d88_32 ?_
  obtain ⟨v_5, e_6, h⟩ := q_l h
  refine h_nameL e_6 ?_
  refine go_lstore_n (l' := [(0, .long v_5)]) dJ13_bitCount_95d88_33 rfl (by decide) rfl ?_
  refine go_lload_n rfl 0 rfl dJ13_bitCount_95d88_34 ?_
  refine go_lload_n rfl 0 rfl dJ13_bitCount_95d88_35 ?_
  refine go_bipush kz_bipush_8 dJ13_bitCount_95d88_36 ?_
  refine h_lushr dJ13_bitCount_95d88_38 ?_
  refine go_ladd dJ13_bitCount_95d88_39 ?_
  obtain ⟨v_7, e_8, h⟩ := q_l h
  refine h_nameL e_8 ?_
  refine go_lstore_n (l' := [(0, .long v_7)]) dJ13_bitCount_95d88_40 rfl (by decide) rfl ?_
  refine go_lload_n rfl 0 rfl dJ13_bitCount_95d88_41 ?_
  refine go_lload_n rfl 0 rfl dJ13_bitCount_95d88_42 ?_
  refine go_bipush kz_bipush_16 dJ13_bitCount_95d88_43 ?_
  refine h_lushr dJ13_bitCount_95d88_45 ?_
  refine go_ladd dJ13_bitCount_95d88_46 ?_
  obtain ⟨v_9, e_10, h⟩ := q_l h
  refine h_nameL e_10 ?_
  refine go_lstore_n (l' := [(0, .long v_9)]) dJ13_bitCount_95d88_47 rfl (by decide) rfl ?_
  refine go_lload_n rfl 0 rfl dJ13_bitCount_95d88_48 ?_
  refine go_lload_n rfl 0 rfl dJ13_bitCount_95d88_49 ?_
  refine go_bipush kz_bipush_32 dJ13_bitCount_95d88_50 ?_
  refine h_lushr dJ13_bitCount_95d88_52 ?_
  refine go_ladd dJ13_bitCount_95d88_53 ?_
  obtain ⟨v_11, e_12, h⟩ := q_l h
  refine h_nameL e_12 ?_
  refine go_lstore_n (l' := [(0, .long v_11)]) dJ13_bitCount_95d88_54 rfl (by decide) rfl ?_
  refine go_lload_n rfl 0 rfl dJ13_bitCount_95d88_55 ?_
  refine go_l2i dJ13_bitCount_95d88_56 ?_
  refine go_bipush kz_bipush_127 dJ13_bitCount_95d88_57 ?_
  refine go_iand dJ13_bitCount_95d88_59 ?_
  exact h_iret h dJ13_bitCount_95d88_60 rfl
noncomputable def f_J6_bitCount_0f7a4 (x0 : Int32) (ν : gN) : Option (Int32 × gN) :=
  qL (x0 - ((j_ushr x0 1) &&& 1431655765)) (fun v_1 =>
    qL ((v_1 &&& 858993459) + ((j_ushr v_1 2) &&& 858993459)) (fun v_3 =>
      qL ((v_3 + (j_ushr v_3 4)) &&& 252645135) (fun v_5 =>
        qL (v_5 + (j_ushr v_5 8)) (fun v_7 =>
          qL (v_7 + (j_ushr v_7 16)) (fun v_9 =>
            some (v_9 &&& 63, ν))))))
theorem me_J6_bitCount_0f7a4 : g_me yJ6_bitCount_0f7a4 cJ6_bitCount_0f7a4 1 ((Option.some .int)) 1 := ⟨tw_796, tw_90, ⟨by decide +kernel, by decide +kernel, by decide +kernel⟩, by decide⟩
set_option maxRecDepth 20000 in
set_option maxHeartbeats 2000000 in
theorem m_J6_bitCount_0f7a4 {X : gX} {ad : Nat → Nat} {x0 : Int32} {ν : gN} {r : Int32 × gN}  (h : f_J6_bitCount_0f7a4 x0 ν = some r) : h_ct X ad yJ6_bitCount_0f7a4 cJ6_bitCount_0f7a4 1 ((Option.some .int)) 1 [.int x0] ν (some (.int r.1), r.2) := by
  rw [f_J6_bitCount_0f7a4] at h
  refine h_ct_of (l := [(0, .int x0)]) (by decide) (Nat.le_of_ble_eq_true rfl) rfl ?_
  refine go_iload_n rfl 0 rfl dJ6_bitCount_0f7a4_0 ?_
  refine go_iload_n rfl 0 rfl dJ6_bitCount_0f7a4_1 ?_
  refine go_iconst kz_iconst_1 dJ6_bitCount_0f7a4_2 ?_
  refine h_iushr dJ6_bitCount_0f7a4_3 ?_
  refine go_ldcw (v := 1431655765) tw_797 dJ6_bitCount_0f7a4_4 ?_
  refine go_iand dJ6_bitCount_0f7a4_7 ?_
  refine go_isub dJ6_bitCount_0f7a4_8 ?_
  obtain ⟨v_1, e_2, h⟩ := q_l h
  refine h_name e_2 ?_
  refine go_istore_n (l' := [(0, .int v_1)]) dJ6_bitCount_0f7a4_9 rfl (by decide) rfl ?_
  refine go_iload_n rfl 0 rfl dJ6_bitCount_0f7a4_10 ?_
  refine go_ldcw (v := 858993459) tw_798 dJ6_bitCount_0f7a4_11 ?_
  refine go_iand dJ6_bitCount_0f7a4_14 ?_
  refine go_iload_n rfl 0 rfl dJ6_bitCount_0f7a4_15 ?_
  refine go_iconst kz_iconst_2 dJ6_bitCount_0f7a4_16 ?_
  refine h_iushr dJ6_bitCount_0f7a4_17 ?_
  refine go_ldcw (v := 858993459) tw_798 dJ6_bitCount_0f7a4_18 ?_
  refine go_iand dJ6_bitCount_0f7a4_21 ?_
  refine go_iadd dJ6_bitCount_0f7a4_22 ?_
  obtain ⟨v_3, e_4, h⟩ := q_l h
  refine h_name e_4 ?_
  refine go_istore_n (l' := [(0, .int v_3)]) dJ6_bitCount_0f7a4_23 rfl (by decide) rfl ?_
  refine go_iload_n rfl 0 rfl dJ6_bitCount_0f7a4_24 ?_
  refine go_iload_n rfl 0 rfl dJ6_bitCount_0f7a4_25 ?_
  refine go_iconst kz_iconst_4 dJ6_bitCount_0f7a4_26 ?_
  refine h_iushr dJ6_bitCount_0f7a4_27 ?_
  refine go_iadd dJ6_bitCount_0f7a4_28 ?_
  refine go_ldcw (v := 252645135) tw_799 dJ6_bitCount_0f7a4_29 ?_
  refine go_iand dJ6_bitCount_0f7a4_32 ?_
  obtain ⟨v_5, e_6, h⟩ := q_l h
  refine h_name e_6 ?_
  refine go_istore_n (l' := [(0, .int v_5)]) dJ6_bitCount_0f7a4_33 rfl (by decide) rfl ?_
  refine go_iload_n rfl 0 rfl dJ6_bitCount_0f7a4_34 ?_
  refine go_iload_n rfl 0 rfl dJ6_bitCount_0f7a4_35 ?_
  refine go_bipush kz_bipush_8 dJ6_bitCount_0f7a4_36 ?_
  refine h_iushr dJ6_bitCount_0f7a4_38 ?_
  refine go_iadd dJ6_bitCount_0f7a4_39 ?_
  obtain ⟨v_7, e_8, h⟩ := q_l h
  refine h_name e_8 ?_
  refine go_istore_n (l' := [(0, .int v_7)]) dJ6_bitCount_0f7a4_40 rfl (by decide) rfl ?_
  refine go_iload_n rfl 0 rfl dJ6_bitCount_0f7a4_41 ?_
  refine go_iload_n rfl 0 rfl dJ6_bitCount_0f7a4_42 ?_
  refine go_bipush kz_bipush_16 dJ6_bitCount_0f7a4_43 ?_
  refine h_iushr dJ6_bitCount_0f7a4_45 ?_
  refine go_iadd dJ6_bitCount_0f7a4_46 ?_
  obtain ⟨v_9, e_10, h⟩ := q_l h
  refine h_name e_10 ?_
  refine go_istore_n (l' := [(0, .int v_9)]) dJ6_bitCount_0f7a4_47 rfl (by decide) rfl ?_
  refine go_iload_n rfl 0 rfl dJ6_bitCount_0f7a4_48 ?_
  refine go_bipush kz_bipush_63 dJ6_bitCount_0f7a4_49 ?_
  refine go_iand dJ6_bitCount_0f7a4_51 ?_
  exact h_iret h dJ6_bitCount_0f7a4_52 rfl
noncomputable def f_J7_fill_53178_L5 (y0 : Nat) (Ny0 : Nat) (y1 : Int32) (y3 : Int32) (k20 : gN → Option (gN)) : Nat → Int32 → gN → Option (gN)
  | 0, _, _ => none
  | n + 1, y2, ν =>
    if y3 ≤ y2 then
      k20  ν
    else
      if inb y2 Ny0 = true then
        qL (nWI ν y0 y2.toNatClampNeg y1) (fun ν_2 =>
          f_J7_fill_53178_L5 y0 Ny0 y1 y3 k20 n (y2 + 1) ν_2)
      else none
noncomputable def f_J7_fill_53178 (a0 : Nat) (N0 : Nat) (x1 : Int32) (ν : gN) : Option (gN) :=
  f_J7_fill_53178_L5 a0 N0 x1 (nI N0) (fun ν_4 =>
    some ν_4) FU 0 ν
theorem me_J7_fill_53178 : g_me yJ7_fill_53178 cJ7_fill_53178 4 (none) 2 := ⟨tw_642, tw_80, ⟨by decide +kernel, by decide +kernel, by decide +kernel⟩, by decide⟩
set_option maxRecDepth 20000 in
set_option maxHeartbeats 2000000 in
theorem m_J7_fill_53178_L5 {X : gX} {ad : Nat → Nat} {y0 : Nat} {Ny0 : Nat} {y1 : Int32} {y3 : Int32} {k20 : gN → Option (gN)} (hy0 : SH[y0]? = some (0, Ny0)) : ∀ (n : Nat) (y2 : Int32) (ν : gN) (r : gN), f_J7_fill_53178_L5 y0 Ny0 y1 y3 k20 n y2 ν = some r → (∀ (ν1 : gN), k20 ν1 = some r → h_go X ad RJ7 "fill" cJ7_fill_53178 4 (none) 1 (none, r) 20 [] [] ν1) → h_go X ad RJ7 "fill" cJ7_fill_53178 4 (none) 1 (none, r) 5 [(0, .ref (ad y0)), (1, .int y1), (2, .int y2), (3, .int y3)] [] ν := by
  intro n
  induction n with
  | zero => intro y2 ν r h hk20; rw [f_J7_fill_53178_L5] at h; exact q_n h
  | succ n ih =>
    intro y2 ν r h hk20
    rw [f_J7_fill_53178_L5] at h
    refine go_iload_n rfl 2 rfl dJ7_fill_53178_5 ?_
    refine go_iload_n rfl 3 rfl dJ7_fill_53178_6 ?_
    refine go_icmp_ge (tgt := 20) dJ7_fill_53178_7 rfl (fun hc => ?_) (fun hc => ?_)
    · replace h := q_t h hc
      refine go_sub (l' := []) [] rfl ?_
      exact hk20  _ h
    · replace h := q_f h hc
      refine go_aload_n rfl 0 rfl dJ7_fill_53178_10 ?_
      refine go_iload_n rfl 2 rfl dJ7_fill_53178_11 ?_
      refine go_iload_n rfl 1 rfl dJ7_fill_53178_12 ?_
      obtain ⟨hg_1, h⟩ := q_g h
      obtain ⟨ν_2, e_3, h⟩ := q_l h
      refine h_iast Ny0 hy0 hg_1 e_3 dJ7_fill_53178_13 ?_
      refine h_iinc (l' := [(2, .int (y2 + 1)), (0, .ref (ad y0)), (1, .int y1), (3, .int y3)]) dJ7_fill_53178_14 2 rfl kz_iconst_1 (by decide) rfl ?_
      refine go_goto (tgt := 5) dJ7_fill_53178_17 rfl ?_
      refine go_sub (l' := [(0, .ref (ad y0)), (1, .int y1), (2, .int (y2 + 1)), (3, .int y3)]) [1, 2, 0, 3] rfl ?_
      exact ih _ _ _ h hk20
set_option maxRecDepth 20000 in
set_option maxHeartbeats 2000000 in
theorem m_J7_fill_53178 {X : gX} {ad : Nat → Nat} {a0 : Nat} {N0 : Nat} {x1 : Int32} {ν : gN} {r : gN} (ha0 : SH[a0]? = some (0, N0)) (h : f_J7_fill_53178 a0 N0 x1 ν = some r) : h_ct X ad yJ7_fill_53178 cJ7_fill_53178 4 (none) 1 [.ref (ad a0), .int x1] ν (none, r) := by
  rw [f_J7_fill_53178] at h
  refine h_ct_of (l := [(0, .ref (ad a0)), (1, .int x1)]) (by decide) (Nat.le_of_ble_eq_true rfl) rfl ?_
  refine go_iconst kz_iconst_0 dJ7_fill_53178_0 ?_
  refine go_istore_n (l' := [(2, .int 0), (0, .ref (ad a0)), (1, .int x1)]) dJ7_fill_53178_1 rfl (by decide) rfl ?_
  refine go_aload_n rfl 1 rfl dJ7_fill_53178_2 ?_
  refine go_ilen (v := nI N0) ha0 rfl dJ7_fill_53178_3 ?_
  refine go_istore_n (l' := [(3, .int (nI N0)), (2, .int 0), (0, .ref (ad a0)), (1, .int x1)]) dJ7_fill_53178_4 rfl (by decide) rfl ?_
  refine go_sub (l' := [(0, .ref (ad a0)), (1, .int x1), (2, .int 0), (3, .int (nI N0))]) [2, 3, 1, 0] rfl ?_
  refine m_J7_fill_53178_L5 ha0 FU _ _ _ h (fun ν_4 h => ?_)
  exact h_vret h dJ7_fill_53178_20 rfl
noncomputable def f_J7_fill_d0a16_L6 (y0 : Nat) (Ny0 : Nat) (y1 : Int64) (y4 : Int32) (k22 : gN → Option (gN)) : Nat → Int32 → gN → Option (gN)
  | 0, _, _ => none
  | n + 1, y3, ν =>
    if y4 ≤ y3 then
      k22  ν
    else
      if inb y3 Ny0 = true then
        qL (nWL ν y0 y3.toNatClampNeg y1) (fun ν_2 =>
          f_J7_fill_d0a16_L6 y0 Ny0 y1 y4 k22 n (y3 + 1) ν_2)
      else none
noncomputable def f_J7_fill_d0a16 (a0 : Nat) (N0 : Nat) (x1 : Int64) (ν : gN) : Option (gN) :=
  f_J7_fill_d0a16_L6 a0 N0 x1 (nI N0) (fun ν_4 =>
    some ν_4) FU 0 ν
theorem me_J7_fill_d0a16 : g_me yJ7_fill_d0a16 cJ7_fill_d0a16 5 (none) 2 := ⟨tw_333, tw_80, ⟨by decide +kernel, by decide +kernel, by decide +kernel⟩, by decide⟩
set_option maxRecDepth 20000 in
set_option maxHeartbeats 2000000 in
theorem m_J7_fill_d0a16_L6 {X : gX} {ad : Nat → Nat} {y0 : Nat} {Ny0 : Nat} {y1 : Int64} {y4 : Int32} {k22 : gN → Option (gN)} (hy0 : SH[y0]? = some (1, Ny0)) : ∀ (n : Nat) (y3 : Int32) (ν : gN) (r : gN), f_J7_fill_d0a16_L6 y0 Ny0 y1 y4 k22 n y3 ν = some r → (∀ (ν1 : gN), k22 ν1 = some r → h_go X ad RJ7 "fill" cJ7_fill_d0a16 5 (none) 1 (none, r) 22 [] [] ν1) → h_go X ad RJ7 "fill" cJ7_fill_d0a16 5 (none) 1 (none, r) 6 [(0, .ref (ad y0)), (1, .long y1), (3, .int y3), (4, .int y4)] [] ν := by
  intro n
  induction n with
  | zero => intro y3 ν r h hk22; rw [f_J7_fill_d0a16_L6] at h; exact q_n h
  | succ n ih =>
    intro y3 ν r h hk22
    rw [f_J7_fill_d0a16_L6] at h
    refine go_iload_n rfl 2 rfl dJ7_fill_d0a16_6 ?_
    refine go_iload 3 rfl dJ7_fill_d0a16_7 ?_
    refine go_icmp_ge (tgt := 22) dJ7_fill_d0a16_9 rfl (fun hc => ?_) (fun hc => ?_)
    · replace h := q_t h hc
      refine go_sub (l' := []) [] rfl ?_
      exact hk22  _ h
    · replace h := q_f h hc
      refine go_aload_n rfl 0 rfl dJ7_fill_d0a16_12 ?_
      refine go_iload_n rfl 2 rfl dJ7_fill_d0a16_13 ?_
      refine go_lload_n rfl 1 rfl dJ7_fill_d0a16_14 ?_
      obtain ⟨hg_1, h⟩ := q_g h
      obtain ⟨ν_2, e_3, h⟩ := q_l h
      refine h_last Ny0 hy0 hg_1 e_3 dJ7_fill_d0a16_15 ?_
      refine h_iinc (l' := [(3, .int (y3 + 1)), (0, .ref (ad y0)), (1, .long y1), (4, .int y4)]) dJ7_fill_d0a16_16 2 rfl kz_iconst_1 (by decide) rfl ?_
      refine go_goto (tgt := 6) dJ7_fill_d0a16_19 rfl ?_
      refine go_sub (l' := [(0, .ref (ad y0)), (1, .long y1), (3, .int (y3 + 1)), (4, .int y4)]) [1, 2, 0, 3] rfl ?_
      exact ih _ _ _ h hk22
set_option maxRecDepth 20000 in
set_option maxHeartbeats 2000000 in
theorem m_J7_fill_d0a16 {X : gX} {ad : Nat → Nat} {a0 : Nat} {N0 : Nat} {x1 : Int64} {ν : gN} {r : gN} (ha0 : SH[a0]? = some (1, N0)) (h : f_J7_fill_d0a16 a0 N0 x1 ν = some r) : h_ct X ad yJ7_fill_d0a16 cJ7_fill_d0a16 5 (none) 1 [.ref (ad a0), .long x1] ν (none, r) := by
  rw [f_J7_fill_d0a16] at h
  refine h_ct_of (l := [(0, .ref (ad a0)), (1, .long x1)]) (by decide) (Nat.le_of_ble_eq_true rfl) rfl ?_
  refine go_iconst kz_iconst_0 dJ7_fill_d0a16_0 ?_
  refine go_istore_n (l' := [(3, .int 0), (0, .ref (ad a0)), (1, .long x1)]) dJ7_fill_d0a16_1 rfl (by decide) rfl ?_
  refine go_aload_n rfl 1 rfl dJ7_fill_d0a16_2 ?_
  refine go_llen (v := nI N0) ha0 rfl dJ7_fill_d0a16_3 ?_
  refine go_istore (l' := [(4, .int (nI N0)), (3, .int 0), (0, .ref (ad a0)), (1, .long x1)]) dJ7_fill_d0a16_4 (by decide) rfl ?_
  refine go_sub (l' := [(0, .ref (ad a0)), (1, .long x1), (3, .int 0), (4, .int (nI N0))]) [2, 3, 1, 0] rfl ?_
  refine m_J7_fill_d0a16_L6 ha0 FU _ _ _ h (fun ν_4 h => ?_)
  exact h_vret h dJ7_fill_d0a16_22 rfl
noncomputable def f_X8_isIn (x0 : Int32) (x1 : Int32) (ν : gN) : Option (Int32 × gN) :=
  if ((j_ushr x0 x1) &&& 1) = 0 then
    some (0, ν)
  else
    some (1, ν)
theorem me_X8_isIn : g_me yX8_isIn cX8_isIn 2 ((Option.some .boolean)) 2 := ⟨tw_692, tw_72, ⟨by decide +kernel, by decide +kernel, by decide +kernel⟩, by decide⟩
set_option maxRecDepth 20000 in
set_option maxHeartbeats 2000000 in
theorem m_X8_isIn {X : gX} {ad : Nat → Nat} {x0 : Int32} {x1 : Int32} {ν : gN} {r : Int32 × gN}  (h : f_X8_isIn x0 x1 ν = some r) : h_ct X ad yX8_isIn cX8_isIn 2 ((Option.some .boolean)) 1 [.int x0, .int x1] ν (some (.int r.1), r.2) := by
  rw [f_X8_isIn] at h
  refine h_ct_of (l := [(0, .int x0), (1, .int x1)]) (by decide) (Nat.le_of_ble_eq_true rfl) rfl ?_
  refine go_iload_n rfl 0 rfl dX8_isIn_0 ?_
  refine go_iload_n rfl 1 rfl dX8_isIn_1 ?_
  refine h_iushr dX8_isIn_2 ?_
  refine go_iconst kz_iconst_1 dX8_isIn_3 ?_
  refine go_iand dX8_isIn_4 ?_
  refine go_if_eq (tgt := 12) dX8_isIn_5 rfl (fun hc => ?_) (fun hc => ?_)
  · replace h := q_t h hc
    refine go_iconst kz_iconst_0 dX8_isIn_12 ?_
    exact h_zret rfl h dX8_isIn_13 rfl
  · replace h := q_f h hc
    refine go_iconst kz_iconst_1 dX8_isIn_8 ?_
    refine go_goto (tgt := 13) dX8_isIn_9 rfl ?_
    exact h_zret rfl h dX8_isIn_13 rfl
noncomputable def f_X0_weightOf_L4 (y0 : Nat) (y1 : Int32) (k41 : Int32 → gN → Option (Int32 × gN)) : Nat → Int32 → Int32 → gN → Option (Int32 × gN)
  | 0, _, _, _ => none
  | n + 1, y2, y3, ν =>
    if (ν.1 y0 6) ≤ y3 then
      k41 y2 ν
    else
      (f_X8_isIn y1 y3 ν).bind (fun r_1 =>
        if r_1.1 = 0 then
          f_X0_weightOf_L4 y0 y1 k41 n (y2 + 0) (y3 + 1) r_1.2
        else
          if inb y3 7 = true then
            f_X0_weightOf_L4 y0 y1 k41 n (y2 + ((r_1.2.1 (y0 + 2) y3.toNatClampNeg) + 1)) (y3 + 1) r_1.2
          else none)
noncomputable def f_X0_weightOf (p0 : Nat) (x1 : Int32) (ν : gN) : Option (Int32 × gN) :=
  f_X0_weightOf_L4 p0 x1 (fun z2_4 ν_5 =>
    some (z2_4, ν_5)) FU 0 0 ν
theorem me_X0_weightOf : g_me yX0_weightOf cX0_weightOf 4 ((Option.some .int)) 2 := ⟨tw_789, tw_89, ⟨by decide +kernel, by decide +kernel, by decide +kernel⟩, by decide⟩
set_option maxRecDepth 20000 in
set_option maxHeartbeats 2000000 in
theorem m_X0_weightOf_L4 {X : gX} {ad : Nat → Nat} {y0 : Nat} {y1 : Int32} {k41 : Int32 → gN → Option (Int32 × gN)} (hy0 : isP y0) : ∀ (n : Nat) (y2 : Int32) (y3 : Int32) (ν : gN) (r : Int32 × gN), f_X0_weightOf_L4 y0 y1 k41 n y2 y3 ν = some r → (∀ (z2 : Int32) (ν1 : gN), k41 z2 ν1 = some r → h_go X ad RX0 "weightOf" cX0_weightOf 4 ((Option.some .int)) 2 (some (.int r.1), r.2) 41 [(2, .int z2)] [] ν1) → h_go X ad RX0 "weightOf" cX0_weightOf 4 ((Option.some .int)) 2 (some (.int r.1), r.2) 4 [(0, .ref (ad y0)), (1, .int y1), (2, .int y2), (3, .int y3)] [] ν := by
  intro n
  induction n with
  | zero => intro y2 y3 ν r h hk41; rw [f_X0_weightOf_L4] at h; exact q_n h
  | succ n ih =>
    intro y2 y3 ν r h hk41
    rw [f_X0_weightOf_L4] at h
    refine go_iload_n rfl 3 rfl dX0_weightOf_4 ?_
    refine go_aload_n rfl 0 rfl dX0_weightOf_5 ?_
    refine h_getiN 6 cl2 (shP hy0) (by decide) tw_124 rfl dX0_weightOf_6 ?_
    refine go_icmp_ge (tgt := 41) dX0_weightOf_9 rfl (fun hc => ?_) (fun hc => ?_)
    · replace h := q_t h hc
      refine go_sub (l' := [(2, .int y2)]) [2] rfl ?_
      exact hk41 _ _ h
    · replace h := q_f h hc
      refine go_iload_n rfl 2 rfl dX0_weightOf_12 ?_
      refine go_iload_n rfl 1 rfl dX0_weightOf_13 ?_
      refine go_iload_n rfl 3 rfl dX0_weightOf_14 ?_
      obtain ⟨r_1, h_2, h⟩ := q_b h
      refine h_callSNi (st := [.int y2]) [.int y1, .int y3] (m_X8_isIn h_2) me_X8_isIn tw_790 tw_691 (hdd_of (by decide)) ⟨Nat.zero_le _, Nat.zero_le _⟩ rfl rfl (Nat.le_of_ble_eq_true rfl) dX0_weightOf_15 ?_
      refine go_if_eq (tgt := 32) dX0_weightOf_18 rfl (fun hc => ?_) (fun hc => ?_)
      · replace h := q_t h hc
        refine go_iconst kz_iconst_0 dX0_weightOf_32 ?_
        refine go_iadd dX0_weightOf_33 ?_
        refine go_istore_n (l' := [(2, .int (y2 + 0)), (0, .ref (ad y0)), (1, .int y1), (3, .int y3)]) dX0_weightOf_34 rfl (by decide) rfl ?_
        refine h_iinc (l' := [(3, .int (y3 + 1)), (2, .int (y2 + 0)), (0, .ref (ad y0)), (1, .int y1)]) dX0_weightOf_35 3 rfl kz_iconst_1 (by decide) rfl ?_
        refine go_goto (tgt := 4) dX0_weightOf_38 rfl ?_
        refine go_sub (l' := [(0, .ref (ad y0)), (1, .int y1), (2, .int (y2 + 0)), (3, .int (y3 + 1))]) [2, 3, 1, 0] rfl ?_
        exact ih _ _ _ _ h hk41
      · replace h := q_f h hc
        refine go_aload_n rfl 0 rfl dX0_weightOf_21 ?_
        refine h_getrN 1 cl2 (shP hy0) (by decide) tw_109 (y0 + 2) (fvP1 hy0) dX0_weightOf_22 ?_
        refine go_iload_n rfl 3 rfl dX0_weightOf_25 ?_
        obtain ⟨hg_3, h⟩ := q_g h
        refine h_iald 7 (shP2 hy0) hg_3 dX0_weightOf_26 ?_
        refine go_iconst kz_iconst_1 dX0_weightOf_27 ?_
        refine go_iadd dX0_weightOf_28 ?_
        refine go_goto (tgt := 33) dX0_weightOf_29 rfl ?_
        refine go_iadd dX0_weightOf_33 ?_
        refine go_istore_n (l' := [(2, .int (y2 + ((r_1.2.1 (y0 + 2) y3.toNatClampNeg) + 1))), (0, .ref (ad y0)), (1, .int y1), (3, .int y3)]) dX0_weightOf_34 rfl (by decide) rfl ?_
        refine h_iinc (l' := [(3, .int (y3 + 1)), (2, .int (y2 + ((r_1.2.1 (y0 + 2) y3.toNatClampNeg) + 1))), (0, .ref (ad y0)), (1, .int y1)]) dX0_weightOf_35 3 rfl kz_iconst_1 (by decide) rfl ?_
        refine go_goto (tgt := 4) dX0_weightOf_38 rfl ?_
        refine go_sub (l' := [(0, .ref (ad y0)), (1, .int y1), (2, .int (y2 + ((r_1.2.1 (y0 + 2) y3.toNatClampNeg) + 1))), (3, .int (y3 + 1))]) [2, 3, 1, 0] rfl ?_
        exact ih _ _ _ _ h hk41
set_option maxRecDepth 20000 in
set_option maxHeartbeats 2000000 in
theorem m_X0_weightOf {X : gX} {ad : Nat → Nat} {p0 : Nat} {x1 : Int32} {ν : gN} {r : Int32 × gN} (hp0 : isP p0) (h : f_X0_weightOf p0 x1 ν = some r) : h_ct X ad yX0_weightOf cX0_weightOf 4 ((Option.some .int)) 2 [.ref (ad p0), .int x1] ν (some (.int r.1), r.2) := by
  rw [f_X0_weightOf] at h
  refine h_ct_of (l := [(0, .ref (ad p0)), (1, .int x1)]) (by decide) (Nat.le_of_ble_eq_true rfl) rfl ?_
  refine go_iconst kz_iconst_0 dX0_weightOf_0 ?_
  refine go_istore_n (l' := [(2, .int 0), (0, .ref (ad p0)), (1, .int x1)]) dX0_weightOf_1 rfl (by decide) rfl ?_
  refine go_iconst kz_iconst_0 dX0_weightOf_2 ?_
  refine go_istore_n (l' := [(3, .int 0), (2, .int 0), (0, .ref (ad p0)), (1, .int x1)]) dX0_weightOf_3 rfl (by decide) rfl ?_
  refine go_sub (l' := [(0, .ref (ad p0)), (1, .int x1), (2, .int 0), (3, .int 0)]) [2, 3, 1, 0] rfl ?_
  refine m_X0_weightOf_L4 hp0 FU _ _ _ _ h (fun z2_4 ν_5 h => ?_)
  refine go_iload_n rfl 0 rfl dX0_weightOf_41 ?_
  exact h_iret h dX0_weightOf_42 rfl
noncomputable def f_X0_isCarrying (p0 : Nat) (x1 : Int32) (x2 : Int32) (ν : gN) : Option (Int32 × gN) :=
  (f_X0_weightOf p0 x1 ν).bind (fun r_1 =>
    (f_X0_weightOf p0 x2 r_1.2).bind (fun r_3 =>
      if (2 * r_1.1) ≤ r_3.1 then
        some (0, r_3.2)
      else
        some (1, r_3.2)))
theorem me_X0_isCarrying : g_me yX0_isCarrying cX0_isCarrying 3 ((Option.some .boolean)) 3 := ⟨tw_786, tw_89, ⟨by decide +kernel, by decide +kernel, by decide +kernel⟩, by decide⟩
set_option maxRecDepth 20000 in
set_option maxHeartbeats 2000000 in
theorem m_X0_isCarrying {X : gX} {ad : Nat → Nat} {p0 : Nat} {x1 : Int32} {x2 : Int32} {ν : gN} {r : Int32 × gN} (hp0 : isP p0) (h : f_X0_isCarrying p0 x1 x2 ν = some r) : h_ct X ad yX0_isCarrying cX0_isCarrying 3 ((Option.some .boolean)) 3 [.ref (ad p0), .int x1, .int x2] ν (some (.int r.1), r.2) := by
  rw [f_X0_isCarrying] at h
  refine h_ct_of (l := [(0, .ref (ad p0)), (1, .int x1), (2, .int x2)]) (by decide) (Nat.le_of_ble_eq_true rfl) rfl ?_
  refine go_iconst kz_iconst_2 dX0_isCarrying_0 ?_
  refine go_aload_n rfl 0 rfl dX0_isCarrying_1 ?_
  refine go_iload_n rfl 1 rfl dX0_isCarrying_2 ?_
  obtain ⟨r_1, h_2, h⟩ := q_b h
  refine h_callSi (st := [.int 2]) [.ref (ad p0), .int x1] (m_X0_weightOf hp0 h_2) me_X0_weightOf tw_787 tw_788 (hdd_of (by decide)) ⟨Nat.zero_le _, Nat.zero_le _⟩ rfl rfl (Nat.le_of_ble_eq_true rfl) dX0_isCarrying_3 ?_
  refine go_imul dX0_isCarrying_6 ?_
  refine go_aload_n rfl 0 rfl dX0_isCarrying_7 ?_
  refine go_iload_n rfl 2 rfl dX0_isCarrying_8 ?_
  obtain ⟨r_3, h_4, h⟩ := q_b h
  refine h_callSi (st := [.int (2 * r_1.1)]) [.ref (ad p0), .int x2] (m_X0_weightOf hp0 h_4) me_X0_weightOf tw_787 tw_788 (hdd_of (by decide)) ⟨Nat.zero_le _, Nat.zero_le _⟩ rfl rfl (Nat.le_of_ble_eq_true rfl) dX0_isCarrying_9 ?_
  refine go_icmp_le (tgt := 19) dX0_isCarrying_12 rfl (fun hc => ?_) (fun hc => ?_)
  · replace h := q_t h hc
    refine go_iconst kz_iconst_0 dX0_isCarrying_19 ?_
    exact h_zret rfl h dX0_isCarrying_20 rfl
  · replace h := q_f h hc
    refine go_iconst kz_iconst_1 dX0_isCarrying_15 ?_
    refine go_goto (tgt := 20) dX0_isCarrying_16 rfl ?_
    exact h_zret rfl h dX0_isCarrying_20 rfl
noncomputable def f_X0_leastCarrying_L4 (y0 : Nat) (y1 : Int32) (k78 : Int32 → gN → Option (Int32 × gN)) : Nat → Int32 → Int32 → gN → Option (Int32 × gN)
  | 0, _, _, _ => none
  | n + 1, y2, y3, ν =>
    if (j_shl 1 (ν.1 y0 6)) ≤ y3 then
      k78 y2 ν
    else
      if (y3 &&& (y1 ^^^ (-1))) = 0 then
        if y2 = 0 then
          if (1 : Int32) = 0 then
            f_X0_leastCarrying_L4 y0 y1 k78 n y2 (y3 + 1) ν
          else
            if (1 : Int32) = 0 then
              f_X0_leastCarrying_L4 y0 y1 k78 n y2 (y3 + 1) ν
            else
              (f_X0_isCarrying y0 y3 y1 ν).bind (fun r_11 =>
                if r_11.1 = 0 then
                  f_X0_leastCarrying_L4 y0 y1 k78 n y2 (y3 + 1) r_11.2
                else
                  f_X0_leastCarrying_L4 y0 y1 k78 n y3 (y3 + 1) r_11.2)
        else
          (f_J6_bitCount_0f7a4 y3 ν).bind (fun r_13 =>
            (f_J6_bitCount_0f7a4 y2 r_13.2).bind (fun r_15 =>
              if r_15.1 ≤ r_13.1 then
                if (1 : Int32) = 0 then
                  f_X0_leastCarrying_L4 y0 y1 k78 n y2 (y3 + 1) r_15.2
                else
                  if (0 : Int32) = 0 then
                    f_X0_leastCarrying_L4 y0 y1 k78 n y2 (y3 + 1) r_15.2
                  else
                    (f_X0_isCarrying y0 y3 y1 r_15.2).bind (fun r_17 =>
                      if r_17.1 = 0 then
                        f_X0_leastCarrying_L4 y0 y1 k78 n y2 (y3 + 1) r_17.2
                      else
                        f_X0_leastCarrying_L4 y0 y1 k78 n y3 (y3 + 1) r_17.2)
              else
                if (1 : Int32) = 0 then
                  f_X0_leastCarrying_L4 y0 y1 k78 n y2 (y3 + 1) r_15.2
                else
                  if (1 : Int32) = 0 then
                    f_X0_leastCarrying_L4 y0 y1 k78 n y2 (y3 + 1) r_15.2
                  else
                    (f_X0_isCarrying y0 y3 y1 r_15.2).bind (fun r_19 =>
                      if r_19.1 = 0 then
                        f_X0_leastCarrying_L4 y0 y1 k78 n y2 (y3 + 1) r_19.2
                      else
                        f_X0_leastCarrying_L4 y0 y1 k78 n y3 (y3 + 1) r_19.2)))
      else
        if y2 = 0 then
          if (0 : Int32) = 0 then
            f_X0_leastCarrying_L4 y0 y1 k78 n y2 (y3 + 1) ν
          else
            if (1 : Int32) = 0 then
              f_X0_leastCarrying_L4 y0 y1 k78 n y2 (y3 + 1) ν
            else
              (f_X0_isCarrying y0 y3 y1 ν).bind (fun r_1 =>
                if r_1.1 = 0 then
                  f_X0_leastCarrying_L4 y0 y1 k78 n y2 (y3 + 1) r_1.2
                else
                  f_X0_leastCarrying_L4 y0 y1 k78 n y3 (y3 + 1) r_1.2)
        else
          (f_J6_bitCount_0f7a4 y3 ν).bind (fun r_3 =>
            (f_J6_bitCount_0f7a4 y2 r_3.2).bind (fun r_5 =>
              if r_5.1 ≤ r_3.1 then
                if (0 : Int32) = 0 then
                  f_X0_leastCarrying_L4 y0 y1 k78 n y2 (y3 + 1) r_5.2
                else
                  if (0 : Int32) = 0 then
                    f_X0_leastCarrying_L4 y0 y1 k78 n y2 (y3 + 1) r_5.2
                  else
                    (f_X0_isCarrying y0 y3 y1 r_5.2).bind (fun r_7 =>
                      if r_7.1 = 0 then
                        f_X0_leastCarrying_L4 y0 y1 k78 n y2 (y3 + 1) r_7.2
                      else
                        f_X0_leastCarrying_L4 y0 y1 k78 n y3 (y3 + 1) r_7.2)
              else
                if (0 : Int32) = 0 then
                  f_X0_leastCarrying_L4 y0 y1 k78 n y2 (y3 + 1) r_5.2
                else
                  if (1 : Int32) = 0 then
                    f_X0_leastCarrying_L4 y0 y1 k78 n y2 (y3 + 1) r_5.2
                  else
                    (f_X0_isCarrying y0 y3 y1 r_5.2).bind (fun r_9 =>
                      if r_9.1 = 0 then
                        f_X0_leastCarrying_L4 y0 y1 k78 n y2 (y3 + 1) r_9.2
                      else
                        f_X0_leastCarrying_L4 y0 y1 k78 n y3 (y3 + 1) r_9.2)))
noncomputable def f_X0_leastCarrying (p0 : Nat) (x1 : Int32) (ν : gN) : Option (Int32 × gN) :=
  f_X0_leastCarrying_L4 p0 x1 (fun z2_21 ν_22 =>
    some (z2_21, ν_22)) FU 0 1 ν
theorem me_X0_leastCarrying : g_me yX0_leastCarrying cX0_leastCarrying 6 ((Option.some .int)) 2 := ⟨tw_808, tw_89, ⟨by decide +kernel, by decide +kernel, by decide +kernel⟩, by decide⟩
set_option maxRecDepth 20000 in
set_option maxHeartbeats 2000000 in
theorem m_X0_leastCarrying_L4 {X : gX} {ad : Nat → Nat} {y0 : Nat} {y1 : Int32} {k78 : Int32 → gN → Option (Int32 × gN)} (hy0 : isP y0) : ∀ (n : Nat) (y2 : Int32) (y3 : Int32) (ν : gN) (r : Int32 × gN), f_X0_leastCarrying_L4 y0 y1 k78 n y2 y3 ν = some r → (∀ (z2 : Int32) (ν1 : gN), k78 z2 ν1 = some r → h_go X ad RX0 "leastCarrying" cX0_leastCarrying 6 ((Option.some .int)) 4 (some (.int r.1), r.2) 78 [(2, .int z2)] [] ν1) → h_go X ad RX0 "leastCarrying" cX0_leastCarrying 6 ((Option.some .int)) 4 (some (.int r.1), r.2) 4 [(0, .ref (ad y0)), (1, .int y1), (2, .int y2), (3, .int y3)] [] ν := by
  intro n
  induction n with
  | zero => intro y2 y3 ν r h hk78; rw [f_X0_leastCarrying_L4] at h; exact q_n h
  | succ n ih =>
    intro y2 y3 ν r h hk78
    rw [f_X0_leastCarrying_L4] at h
    refine go_iload_n rfl 3 rfl dX0_leastCarrying_4 ?_
    refine go_iconst kz_iconst_1 dX0_leastCarrying_5 ?_
    refine go_aload_n rfl 0 rfl dX0_leastCarrying_6 ?_
    refine h_getiN 6 cl2 (shP hy0) (by decide) tw_124 rfl dX0_leastCarrying_7 ?_
    refine h_ishl dX0_leastCarrying_10 ?_
    refine go_icmp_ge (tgt := 78) dX0_leastCarrying_11 rfl (fun hc => ?_) (fun hc => ?_)
    · replace h := q_t h hc
      refine go_sub (l' := [(2, .int y2)]) [2] rfl ?_
      exact hk78 _ _ h
    · replace h := q_f h hc
      refine go_iload_n rfl 3 rfl dX0_leastCarrying_14 ?_
      refine go_iload_n rfl 1 rfl dX0_leastCarrying_15 ?_
      refine go_iconst kz_iconst_m1 dX0_leastCarrying_16 ?_
      refine go_ixor dX0_leastCarrying_17 ?_
      refine go_iand dX0_leastCarrying_18 ?_
      refine go_if_ne (tgt := 26) dX0_leastCarrying_19 rfl (fun hc => ?_) (fun hc => ?_)
      · replace h := q_f h hc
        refine go_iconst kz_iconst_0 dX0_leastCarrying_26 ?_
        refine go_istore (l' := [(4, .int 0), (0, .ref (ad y0)), (1, .int y1), (2, .int y2), (3, .int y3)]) dX0_leastCarrying_27 (by decide) rfl ?_
        refine go_iload_n rfl 3 rfl dX0_leastCarrying_29 ?_
        refine go_if_eq (tgt := 44) dX0_leastCarrying_30 rfl (fun hc => ?_) (fun hc => ?_)
        · replace h := q_t h hc
          refine go_iconst kz_iconst_1 dX0_leastCarrying_44 ?_
          refine go_goto (tgt := 49) dX0_leastCarrying_45 rfl ?_
          refine go_istore (l' := [(5, .int 1), (4, .int 0), (0, .ref (ad y0)), (1, .int y1), (2, .int y2), (3, .int y3)]) dX0_leastCarrying_49 (by decide) rfl ?_
          refine go_iload 1 rfl dX0_leastCarrying_51 ?_
          refine go_if_eq (tgt := 72) dX0_leastCarrying_53 rfl (fun hc => ?_) (fun hc => ?_)
          · replace h := q_t h hc
            refine h_iinc (l' := [(3, .int (y3 + 1)), (5, .int 1), (4, .int 0), (0, .ref (ad y0)), (1, .int y1), (2, .int y2)]) dX0_leastCarrying_72 5 rfl kz_iconst_1 (by decide) rfl ?_
            refine go_goto (tgt := 4) dX0_leastCarrying_75 rfl ?_
            refine go_sub (l' := [(0, .ref (ad y0)), (1, .int y1), (2, .int y2), (3, .int (y3 + 1))]) [3, 4, 5, 0] rfl ?_
            exact ih _ _ _ _ h hk78
          · replace h := q_f h hc
            refine go_iload 0 rfl dX0_leastCarrying_56 ?_
            refine go_if_eq (tgt := 72) dX0_leastCarrying_58 rfl (fun hc => ?_) (fun hc => ?_)
            · replace h := q_t h hc
              refine h_iinc (l' := [(3, .int (y3 + 1)), (5, .int 1), (4, .int 0), (0, .ref (ad y0)), (1, .int y1), (2, .int y2)]) dX0_leastCarrying_72 5 rfl kz_iconst_1 (by decide) rfl ?_
              refine go_goto (tgt := 4) dX0_leastCarrying_75 rfl ?_
              refine go_sub (l' := [(0, .ref (ad y0)), (1, .int y1), (2, .int y2), (3, .int (y3 + 1))]) [3, 4, 5, 0] rfl ?_
              exact ih _ _ _ _ h hk78
            · replace h := q_f h hc
              refine go_aload_n rfl 2 rfl dX0_leastCarrying_61 ?_
              refine go_iload_n rfl 5 rfl dX0_leastCarrying_62 ?_
              refine go_iload_n rfl 3 rfl dX0_leastCarrying_63 ?_
              obtain ⟨r_1, h_2, h⟩ := q_b h
              refine h_callSi (st := []) [.ref (ad y0), .int y3, .int y1] (m_X0_isCarrying hy0 h_2) me_X0_isCarrying tw_784 tw_785 (hdd_of (by decide)) ⟨Nat.zero_le _, Nat.zero_le _⟩ rfl rfl (Nat.le_of_ble_eq_true rfl) dX0_leastCarrying_64 ?_
              refine go_if_eq (tgt := 72) dX0_leastCarrying_67 rfl (fun hc => ?_) (fun hc => ?_)
              · replace h := q_t h hc
                refine h_iinc (l' := [(3, .int (y3 + 1)), (5, .int 1), (4, .int 0), (0, .ref (ad y0)), (1, .int y1), (2, .int y2)]) dX0_leastCarrying_72 5 rfl kz_iconst_1 (by decide) rfl ?_
                refine go_goto (tgt := 4) dX0_leastCarrying_75 rfl ?_
                refine go_sub (l' := [(0, .ref (ad y0)), (1, .int y1), (2, .int y2), (3, .int (y3 + 1))]) [3, 4, 5, 0] rfl ?_
                exact ih _ _ _ _ h hk78
              · replace h := q_f h hc
                refine go_iload_n rfl 5 rfl dX0_leastCarrying_70 ?_
                refine go_istore_n (l' := [(2, .int y3), (5, .int 1), (4, .int 0), (0, .ref (ad y0)), (1, .int y1), (3, .int y3)]) dX0_leastCarrying_71 rfl (by decide) rfl ?_
                refine h_iinc (l' := [(3, .int (y3 + 1)), (2, .int y3), (5, .int 1), (4, .int 0), (0, .ref (ad y0)), (1, .int y1)]) dX0_leastCarrying_72 5 rfl kz_iconst_1 (by decide) rfl ?_
                refine go_goto (tgt := 4) dX0_leastCarrying_75 rfl ?_
                refine go_sub (l' := [(0, .ref (ad y0)), (1, .int y1), (2, .int y3), (3, .int (y3 + 1))]) [4, 5, 1, 0] rfl ?_
                exact ih _ _ _ _ h hk78
        · replace h := q_f h hc
          refine go_iload_n rfl 4 rfl dX0_leastCarrying_33 ?_
          obtain ⟨r_3, h_4, h⟩ := q_b h
          refine h_callSi (st := []) [.int y3] (m_J6_bitCount_0f7a4 h_4) me_J6_bitCount_0f7a4 tw_794 tw_795 (hdd_of (by decide)) ⟨Nat.zero_le _, Nat.zero_le _⟩ rfl rfl (Nat.le_of_ble_eq_true rfl) dX0_leastCarrying_34 ?_
          refine go_iload_n rfl 3 rfl dX0_leastCarrying_37 ?_
          obtain ⟨r_5, h_6, h⟩ := q_b h
          refine h_callSi (st := [.int r_3.1]) [.int y2] (m_J6_bitCount_0f7a4 h_6) me_J6_bitCount_0f7a4 tw_794 tw_795 (hdd_of (by decide)) ⟨Nat.zero_le _, Nat.zero_le _⟩ rfl rfl (Nat.le_of_ble_eq_true rfl) dX0_leastCarrying_38 ?_
          refine go_icmp_ge (tgt := 48) dX0_leastCarrying_41 rfl (fun hc => ?_) (fun hc => ?_)
          · replace h := q_t h hc
            refine go_iconst kz_iconst_0 dX0_leastCarrying_48 ?_
            refine go_istore (l' := [(5, .int 0), (4, .int 0), (0, .ref (ad y0)), (1, .int y1), (2, .int y2), (3, .int y3)]) dX0_leastCarrying_49 (by decide) rfl ?_
            refine go_iload 1 rfl dX0_leastCarrying_51 ?_
            refine go_if_eq (tgt := 72) dX0_leastCarrying_53 rfl (fun hc => ?_) (fun hc => ?_)
            · replace h := q_t h hc
              refine h_iinc (l' := [(3, .int (y3 + 1)), (5, .int 0), (4, .int 0), (0, .ref (ad y0)), (1, .int y1), (2, .int y2)]) dX0_leastCarrying_72 5 rfl kz_iconst_1 (by decide) rfl ?_
              refine go_goto (tgt := 4) dX0_leastCarrying_75 rfl ?_
              refine go_sub (l' := [(0, .ref (ad y0)), (1, .int y1), (2, .int y2), (3, .int (y3 + 1))]) [3, 4, 5, 0] rfl ?_
              exact ih _ _ _ _ h hk78
            · replace h := q_f h hc
              refine go_iload 0 rfl dX0_leastCarrying_56 ?_
              refine go_if_eq (tgt := 72) dX0_leastCarrying_58 rfl (fun hc => ?_) (fun hc => ?_)
              · replace h := q_t h hc
                refine h_iinc (l' := [(3, .int (y3 + 1)), (5, .int 0), (4, .int 0), (0, .ref (ad y0)), (1, .int y1), (2, .int y2)]) dX0_leastCarrying_72 5 rfl kz_iconst_1 (by decide) rfl ?_
                refine go_goto (tgt := 4) dX0_leastCarrying_75 rfl ?_
                refine go_sub (l' := [(0, .ref (ad y0)), (1, .int y1), (2, .int y2), (3, .int (y3 + 1))]) [3, 4, 5, 0] rfl ?_
                exact ih _ _ _ _ h hk78
              · replace h := q_f h hc
                refine go_aload_n rfl 2 rfl dX0_leastCarrying_61 ?_
                refine go_iload_n rfl 5 rfl dX0_leastCarrying_62 ?_
                refine go_iload_n rfl 3 rfl dX0_leastCarrying_63 ?_
                obtain ⟨r_7, h_8, h⟩ := q_b h
                refine h_callSi (st := []) [.ref (ad y0), .int y3, .int y1] (m_X0_isCarrying hy0 h_8) me_X0_isCarrying tw_784 tw_785 (hdd_of (by decide)) ⟨Nat.zero_le _, Nat.zero_le _⟩ rfl rfl (Nat.le_of_ble_eq_true rfl) dX0_leastCarrying_64 ?_
                refine go_if_eq (tgt := 72) dX0_leastCarrying_67 rfl (fun hc => ?_) (fun hc => ?_)
                · replace h := q_t h hc
                  refine h_iinc (l' := [(3, .int (y3 + 1)), (5, .int 0), (4, .int 0), (0, .ref (ad y0)), (1, .int y1), (2, .int y2)]) dX0_leastCarrying_72 5 rfl kz_iconst_1 (by decide) rfl ?_
                  refine go_goto (tgt := 4) dX0_leastCarrying_75 rfl ?_
                  refine go_sub (l' := [(0, .ref (ad y0)), (1, .int y1), (2, .int y2), (3, .int (y3 + 1))]) [3, 4, 5, 0] rfl ?_
                  exact ih _ _ _ _ h hk78
                · replace h := q_f h hc
                  refine go_iload_n rfl 5 rfl dX0_leastCarrying_70 ?_
                  refine go_istore_n (l' := [(2, .int y3), (5, .int 0), (4, .int 0), (0, .ref (ad y0)), (1, .int y1), (3, .int y3)]) dX0_leastCarrying_71 rfl (by decide) rfl ?_
                  refine h_iinc (l' := [(3, .int (y3 + 1)), (2, .int y3), (5, .int 0), (4, .int 0), (0, .ref (ad y0)), (1, .int y1)]) dX0_leastCarrying_72 5 rfl kz_iconst_1 (by decide) rfl ?_
                  refine go_goto (tgt := 4) dX0_leastCarrying_75 rfl ?_
                  refine go_sub (l' := [(0, .ref (ad y0)), (1, .int y1), (2, .int y3), (3, .int (y3 + 1))]) [4, 5, 1, 0] rfl ?_
                  exact ih _ _ _ _ h hk78
          · replace h := q_f h hc
            refine go_iconst kz_iconst_1 dX0_leastCarrying_44 ?_
            refine go_goto (tgt := 49) dX0_leastCarrying_45 rfl ?_
            refine go_istore (l' := [(5, .int 1), (4, .int 0), (0, .ref (ad y0)), (1, .int y1), (2, .int y2), (3, .int y3)]) dX0_leastCarrying_49 (by decide) rfl ?_
            refine go_iload 1 rfl dX0_leastCarrying_51 ?_
            refine go_if_eq (tgt := 72) dX0_leastCarrying_53 rfl (fun hc => ?_) (fun hc => ?_)
            · replace h := q_t h hc
              refine h_iinc (l' := [(3, .int (y3 + 1)), (5, .int 1), (4, .int 0), (0, .ref (ad y0)), (1, .int y1), (2, .int y2)]) dX0_leastCarrying_72 5 rfl kz_iconst_1 (by decide) rfl ?_
              refine go_goto (tgt := 4) dX0_leastCarrying_75 rfl ?_
              refine go_sub (l' := [(0, .ref (ad y0)), (1, .int y1), (2, .int y2), (3, .int (y3 + 1))]) [3, 4, 5, 0] rfl ?_
              exact ih _ _ _ _ h hk78
            · replace h := q_f h hc
              refine go_iload 0 rfl dX0_leastCarrying_56 ?_
              refine go_if_eq (tgt := 72) dX0_leastCarrying_58 rfl (fun hc => ?_) (fun hc => ?_)
              · replace h := q_t h hc
                refine h_iinc (l' := [(3, .int (y3 + 1)), (5, .int 1), (4, .int 0), (0, .ref (ad y0)), (1, .int y1), (2, .int y2)]) dX0_leastCarrying_72 5 rfl kz_iconst_1 (by decide) rfl ?_
                refine go_goto (tgt := 4) dX0_leastCarrying_75 rfl ?_
                refine go_sub (l' := [(0, .ref (ad y0)), (1, .int y1), (2, .int y2), (3, .int (y3 + 1))]) [3, 4, 5, 0] rfl ?_
                exact ih _ _ _ _ h hk78
              · replace h := q_f h hc
                refine go_aload_n rfl 2 rfl dX0_leastCarrying_61 ?_
                refine go_iload_n rfl 5 rfl dX0_leastCarrying_62 ?_
                refine go_iload_n rfl 3 rfl dX0_leastCarrying_63 ?_
                obtain ⟨r_9, h_10, h⟩ := q_b h
                refine h_callSi (st := []) [.ref (ad y0), .int y3, .int y1] (m_X0_isCarrying hy0 h_10) me_X0_isCarrying tw_784 tw_785 (hdd_of (by decide)) ⟨Nat.zero_le _, Nat.zero_le _⟩ rfl rfl (Nat.le_of_ble_eq_true rfl) dX0_leastCarrying_64 ?_
                refine go_if_eq (tgt := 72) dX0_leastCarrying_67 rfl (fun hc => ?_) (fun hc => ?_)
                · replace h := q_t h hc
                  refine h_iinc (l' := [(3, .int (y3 + 1)), (5, .int 1), (4, .int 0), (0, .ref (ad y0)), (1, .int y1), (2, .int y2)]) dX0_leastCarrying_72 5 rfl kz_iconst_1 (by decide) rfl ?_
                  refine go_goto (tgt := 4) dX0_leastCarrying_75 rfl ?_
                  refine go_sub (l' := [(0, .ref (ad y0)), (1, .int y1), (2, .int y2), (3, .int (y3 + 1))]) [3, 4, 5, 0] rfl ?_
                  exact ih _ _ _ _ h hk78
                · replace h := q_f h hc
                  refine go_iload_n rfl 5 rfl dX0_leastCarrying_70 ?_
                  refine go_istore_n (l' := [(2, .int y3), (5, .int 1), (4, .int 0), (0, .ref (ad y0)), (1, .int y1), (3, .int y3)]) dX0_leastCarrying_71 rfl (by decide) rfl ?_
                  refine h_iinc (l' := [(3, .int (y3 + 1)), (2, .int y3), (5, .int 1), (4, .int 0), (0, .ref (ad y0)), (1, .int y1)]) dX0_leastCarrying_72 5 rfl kz_iconst_1 (by decide) rfl ?_
                  refine go_goto (tgt := 4) dX0_leastCarrying_75 rfl ?_
                  refine go_sub (l' := [(0, .ref (ad y0)), (1, .int y1), (2, .int y3), (3, .int (y3 + 1))]) [4, 5, 1, 0] rfl ?_
                  exact ih _ _ _ _ h hk78
      · replace h := q_t h hc
        refine go_iconst kz_iconst_1 dX0_leastCarrying_22 ?_
        refine go_goto (tgt := 27) dX0_leastCarrying_23 rfl ?_
        refine go_istore (l' := [(4, .int 1), (0, .ref (ad y0)), (1, .int y1), (2, .int y2), (3, .int y3)]) dX0_leastCarrying_27 (by decide) rfl ?_
        refine go_iload_n rfl 3 rfl dX0_leastCarrying_29 ?_
        refine go_if_eq (tgt := 44) dX0_leastCarrying_30 rfl (fun hc => ?_) (fun hc => ?_)
        · replace h := q_t h hc
          refine go_iconst kz_iconst_1 dX0_leastCarrying_44 ?_
          refine go_goto (tgt := 49) dX0_leastCarrying_45 rfl ?_
          refine go_istore (l' := [(5, .int 1), (4, .int 1), (0, .ref (ad y0)), (1, .int y1), (2, .int y2), (3, .int y3)]) dX0_leastCarrying_49 (by decide) rfl ?_
          refine go_iload 1 rfl dX0_leastCarrying_51 ?_
          refine go_if_eq (tgt := 72) dX0_leastCarrying_53 rfl (fun hc => ?_) (fun hc => ?_)
          · replace h := q_t h hc
            refine h_iinc (l' := [(3, .int (y3 + 1)), (5, .int 1), (4, .int 1), (0, .ref (ad y0)), (1, .int y1), (2, .int y2)]) dX0_leastCarrying_72 5 rfl kz_iconst_1 (by decide) rfl ?_
            refine go_goto (tgt := 4) dX0_leastCarrying_75 rfl ?_
            refine go_sub (l' := [(0, .ref (ad y0)), (1, .int y1), (2, .int y2), (3, .int (y3 + 1))]) [3, 4, 5, 0] rfl ?_
            exact ih _ _ _ _ h hk78
          · replace h := q_f h hc
            refine go_iload 0 rfl dX0_leastCarrying_56 ?_
            refine go_if_eq (tgt := 72) dX0_leastCarrying_58 rfl (fun hc => ?_) (fun hc => ?_)
            · replace h := q_t h hc
              refine h_iinc (l' := [(3, .int (y3 + 1)), (5, .int 1), (4, .int 1), (0, .ref (ad y0)), (1, .int y1), (2, .int y2)]) dX0_leastCarrying_72 5 rfl kz_iconst_1 (by decide) rfl ?_
              refine go_goto (tgt := 4) dX0_leastCarrying_75 rfl ?_
              refine go_sub (l' := [(0, .ref (ad y0)), (1, .int y1), (2, .int y2), (3, .int (y3 + 1))]) [3, 4, 5, 0] rfl ?_
              exact ih _ _ _ _ h hk78
            · replace h := q_f h hc
              refine go_aload_n rfl 2 rfl dX0_leastCarrying_61 ?_
              refine go_iload_n rfl 5 rfl dX0_leastCarrying_62 ?_
              refine go_iload_n rfl 3 rfl dX0_leastCarrying_63 ?_
              obtain ⟨r_11, h_12, h⟩ := q_b h
              refine h_callSi (st := []) [.ref (ad y0), .int y3, .int y1] (m_X0_isCarrying hy0 h_12) me_X0_isCarrying tw_784 tw_785 (hdd_of (by decide)) ⟨Nat.zero_le _, Nat.zero_le _⟩ rfl rfl (Nat.le_of_ble_eq_true rfl) dX0_leastCarrying_64 ?_
              refine go_if_eq (tgt := 72) dX0_leastCarrying_67 rfl (fun hc => ?_) (fun hc => ?_)
              · replace h := q_t h hc
                refine h_iinc (l' := [(3, .int (y3 + 1)), (5, .int 1), (4, .int 1), (0, .ref (ad y0)), (1, .int y1), (2, .int y2)]) dX0_leastCarrying_72 5 rfl kz_iconst_1 (by decide) rfl ?_
                refine go_goto (tgt := 4) dX0_leastCarrying_75 rfl ?_
                refine go_sub (l' := [(0, .ref (ad y0)), (1, .int y1), (2, .int y2), (3, .int (y3 + 1))]) [3, 4, 5, 0] rfl ?_
                exact ih _ _ _ _ h hk78
              · replace h := q_f h hc
                refine go_iload_n rfl 5 rfl dX0_leastCarrying_70 ?_
                refine go_istore_n (l' := [(2, .int y3), (5, .int 1), (4, .int 1), (0, .ref (ad y0)), (1, .int y1), (3, .int y3)]) dX0_leastCarrying_71 rfl (by decide) rfl ?_
                refine h_iinc (l' := [(3, .int (y3 + 1)), (2, .int y3), (5, .int 1), (4, .int 1), (0, .ref (ad y0)), (1, .int y1)]) dX0_leastCarrying_72 5 rfl kz_iconst_1 (by decide) rfl ?_
                refine go_goto (tgt := 4) dX0_leastCarrying_75 rfl ?_
                refine go_sub (l' := [(0, .ref (ad y0)), (1, .int y1), (2, .int y3), (3, .int (y3 + 1))]) [4, 5, 1, 0] rfl ?_
                exact ih _ _ _ _ h hk78
        · replace h := q_f h hc
          refine go_iload_n rfl 4 rfl dX0_leastCarrying_33 ?_
          obtain ⟨r_13, h_14, h⟩ := q_b h
          refine h_callSi (st := []) [.int y3] (m_J6_bitCount_0f7a4 h_14) me_J6_bitCount_0f7a4 tw_794 tw_795 (hdd_of (by decide)) ⟨Nat.zero_le _, Nat.zero_le _⟩ rfl rfl (Nat.le_of_ble_eq_true rfl) dX0_leastCarrying_34 ?_
          refine go_iload_n rfl 3 rfl dX0_leastCarrying_37 ?_
          obtain ⟨r_15, h_16, h⟩ := q_b h
          refine h_callSi (st := [.int r_13.1]) [.int y2] (m_J6_bitCount_0f7a4 h_16) me_J6_bitCount_0f7a4 tw_794 tw_795 (hdd_of (by decide)) ⟨Nat.zero_le _, Nat.zero_le _⟩ rfl rfl (Nat.le_of_ble_eq_true rfl) dX0_leastCarrying_38 ?_
          refine go_icmp_ge (tgt := 48) dX0_leastCarrying_41 rfl (fun hc => ?_) (fun hc => ?_)
          · replace h := q_t h hc
            refine go_iconst kz_iconst_0 dX0_leastCarrying_48 ?_
            refine go_istore (l' := [(5, .int 0), (4, .int 1), (0, .ref (ad y0)), (1, .int y1), (2, .int y2), (3, .int y3)]) dX0_leastCarrying_49 (by decide) rfl ?_
            refine go_iload 1 rfl dX0_leastCarrying_51 ?_
            refine go_if_eq (tgt := 72) dX0_leastCarrying_53 rfl (fun hc => ?_) (fun hc => ?_)
            · replace h := q_t h hc
              refine h_iinc (l' := [(3, .int (y3 + 1)), (5, .int 0), (4, .int 1), (0, .ref (ad y0)), (1, .int y1), (2, .int y2)]) dX0_leastCarrying_72 5 rfl kz_iconst_1 (by decide) rfl ?_
              refine go_goto (tgt := 4) dX0_leastCarrying_75 rfl ?_
              refine go_sub (l' := [(0, .ref (ad y0)), (1, .int y1), (2, .int y2), (3, .int (y3 + 1))]) [3, 4, 5, 0] rfl ?_
              exact ih _ _ _ _ h hk78
            · replace h := q_f h hc
              refine go_iload 0 rfl dX0_leastCarrying_56 ?_
              refine go_if_eq (tgt := 72) dX0_leastCarrying_58 rfl (fun hc => ?_) (fun hc => ?_)
              · replace h := q_t h hc
                refine h_iinc (l' := [(3, .int (y3 + 1)), (5, .int 0), (4, .int 1), (0, .ref (ad y0)), (1, .int y1), (2, .int y2)]) dX0_leastCarrying_72 5 rfl kz_iconst_1 (by decide) rfl ?_
                refine go_goto (tgt := 4) dX0_leastCarrying_75 rfl ?_
                refine go_sub (l' := [(0, .ref (ad y0)), (1, .int y1), (2, .int y2), (3, .int (y3 + 1))]) [3, 4, 5, 0] rfl ?_
                exact ih _ _ _ _ h hk78
              · replace h := q_f h hc
                refine go_aload_n rfl 2 rfl dX0_leastCarrying_61 ?_
                refine go_iload_n rfl 5 rfl dX0_leastCarrying_62 ?_
                refine go_iload_n rfl 3 rfl dX0_leastCarrying_63 ?_
                obtain ⟨r_17, h_18, h⟩ := q_b h
                refine h_callSi (st := []) [.ref (ad y0), .int y3, .int y1] (m_X0_isCarrying hy0 h_18) me_X0_isCarrying tw_784 tw_785 (hdd_of (by decide)) ⟨Nat.zero_le _, Nat.zero_le _⟩ rfl rfl (Nat.le_of_ble_eq_true rfl) dX0_leastCarrying_64 ?_
                refine go_if_eq (tgt := 72) dX0_leastCarrying_67 rfl (fun hc => ?_) (fun hc => ?_)
                · replace h := q_t h hc
                  refine h_iinc (l' := [(3, .int (y3 + 1)), (5, .int 0), (4, .int 1), (0, .ref (ad y0)), (1, .int y1), (2, .int y2)]) dX0_leastCarrying_72 5 rfl kz_iconst_1 (by decide) rfl ?_
                  refine go_goto (tgt := 4) dX0_leastCarrying_75 rfl ?_
                  refine go_sub (l' := [(0, .ref (ad y0)), (1, .int y1), (2, .int y2), (3, .int (y3 + 1))]) [3, 4, 5, 0] rfl ?_
                  exact ih _ _ _ _ h hk78
                · replace h := q_f h hc
                  refine go_iload_n rfl 5 rfl dX0_leastCarrying_70 ?_
                  refine go_istore_n (l' := [(2, .int y3), (5, .int 0), (4, .int 1), (0, .ref (ad y0)), (1, .int y1), (3, .int y3)]) dX0_leastCarrying_71 rfl (by decide) rfl ?_
                  refine h_iinc (l' := [(3, .int (y3 + 1)), (2, .int y3), (5, .int 0), (4, .int 1), (0, .ref (ad y0)), (1, .int y1)]) dX0_leastCarrying_72 5 rfl kz_iconst_1 (by decide) rfl ?_
                  refine go_goto (tgt := 4) dX0_leastCarrying_75 rfl ?_
                  refine go_sub (l' := [(0, .ref (ad y0)), (1, .int y1), (2, .int y3), (3, .int (y3 + 1))]) [4, 5, 1, 0] rfl ?_
                  exact ih _ _ _ _ h hk78
          · replace h := q_f h hc
            refine go_iconst kz_iconst_1 dX0_leastCarrying_44 ?_
            refine go_goto (tgt := 49) dX0_leastCarrying_45 rfl ?_
            refine go_istore (l' := [(5, .int 1), (4, .int 1), (0, .ref (ad y0)), (1, .int y1), (2, .int y2), (3, .int y3)]) dX0_leastCarrying_49 (by decide) rfl ?_
            refine go_iload 1 rfl dX0_leastCarrying_51 ?_
            refine go_if_eq (tgt := 72) dX0_leastCarrying_53 rfl (fun hc => ?_) (fun hc => ?_)
            · replace h := q_t h hc
              refine h_iinc (l' := [(3, .int (y3 + 1)), (5, .int 1), (4, .int 1), (0, .ref (ad y0)), (1, .int y1), (2, .int y2)]) dX0_leastCarrying_72 5 rfl kz_iconst_1 (by decide) rfl ?_
              refine go_goto (tgt := 4) dX0_leastCarrying_75 rfl ?_
              refine go_sub (l' := [(0, .ref (ad y0)), (1, .int y1), (2, .int y2), (3, .int (y3 + 1))]) [3, 4, 5, 0] rfl ?_
              exact ih _ _ _ _ h hk78
            · replace h := q_f h hc
              refine go_iload 0 rfl dX0_leastCarrying_56 ?_
              refine go_if_eq (tgt := 72) dX0_leastCarrying_58 rfl (fun hc => ?_) (fun hc => ?_)
              · replace h := q_t h hc
                refine h_iinc (l' := [(3, .int (y3 + 1)), (5, .int 1), (4, .int 1), (0, .ref (ad y0)), (1, .int y1), (2, .int y2)]) dX0_leastCarrying_72 5 rfl kz_iconst_1 (by decide) rfl ?_
                refine go_goto (tgt := 4) dX0_leastCarrying_75 rfl ?_
                refine go_sub (l' := [(0, .ref (ad y0)), (1, .int y1), (2, .int y2), (3, .int (y3 + 1))]) [3, 4, 5, 0] rfl ?_
                exact ih _ _ _ _ h hk78
              · replace h := q_f h hc
                refine go_aload_n rfl 2 rfl dX0_leastCarrying_61 ?_
                refine go_iload_n rfl 5 rfl dX0_leastCarrying_62 ?_
                refine go_iload_n rfl 3 rfl dX0_leastCarrying_63 ?_
                obtain ⟨r_19, h_20, h⟩ := q_b h
                refine h_callSi (st := []) [.ref (ad y0), .int y3, .int y1] (m_X0_isCarrying hy0 h_20) me_X0_isCarrying tw_784 tw_785 (hdd_of (by decide)) ⟨Nat.zero_le _, Nat.zero_le _⟩ rfl rfl (Nat.le_of_ble_eq_true rfl) dX0_leastCarrying_64 ?_
                refine go_if_eq (tgt := 72) dX0_leastCarrying_67 rfl (fun hc => ?_) (fun hc => ?_)
                · replace h := q_t h hc
                  refine h_iinc (l' := [(3, .int (y3 + 1)), (5, .int 1), (4, .int 1), (0, .ref (ad y0)), (1, .int y1), (2, .int y2)]) dX0_leastCarrying_72 5 rfl kz_iconst_1 (by decide) rfl ?_
                  refine go_goto (tgt := 4) dX0_leastCarrying_75 rfl ?_
                  refine go_sub (l' := [(0, .ref (ad y0)), (1, .int y1), (2, .int y2), (3, .int (y3 + 1))]) [3, 4, 5, 0] rfl ?_
                  exact ih _ _ _ _ h hk78
                · replace h := q_f h hc
                  refine go_iload_n rfl 5 rfl dX0_leastCarrying_70 ?_
                  refine go_istore_n (l' := [(2, .int y3), (5, .int 1), (4, .int 1), (0, .ref (ad y0)), (1, .int y1), (3, .int y3)]) dX0_leastCarrying_71 rfl (by decide) rfl ?_
                  refine h_iinc (l' := [(3, .int (y3 + 1)), (2, .int y3), (5, .int 1), (4, .int 1), (0, .ref (ad y0)), (1, .int y1)]) dX0_leastCarrying_72 5 rfl kz_iconst_1 (by decide) rfl ?_
                  refine go_goto (tgt := 4) dX0_leastCarrying_75 rfl ?_
                  refine go_sub (l' := [(0, .ref (ad y0)), (1, .int y1), (2, .int y3), (3, .int (y3 + 1))]) [4, 5, 1, 0] rfl ?_
                  exact ih _ _ _ _ h hk78
set_option maxRecDepth 20000 in
set_option maxHeartbeats 2000000 in
theorem m_X0_leastCarrying {X : gX} {ad : Nat → Nat} {p0 : Nat} {x1 : Int32} {ν : gN} {r : Int32 × gN} (hp0 : isP p0) (h : f_X0_leastCarrying p0 x1 ν = some r) : h_ct X ad yX0_leastCarrying cX0_leastCarrying 6 ((Option.some .int)) 4 [.ref (ad p0), .int x1] ν (some (.int r.1), r.2) := by
  rw [f_X0_leastCarrying] at h
  refine h_ct_of (l := [(0, .ref (ad p0)), (1, .int x1)]) (by decide) (Nat.le_of_ble_eq_true rfl) rfl ?_
  refine go_iconst kz_iconst_0 dX0_leastCarrying_0 ?_
  refine go_istore_n (l' := [(2, .int 0), (0, .ref (ad p0)), (1, .int x1)]) dX0_leastCarrying_1 rfl (by decide) rfl ?_
  refine go_iconst kz_iconst_1 dX0_leastCarrying_2 ?_
  refine go_istore_n (l' := [(3, .int 1), (2, .int 0), (0, .ref (ad p0)), (1, .int x1)]) dX0_leastCarrying_3 rfl (by decide) rfl ?_
  refine go_sub (l' := [(0, .ref (ad p0)), (1, .int x1), (2, .int 0), (3, .int 1)]) [2, 3, 1, 0] rfl ?_
  refine m_X0_leastCarrying_L4 hp0 FU _ _ _ _ h (fun z2_21 ν_22 h => ?_)
  refine go_iload_n rfl 0 rfl dX0_leastCarrying_78 ?_
  exact h_iret h dX0_leastCarrying_79 rfl
noncomputable def f_X0_ordersOf (x0 : Int32) (ν : gN) : Option (Int32 × gN) :=
  (f_J6_bitCount_0f7a4 x0 ν).bind (fun r_1 =>
    if 7 ≤ r_1.1 then
      some (0, r_1.2)
    else
      if inb r_1.1 7 = true then
        some (g_tO r_1.1.toNatClampNeg, r_1.2)
      else none)
theorem me_X0_ordersOf : g_me yX0_ordersOf cX0_ordersOf 2 ((Option.some .int)) 1 := ⟨tw_793, tw_89, ⟨by decide +kernel, by decide +kernel, by decide +kernel⟩, by decide⟩
set_option maxRecDepth 20000 in
set_option maxHeartbeats 2000000 in
theorem m_X0_ordersOf {X : gX} {ad : Nat → Nat} {x0 : Int32} {ν : gN} {r : Int32 × gN}  (h : f_X0_ordersOf x0 ν = some r) : h_ct X ad yX0_ordersOf cX0_ordersOf 2 ((Option.some .int)) 2 [.int x0] ν (some (.int r.1), r.2) := by
  rw [f_X0_ordersOf] at h
  refine h_ct_of (l := [(0, .int x0)]) (by decide) (Nat.le_of_ble_eq_true rfl) rfl ?_
  refine go_iload_n rfl 0 rfl dX0_ordersOf_0 ?_
  obtain ⟨r_1, h_2, h⟩ := q_b h
  refine h_callSi (st := []) [.int x0] (m_J6_bitCount_0f7a4 h_2) me_J6_bitCount_0f7a4 tw_794 tw_795 (hdd_of (by decide)) ⟨Nat.zero_le _, Nat.zero_le _⟩ rfl rfl (Nat.le_of_ble_eq_true rfl) dX0_ordersOf_1 ?_
  refine go_istore_n (l' := [(1, .int r_1.1), (0, .int x0)]) dX0_ordersOf_4 rfl (by decide) rfl ?_
  refine go_iload_n rfl 0 rfl dX0_ordersOf_5 ?_
  refine go_getsO tw_800 dX0_ordersOf_6 ?_
  refine go_tlenO (v := 7) rfl dX0_ordersOf_9 ?_
  refine go_icmp_ge (tgt := 21) dX0_ordersOf_10 rfl (fun hc => ?_) (fun hc => ?_)
  · replace h := q_t h hc
    refine go_iconst kz_iconst_0 dX0_ordersOf_21 ?_
    exact h_iret h dX0_ordersOf_22 rfl
  · replace h := q_f h hc
    refine go_getsO tw_800 dX0_ordersOf_13 ?_
    refine go_iload_n rfl 0 rfl dX0_ordersOf_16 ?_
    obtain ⟨hg_3, h⟩ := q_g h
    refine h_taldO hg_3 dX0_ordersOf_17 ?_
    refine go_goto (tgt := 22) dX0_ordersOf_18 rfl ?_
    exact h_iret h dX0_ordersOf_22 rfl
noncomputable def f_X0_pivots_L17 (y0 : Nat) (y2 : Int32) (y3 : Int32) (y4 : Int32) (k99 : Int32 → gN → Option (Int32 × gN)) : Nat → Int32 → Int32 → gN → Option (Int32 × gN)
  | 0, _, _, _ => none
  | n + 1, y5, y6, ν =>
    if (j_shl 1 (ν.1 y0 6)) ≤ y6 then
      k99 y5 ν
    else
      if (y6 &&& (y4 ^^^ (-1))) = 0 then
        if (1 : Int32) = 0 then
          f_X0_pivots_L17 y0 y2 y3 y4 k99 n y5 (y6 + 1) ν
        else
          (f_X0_isCarrying y0 y6 y2 ν).bind (fun r_9 =>
            if r_9.1 = 0 then
              (f_X0_isCarrying y0 (y6 ||| y3) y2 r_9.2).bind (fun r_11 =>
                if r_11.1 = 0 then
                  f_X0_pivots_L17 y0 y2 y3 y4 k99 n y5 (y6 + 1) r_11.2
                else
                  (f_X0_ordersOf y6 r_11.2).bind (fun r_13 =>
                    (f_X0_ordersOf (y4 &&& (y6 ^^^ (-1))) r_13.2).bind (fun r_15 =>
                      f_X0_pivots_L17 y0 y2 y3 y4 k99 n (y5 + (r_13.1 * r_15.1)) (y6 + 1) r_15.2)))
            else
              f_X0_pivots_L17 y0 y2 y3 y4 k99 n y5 (y6 + 1) r_9.2)
      else
        if (0 : Int32) = 0 then
          f_X0_pivots_L17 y0 y2 y3 y4 k99 n y5 (y6 + 1) ν
        else
          (f_X0_isCarrying y0 y6 y2 ν).bind (fun r_1 =>
            if r_1.1 = 0 then
              (f_X0_isCarrying y0 (y6 ||| y3) y2 r_1.2).bind (fun r_3 =>
                if r_3.1 = 0 then
                  f_X0_pivots_L17 y0 y2 y3 y4 k99 n y5 (y6 + 1) r_3.2
                else
                  (f_X0_ordersOf y6 r_3.2).bind (fun r_5 =>
                    (f_X0_ordersOf (y4 &&& (y6 ^^^ (-1))) r_5.2).bind (fun r_7 =>
                      f_X0_pivots_L17 y0 y2 y3 y4 k99 n (y5 + (r_5.1 * r_7.1)) (y6 + 1) r_7.2)))
            else
              f_X0_pivots_L17 y0 y2 y3 y4 k99 n y5 (y6 + 1) r_1.2)
noncomputable def f_X0_pivots (p0 : Nat) (x1 : Int32) (x2 : Int32) (ν : gN) : Option (Int32 × gN) :=
  f_X0_pivots_L17 p0 x2 (j_shl 1 x1) (x2 &&& ((j_shl 1 x1) ^^^ (-1))) (fun z5_17 ν_18 =>
    some (z5_17, ν_18)) FU 0 0 ν
theorem me_X0_pivots : g_me yX0_pivots cX0_pivots 8 ((Option.some .int)) 3 := ⟨tw_783, tw_89, ⟨by decide +kernel, by decide +kernel, by decide +kernel⟩, by decide⟩
set_option maxRecDepth 20000 in
set_option maxHeartbeats 2000000 in
theorem m_X0_pivots_L17 {X : gX} {ad : Nat → Nat} {y0 : Nat} {y2 : Int32} {y3 : Int32} {y4 : Int32} {k99 : Int32 → gN → Option (Int32 × gN)} (hy0 : isP y0) : ∀ (n : Nat) (y5 : Int32) (y6 : Int32) (ν : gN) (r : Int32 × gN), f_X0_pivots_L17 y0 y2 y3 y4 k99 n y5 y6 ν = some r → (∀ (z5 : Int32) (ν1 : gN), k99 z5 ν1 = some r → h_go X ad RX0 "pivots" cX0_pivots 8 ((Option.some .int)) 4 (some (.int r.1), r.2) 99 [(5, .int z5)] [] ν1) → h_go X ad RX0 "pivots" cX0_pivots 8 ((Option.some .int)) 4 (some (.int r.1), r.2) 17 [(0, .ref (ad y0)), (2, .int y2), (3, .int y3), (4, .int y4), (5, .int y5), (6, .int y6)] [] ν := by
  intro n
  induction n with
  | zero => intro y5 y6 ν r h hk99; rw [f_X0_pivots_L17] at h; exact q_n h
  | succ n ih =>
    intro y5 y6 ν r h hk99
    rw [f_X0_pivots_L17] at h
    refine go_iload 5 rfl dX0_pivots_17 ?_
    refine go_iconst kz_iconst_1 dX0_pivots_19 ?_
    refine go_aload_n rfl 0 rfl dX0_pivots_20 ?_
    refine h_getiN 6 cl2 (shP hy0) (by decide) tw_124 rfl dX0_pivots_21 ?_
    refine h_ishl dX0_pivots_24 ?_
    refine go_icmp_ge (tgt := 99) dX0_pivots_25 rfl (fun hc => ?_) (fun hc => ?_)
    · replace h := q_t h hc
      refine go_sub (l' := [(5, .int y5)]) [4] rfl ?_
      exact hk99 _ _ h
    · replace h := q_f h hc
      refine go_iload 5 rfl dX0_pivots_28 ?_
      refine go_iload 3 rfl dX0_pivots_30 ?_
      refine go_iconst kz_iconst_m1 dX0_pivots_32 ?_
      refine go_ixor dX0_pivots_33 ?_
      refine go_iand dX0_pivots_34 ?_
      refine go_if_ne (tgt := 42) dX0_pivots_35 rfl (fun hc => ?_) (fun hc => ?_)
      · replace h := q_f h hc
        refine go_iconst kz_iconst_0 dX0_pivots_42 ?_
        refine go_istore (l' := [(7, .int 0), (0, .ref (ad y0)), (2, .int y2), (3, .int y3), (4, .int y4), (5, .int y5), (6, .int y6)]) dX0_pivots_43 (by decide) rfl ?_
        refine go_iload 0 rfl dX0_pivots_45 ?_
        refine go_if_eq (tgt := 93) dX0_pivots_47 rfl (fun hc => ?_) (fun hc => ?_)
        · replace h := q_t h hc
          refine h_iinc (l' := [(6, .int (y6 + 1)), (7, .int 0), (0, .ref (ad y0)), (2, .int y2), (3, .int y3), (4, .int y4), (5, .int y5)]) dX0_pivots_93 6 rfl kz_iconst_1 (by decide) rfl ?_
          refine go_goto (tgt := 17) dX0_pivots_96 rfl ?_
          refine go_sub (l' := [(0, .ref (ad y0)), (2, .int y2), (3, .int y3), (4, .int y4), (5, .int y5), (6, .int (y6 + 1))]) [2, 3, 4, 5, 6, 0] rfl ?_
          exact ih _ _ _ _ h hk99
        · replace h := q_f h hc
          refine go_aload_n rfl 1 rfl dX0_pivots_50 ?_
          refine go_iload 6 rfl dX0_pivots_51 ?_
          refine go_iload_n rfl 2 rfl dX0_pivots_53 ?_
          obtain ⟨r_1, h_2, h⟩ := q_b h
          refine h_callSi (st := []) [.ref (ad y0), .int y6, .int y2] (m_X0_isCarrying hy0 h_2) me_X0_isCarrying tw_784 tw_785 (hdd_of (by decide)) ⟨Nat.zero_le _, Nat.zero_le _⟩ rfl rfl (Nat.le_of_ble_eq_true rfl) dX0_pivots_54 ?_
          refine go_if_ne (tgt := 93) dX0_pivots_57 rfl (fun hc => ?_) (fun hc => ?_)
          · replace h := q_f h hc
            refine h_iinc (l' := [(6, .int (y6 + 1)), (7, .int 0), (0, .ref (ad y0)), (2, .int y2), (3, .int y3), (4, .int y4), (5, .int y5)]) dX0_pivots_93 6 rfl kz_iconst_1 (by decide) rfl ?_
            refine go_goto (tgt := 17) dX0_pivots_96 rfl ?_
            refine go_sub (l' := [(0, .ref (ad y0)), (2, .int y2), (3, .int y3), (4, .int y4), (5, .int y5), (6, .int (y6 + 1))]) [2, 3, 4, 5, 6, 0] rfl ?_
            exact ih _ _ _ _ h hk99
          · replace h := q_t h hc
            refine go_aload_n rfl 1 rfl dX0_pivots_60 ?_
            refine go_iload 6 rfl dX0_pivots_61 ?_
            refine go_iload_n rfl 3 rfl dX0_pivots_63 ?_
            refine go_ior dX0_pivots_64 ?_
            refine go_iload_n rfl 2 rfl dX0_pivots_65 ?_
            obtain ⟨r_3, h_4, h⟩ := q_b h
            refine h_callSi (st := []) [.ref (ad y0), .int (y6 ||| y3), .int y2] (m_X0_isCarrying hy0 h_4) me_X0_isCarrying tw_784 tw_785 (hdd_of (by decide)) ⟨Nat.zero_le _, Nat.zero_le _⟩ rfl rfl (Nat.le_of_ble_eq_true rfl) dX0_pivots_66 ?_
            refine go_if_eq (tgt := 93) dX0_pivots_69 rfl (fun hc => ?_) (fun hc => ?_)
            · replace h := q_t h hc
              refine h_iinc (l' := [(6, .int (y6 + 1)), (7, .int 0), (0, .ref (ad y0)), (2, .int y2), (3, .int y3), (4, .int y4), (5, .int y5)]) dX0_pivots_93 6 rfl kz_iconst_1 (by decide) rfl ?_
              refine go_goto (tgt := 17) dX0_pivots_96 rfl ?_
              refine go_sub (l' := [(0, .ref (ad y0)), (2, .int y2), (3, .int y3), (4, .int y4), (5, .int y5), (6, .int (y6 + 1))]) [2, 3, 4, 5, 6, 0] rfl ?_
              exact ih _ _ _ _ h hk99
            · replace h := q_f h hc
              refine go_iload 5 rfl dX0_pivots_72 ?_
              refine go_iload 6 rfl dX0_pivots_74 ?_
              obtain ⟨r_5, h_6, h⟩ := q_b h
              refine h_callSi (st := [.int y5]) [.int y6] (m_X0_ordersOf h_6) me_X0_ordersOf tw_791 tw_792 (hdd_of (by decide)) ⟨Nat.zero_le _, Nat.zero_le _⟩ rfl rfl (Nat.le_of_ble_eq_true rfl) dX0_pivots_76 ?_
              refine go_iload 4 rfl dX0_pivots_79 ?_
              refine go_iload 6 rfl dX0_pivots_81 ?_
              refine go_iconst kz_iconst_m1 dX0_pivots_83 ?_
              refine go_ixor dX0_pivots_84 ?_
              refine go_iand dX0_pivots_85 ?_
              obtain ⟨r_7, h_8, h⟩ := q_b h
              refine h_callSi (st := [.int r_5.1, .int y5]) [.int (y4 &&& (y6 ^^^ (-1)))] (m_X0_ordersOf h_8) me_X0_ordersOf tw_791 tw_792 (hdd_of (by decide)) ⟨Nat.zero_le _, Nat.zero_le _⟩ rfl rfl (Nat.le_of_ble_eq_true rfl) dX0_pivots_86 ?_
              refine go_imul dX0_pivots_89 ?_
              refine go_iadd dX0_pivots_90 ?_
              refine go_istore (l' := [(5, .int (y5 + (r_5.1 * r_7.1))), (7, .int 0), (0, .ref (ad y0)), (2, .int y2), (3, .int y3), (4, .int y4), (6, .int y6)]) dX0_pivots_91 (by decide) rfl ?_
              refine h_iinc (l' := [(6, .int (y6 + 1)), (5, .int (y5 + (r_5.1 * r_7.1))), (7, .int 0), (0, .ref (ad y0)), (2, .int y2), (3, .int y3), (4, .int y4)]) dX0_pivots_93 6 rfl kz_iconst_1 (by decide) rfl ?_
              refine go_goto (tgt := 17) dX0_pivots_96 rfl ?_
              refine go_sub (l' := [(0, .ref (ad y0)), (2, .int y2), (3, .int y3), (4, .int y4), (5, .int (y5 + (r_5.1 * r_7.1))), (6, .int (y6 + 1))]) [3, 4, 5, 6, 1, 0] rfl ?_
              exact ih _ _ _ _ h hk99
      · replace h := q_t h hc
        refine go_iconst kz_iconst_1 dX0_pivots_38 ?_
        refine go_goto (tgt := 43) dX0_pivots_39 rfl ?_
        refine go_istore (l' := [(7, .int 1), (0, .ref (ad y0)), (2, .int y2), (3, .int y3), (4, .int y4), (5, .int y5), (6, .int y6)]) dX0_pivots_43 (by decide) rfl ?_
        refine go_iload 0 rfl dX0_pivots_45 ?_
        refine go_if_eq (tgt := 93) dX0_pivots_47 rfl (fun hc => ?_) (fun hc => ?_)
        · replace h := q_t h hc
          refine h_iinc (l' := [(6, .int (y6 + 1)), (7, .int 1), (0, .ref (ad y0)), (2, .int y2), (3, .int y3), (4, .int y4), (5, .int y5)]) dX0_pivots_93 6 rfl kz_iconst_1 (by decide) rfl ?_
          refine go_goto (tgt := 17) dX0_pivots_96 rfl ?_
          refine go_sub (l' := [(0, .ref (ad y0)), (2, .int y2), (3, .int y3), (4, .int y4), (5, .int y5), (6, .int (y6 + 1))]) [2, 3, 4, 5, 6, 0] rfl ?_
          exact ih _ _ _ _ h hk99
        · replace h := q_f h hc
          refine go_aload_n rfl 1 rfl dX0_pivots_50 ?_
          refine go_iload 6 rfl dX0_pivots_51 ?_
          refine go_iload_n rfl 2 rfl dX0_pivots_53 ?_
          obtain ⟨r_9, h_10, h⟩ := q_b h
          refine h_callSi (st := []) [.ref (ad y0), .int y6, .int y2] (m_X0_isCarrying hy0 h_10) me_X0_isCarrying tw_784 tw_785 (hdd_of (by decide)) ⟨Nat.zero_le _, Nat.zero_le _⟩ rfl rfl (Nat.le_of_ble_eq_true rfl) dX0_pivots_54 ?_
          refine go_if_ne (tgt := 93) dX0_pivots_57 rfl (fun hc => ?_) (fun hc => ?_)
          · replace h := q_f h hc
            refine h_iinc (l' := [(6, .int (y6 + 1)), (7, .int 1), (0, .ref (ad y0)), (2, .int y2), (3, .int y3), (4, .int y4), (5, .int y5)]) dX0_pivots_93 6 rfl kz_iconst_1 (by decide) rfl ?_
            refine go_goto (tgt := 17) dX0_pivots_96 rfl ?_
            refine go_sub (l' := [(0, .ref (ad y0)), (2, .int y2), (3, .int y3), (4, .int y4), (5, .int y5), (6, .int (y6 + 1))]) [2, 3, 4, 5, 6, 0] rfl ?_
            exact ih _ _ _ _ h hk99
          · replace h := q_t h hc
            refine go_aload_n rfl 1 rfl dX0_pivots_60 ?_
            refine go_iload 6 rfl dX0_pivots_61 ?_
            refine go_iload_n rfl 3 rfl dX0_pivots_63 ?_
            refine go_ior dX0_pivots_64 ?_
            refine go_iload_n rfl 2 rfl dX0_pivots_65 ?_
            obtain ⟨r_11, h_12, h⟩ := q_b h
            refine h_callSi (st := []) [.ref (ad y0), .int (y6 ||| y3), .int y2] (m_X0_isCarrying hy0 h_12) me_X0_isCarrying tw_784 tw_785 (hdd_of (by decide)) ⟨Nat.zero_le _, Nat.zero_le _⟩ rfl rfl (Nat.le_of_ble_eq_true rfl) dX0_pivots_66 ?_
            refine go_if_eq (tgt := 93) dX0_pivots_69 rfl (fun hc => ?_) (fun hc => ?_)
            · replace h := q_t h hc
              refine h_iinc (l' := [(6, .int (y6 + 1)), (7, .int 1), (0, .ref (ad y0)), (2, .int y2), (3, .int y3), (4, .int y4), (5, .int y5)]) dX0_pivots_93 6 rfl kz_iconst_1 (by decide) rfl ?_
              refine go_goto (tgt := 17) dX0_pivots_96 rfl ?_
              refine go_sub (l' := [(0, .ref (ad y0)), (2, .int y2), (3, .int y3), (4, .int y4), (5, .int y5), (6, .int (y6 + 1))]) [2, 3, 4, 5, 6, 0] rfl ?_
              exact ih _ _ _ _ h hk99
            · replace h := q_f h hc
              refine go_iload 5 rfl dX0_pivots_72 ?_
              refine go_iload 6 rfl dX0_pivots_74 ?_
              obtain ⟨r_13, h_14, h⟩ := q_b h
              refine h_callSi (st := [.int y5]) [.int y6] (m_X0_ordersOf h_14) me_X0_ordersOf tw_791 tw_792 (hdd_of (by decide)) ⟨Nat.zero_le _, Nat.zero_le _⟩ rfl rfl (Nat.le_of_ble_eq_true rfl) dX0_pivots_76 ?_
              refine go_iload 4 rfl dX0_pivots_79 ?_
              refine go_iload 6 rfl dX0_pivots_81 ?_
              refine go_iconst kz_iconst_m1 dX0_pivots_83 ?_
              refine go_ixor dX0_pivots_84 ?_
              refine go_iand dX0_pivots_85 ?_
              obtain ⟨r_15, h_16, h⟩ := q_b h
              refine h_callSi (st := [.int r_13.1, .int y5]) [.int (y4 &&& (y6 ^^^ (-1)))] (m_X0_ordersOf h_16) me_X0_ordersOf tw_791 tw_792 (hdd_of (by decide)) ⟨Nat.zero_le _, Nat.zero_le _⟩ rfl rfl (Nat.le_of_ble_eq_true rfl) dX0_pivots_86 ?_
              refine go_imul dX0_pivots_89 ?_
              refine go_iadd dX0_pivots_90 ?_
              refine go_istore (l' := [(5, .int (y5 + (r_13.1 * r_15.1))), (7, .int 1), (0, .ref (ad y0)), (2, .int y2), (3, .int y3), (4, .int y4), (6, .int y6)]) dX0_pivots_91 (by decide) rfl ?_
              refine h_iinc (l' := [(6, .int (y6 + 1)), (5, .int (y5 + (r_13.1 * r_15.1))), (7, .int 1), (0, .ref (ad y0)), (2, .int y2), (3, .int y3), (4, .int y4)]) dX0_pivots_93 6 rfl kz_iconst_1 (by decide) rfl ?_
              refine go_goto (tgt := 17) dX0_pivots_96 rfl ?_
              refine go_sub (l' := [(0, .ref (ad y0)), (2, .int y2), (3, .int y3), (4, .int y4), (5, .int (y5 + (r_13.1 * r_15.1))), (6, .int (y6 + 1))]) [3, 4, 5, 6, 1, 0] rfl ?_
              exact ih _ _ _ _ h hk99
set_option maxRecDepth 20000 in
set_option maxHeartbeats 2000000 in
theorem m_X0_pivots {X : gX} {ad : Nat → Nat} {p0 : Nat} {x1 : Int32} {x2 : Int32} {ν : gN} {r : Int32 × gN} (hp0 : isP p0) (h : f_X0_pivots p0 x1 x2 ν = some r) : h_ct X ad yX0_pivots cX0_pivots 8 ((Option.some .int)) 4 [.ref (ad p0), .int x1, .int x2] ν (some (.int r.1), r.2) := by
  rw [f_X0_pivots] at h
  refine h_ct_of (l := [(0, .ref (ad p0)), (1, .int x1), (2, .int x2)]) (by decide) (Nat.le_of_ble_eq_true rfl) rfl ?_
  refine go_iconst kz_iconst_1 dX0_pivots_0 ?_
  refine go_iload_n rfl 1 rfl dX0_pivots_1 ?_
  refine h_ishl dX0_pivots_2 ?_
  refine go_istore_n (l' := [(3, .int (j_shl 1 x1)), (0, .ref (ad p0)), (1, .int x1), (2, .int x2)]) dX0_pivots_3 rfl (by decide) rfl ?_
  refine go_iload_n rfl 3 rfl dX0_pivots_4 ?_
  refine go_iload_n rfl 0 rfl dX0_pivots_5 ?_
  refine go_iconst kz_iconst_m1 dX0_pivots_6 ?_
  refine go_ixor dX0_pivots_7 ?_
  refine go_iand dX0_pivots_8 ?_
  refine go_istore (l' := [(4, .int (x2 &&& ((j_shl 1 x1) ^^^ (-1)))), (3, .int (j_shl 1 x1)), (0, .ref (ad p0)), (1, .int x1), (2, .int x2)]) dX0_pivots_9 (by decide) rfl ?_
  refine go_iconst kz_iconst_0 dX0_pivots_11 ?_
  refine go_istore (l' := [(5, .int 0), (4, .int (x2 &&& ((j_shl 1 x1) ^^^ (-1)))), (3, .int (j_shl 1 x1)), (0, .ref (ad p0)), (1, .int x1), (2, .int x2)]) dX0_pivots_12 (by decide) rfl ?_
  refine go_iconst kz_iconst_0 dX0_pivots_14 ?_
  refine go_istore (l' := [(6, .int 0), (5, .int 0), (4, .int (x2 &&& ((j_shl 1 x1) ^^^ (-1)))), (3, .int (j_shl 1 x1)), (0, .ref (ad p0)), (1, .int x1), (2, .int x2)]) dX0_pivots_15 (by decide) rfl ?_
  refine go_sub (l' := [(0, .ref (ad p0)), (2, .int x2), (3, .int (j_shl 1 x1)), (4, .int (x2 &&& ((j_shl 1 x1) ^^^ (-1)))), (5, .int 0), (6, .int 0)]) [4, 6, 3, 2, 1, 0] rfl ?_
  refine m_X0_pivots_L17 hp0 FU _ _ _ _ h (fun z5_17 ν_18 h => ?_)
  refine go_iload 0 rfl dX0_pivots_99 ?_
  exact h_iret h dX0_pivots_101 rfl
noncomputable def f_X8_isBetween (x0 : Int32) (x1 : Int32) (x2 : Int32) (ν : gN) : Option (Int32 × gN) :=
  if x0 < x1 then
    some (0, ν)
  else
    if x2 < x0 then
      some (0, ν)
    else
      some (1, ν)
theorem me_X8_isBetween : g_me yX8_isBetween cX8_isBetween 3 ((Option.some .boolean)) 3 := ⟨tw_322, tw_72, ⟨by decide +kernel, by decide +kernel, by decide +kernel⟩, by decide⟩
set_option maxRecDepth 20000 in
set_option maxHeartbeats 2000000 in
theorem m_X8_isBetween {X : gX} {ad : Nat → Nat} {x0 : Int32} {x1 : Int32} {x2 : Int32} {ν : gN} {r : Int32 × gN}  (h : f_X8_isBetween x0 x1 x2 ν = some r) : h_ct X ad yX8_isBetween cX8_isBetween 3 ((Option.some .boolean)) 1 [.int x0, .int x1, .int x2] ν (some (.int r.1), r.2) := by
  rw [f_X8_isBetween] at h
  refine h_ct_of (l := [(0, .int x0), (1, .int x1), (2, .int x2)]) (by decide) (Nat.le_of_ble_eq_true rfl) rfl ?_
  refine go_iload_n rfl 0 rfl dX8_isBetween_0 ?_
  refine go_iload_n rfl 1 rfl dX8_isBetween_1 ?_
  refine go_icmp_lt (tgt := 14) dX8_isBetween_2 rfl (fun hc => ?_) (fun hc => ?_)
  · replace h := q_t h hc
    refine go_iconst kz_iconst_0 dX8_isBetween_14 ?_
    exact h_zret rfl h dX8_isBetween_15 rfl
  · replace h := q_f h hc
    refine go_iload_n rfl 0 rfl dX8_isBetween_5 ?_
    refine go_iload_n rfl 2 rfl dX8_isBetween_6 ?_
    refine go_icmp_gt (tgt := 14) dX8_isBetween_7 rfl (fun hc => ?_) (fun hc => ?_)
    · replace h := q_t h hc
      refine go_iconst kz_iconst_0 dX8_isBetween_14 ?_
      exact h_zret rfl h dX8_isBetween_15 rfl
    · replace h := q_f h hc
      refine go_iconst kz_iconst_1 dX8_isBetween_10 ?_
      refine go_goto (tgt := 15) dX8_isBetween_11 rfl ?_
      exact h_zret rfl h dX8_isBetween_15 rfl
noncomputable def f_X3_isKind (x0 : Int32) (ν : gN) : Option (Int32 × gN) :=
  (f_X8_isBetween x0 0 6 ν).bind (fun r_1 =>
    if zb r_1.1 = true then
      some (r_1.1, r_1.2)
    else none)
theorem me_X3_isKind : g_me yX3_isKind cX3_isKind 1 ((Option.some .boolean)) 1 := ⟨tw_404, tw_82, ⟨by decide +kernel, by decide +kernel, by decide +kernel⟩, by decide⟩
set_option maxRecDepth 20000 in
set_option maxHeartbeats 2000000 in
theorem m_X3_isKind {X : gX} {ad : Nat → Nat} {x0 : Int32} {ν : gN} {r : Int32 × gN}  (h : f_X3_isKind x0 ν = some r) : h_ct X ad yX3_isKind cX3_isKind 1 ((Option.some .boolean)) 2 [.int x0] ν (some (.int r.1), r.2) := by
  rw [f_X3_isKind] at h
  refine h_ct_of (l := [(0, .int x0)]) (by decide) (Nat.le_of_ble_eq_true rfl) rfl ?_
  refine go_iload_n rfl 0 rfl dX3_isKind_0 ?_
  refine go_iconst kz_iconst_0 dX3_isKind_1 ?_
  refine go_bipush kz_bipush_6 dX3_isKind_2 ?_
  obtain ⟨r_1, h_2, h⟩ := q_b h
  refine h_callSNi (st := []) [.int x0, .int 0, .int 6] (m_X8_isBetween h_2) me_X8_isBetween tw_405 tw_321 (hdd_of (by decide)) ⟨Nat.zero_le _, Nat.zero_le _⟩ rfl rfl (Nat.le_of_ble_eq_true rfl) dX3_isKind_4 ?_
  obtain ⟨hg_3, h⟩ := q_g h
  exact h_zret hg_3 h dX3_isKind_7 rfl
noncomputable def f_X3_nextAbove (x0 : Int32) (ν : gN) : Option (Int32 × gN) :=
  (f_X3_isKind x0 ν).bind (fun r_1 =>
    if r_1.1 = 0 then
      some ((-1), r_1.2)
    else
      if inb x0 7 = true then
        some (g_tA x0.toNatClampNeg, r_1.2)
      else none)
theorem me_X3_nextAbove : g_me yX3_nextAbove cX3_nextAbove 1 ((Option.some .int)) 1 := ⟨tw_411, tw_82, ⟨by decide +kernel, by decide +kernel, by decide +kernel⟩, by decide⟩
set_option maxRecDepth 20000 in
set_option maxHeartbeats 2000000 in
theorem m_X3_nextAbove {X : gX} {ad : Nat → Nat} {x0 : Int32} {ν : gN} {r : Int32 × gN}  (h : f_X3_nextAbove x0 ν = some r) : h_ct X ad yX3_nextAbove cX3_nextAbove 1 ((Option.some .int)) 3 [.int x0] ν (some (.int r.1), r.2) := by
  rw [f_X3_nextAbove] at h
  refine h_ct_of (l := [(0, .int x0)]) (by decide) (Nat.le_of_ble_eq_true rfl) rfl ?_
  refine go_iload_n rfl 0 rfl dX3_nextAbove_0 ?_
  obtain ⟨r_1, h_2, h⟩ := q_b h
  refine h_callSi (st := []) [.int x0] (m_X3_isKind h_2) me_X3_isKind tw_412 tw_403 (hdd_of (by decide)) ⟨Nat.zero_le _, Nat.zero_le _⟩ rfl rfl (Nat.le_of_ble_eq_true rfl) dX3_nextAbove_1 ?_
  refine go_if_eq (tgt := 15) dX3_nextAbove_4 rfl (fun hc => ?_) (fun hc => ?_)
  · replace h := q_t h hc
    refine go_iconst kz_iconst_m1 dX3_nextAbove_15 ?_
    exact h_iret h dX3_nextAbove_16 rfl
  · replace h := q_f h hc
    refine go_getsA tw_413 dX3_nextAbove_7 ?_
    refine go_iload_n rfl 0 rfl dX3_nextAbove_10 ?_
    obtain ⟨hg_3, h⟩ := q_g h
    refine h_taldA hg_3 dX3_nextAbove_11 ?_
    refine go_goto (tgt := 16) dX3_nextAbove_12 rfl ?_
    exact h_iret h dX3_nextAbove_16 rfl
noncomputable def f_X1_bodyOf_L4 (y0 : Int32) (k47 : gN → Option (Int32 × gN)) : Nat → Int32 → Int32 → gN → Option (Int32 × gN)
  | 0, _, _, _ => none
  | n + 1, y2, y3, ν =>
    if 7 ≤ y3 then
      k47  ν
    else
      (f_X3_isKind y2 ν).bind (fun r_1 =>
        if r_1.1 = 0 then
          k47  r_1.2
        else
          if inb ((y2 * 3) + y0) 21 = true then
            if (g_tB ((y2 * 3) + y0).toNatClampNeg) = 0 then
              (f_X3_nextAbove y2 r_1.2).bind (fun r_4 =>
                f_X1_bodyOf_L4 y0 k47 n r_4.1 (y3 + 1) r_4.2)
            else
              some (g_tB ((y2 * 3) + y0).toNatClampNeg, r_1.2)
          else none)
noncomputable def f_X1_bodyOf (x0 : Int32) (x1 : Int32) (ν : gN) : Option (Int32 × gN) :=
  f_X1_bodyOf_L4 x0 (fun ν_6 =>
    some (0, ν_6)) FU x1 0 ν
theorem me_X1_bodyOf : g_me yX1_bodyOf cX1_bodyOf 5 ((Option.some .int)) 2 := ⟨tw_873, tw_77, ⟨by decide +kernel, by decide +kernel, by decide +kernel⟩, by decide⟩
set_option maxRecDepth 20000 in
set_option maxHeartbeats 2000000 in
theorem m_X1_bodyOf_L4 {X : gX} {ad : Nat → Nat} {y0 : Int32} {k47 : gN → Option (Int32 × gN)}  : ∀ (n : Nat) (y2 : Int32) (y3 : Int32) (ν : gN) (r : Int32 × gN), f_X1_bodyOf_L4 y0 k47 n y2 y3 ν = some r → (∀ (ν1 : gN), k47 ν1 = some r → h_go X ad RX1 "bodyOf" cX1_bodyOf 5 ((Option.some .int)) 4 (some (.int r.1), r.2) 47 [] [] ν1) → h_go X ad RX1 "bodyOf" cX1_bodyOf 5 ((Option.some .int)) 4 (some (.int r.1), r.2) 4 [(0, .int y0), (2, .int y2), (3, .int y3)] [] ν := by
  intro n
  induction n with
  | zero => intro y2 y3 ν r h hk47; rw [f_X1_bodyOf_L4] at h; exact q_n h
  | succ n ih =>
    intro y2 y3 ν r h hk47
    rw [f_X1_bodyOf_L4] at h
    refine go_iload_n rfl 2 rfl dX1_bodyOf_4 ?_
    refine go_bipush kz_bipush_7 dX1_bodyOf_5 ?_
    refine go_icmp_ge (tgt := 47) dX1_bodyOf_7 rfl (fun hc => ?_) (fun hc => ?_)
    · replace h := q_t h hc
      refine go_sub (l' := []) [] rfl ?_
      exact hk47  _ h
    · replace h := q_f h hc
      refine go_iload_n rfl 1 rfl dX1_bodyOf_10 ?_
      obtain ⟨r_1, h_2, h⟩ := q_b h
      refine h_callSi (st := []) [.int y2] (m_X3_isKind h_2) me_X3_isKind tw_874 tw_403 (hdd_of (by decide)) ⟨Nat.zero_le _, Nat.zero_le _⟩ rfl rfl (Nat.le_of_ble_eq_true rfl) dX1_bodyOf_11 ?_
      refine go_if_eq (tgt := 47) dX1_bodyOf_14 rfl (fun hc => ?_) (fun hc => ?_)
      · replace h := q_t h hc
        refine go_sub (l' := []) [] rfl ?_
        exact hk47  _ h
      · replace h := q_f h hc
        refine go_getsB tw_875 dX1_bodyOf_17 ?_
        refine go_iload_n rfl 1 rfl dX1_bodyOf_20 ?_
        refine go_iconst kz_iconst_3 dX1_bodyOf_21 ?_
        refine go_imul dX1_bodyOf_22 ?_
        refine go_iload_n rfl 0 rfl dX1_bodyOf_23 ?_
        refine go_iadd dX1_bodyOf_24 ?_
        obtain ⟨hg_3, h⟩ := q_g h
        refine h_taldB hg_3 dX1_bodyOf_25 ?_
        refine go_istore (l' := [(4, .int (g_tB ((y2 * 3) + y0).toNatClampNeg)), (0, .int y0), (2, .int y2), (3, .int y3)]) dX1_bodyOf_26 (by decide) rfl ?_
        refine go_iload 0 rfl dX1_bodyOf_28 ?_
        refine go_if_eq (tgt := 36) dX1_bodyOf_30 rfl (fun hc => ?_) (fun hc => ?_)
        · replace h := q_t h hc
          refine go_iload_n rfl 2 rfl dX1_bodyOf_36 ?_
          obtain ⟨r_4, h_5, h⟩ := q_b h
          refine h_callSi (st := []) [.int y2] (m_X3_nextAbove h_5) me_X3_nextAbove tw_877 tw_410 (hdd_of (by decide)) ⟨Nat.zero_le _, Nat.zero_le _⟩ rfl rfl (Nat.le_of_ble_eq_true rfl) dX1_bodyOf_37 ?_
          refine go_istore_n (l' := [(2, .int r_4.1), (4, .int (g_tB ((y2 * 3) + y0).toNatClampNeg)), (0, .int y0), (3, .int y3)]) dX1_bodyOf_40 rfl (by decide) rfl ?_
          refine h_iinc (l' := [(3, .int (y3 + 1)), (2, .int r_4.1), (4, .int (g_tB ((y2 * 3) + y0).toNatClampNeg)), (0, .int y0)]) dX1_bodyOf_41 3 rfl kz_iconst_1 (by decide) rfl ?_
          refine go_goto (tgt := 4) dX1_bodyOf_44 rfl ?_
          refine go_sub (l' := [(0, .int y0), (2, .int r_4.1), (3, .int (y3 + 1))]) [3, 1, 0] rfl ?_
          exact ih _ _ _ _ h hk47
        · replace h := q_f h hc
          refine go_iload 0 rfl dX1_bodyOf_33 ?_
          exact h_iret h dX1_bodyOf_35 rfl
set_option maxRecDepth 20000 in
set_option maxHeartbeats 2000000 in
theorem m_X1_bodyOf {X : gX} {ad : Nat → Nat} {x0 : Int32} {x1 : Int32} {ν : gN} {r : Int32 × gN}  (h : f_X1_bodyOf x0 x1 ν = some r) : h_ct X ad yX1_bodyOf cX1_bodyOf 5 ((Option.some .int)) 4 [.int x0, .int x1] ν (some (.int r.1), r.2) := by
  rw [f_X1_bodyOf] at h
  refine h_ct_of (l := [(0, .int x0), (1, .int x1)]) (by decide) (Nat.le_of_ble_eq_true rfl) rfl ?_
  refine go_iload_n rfl 1 rfl dX1_bodyOf_0 ?_
  refine go_istore_n (l' := [(2, .int x1), (0, .int x0), (1, .int x1)]) dX1_bodyOf_1 rfl (by decide) rfl ?_
  refine go_iconst kz_iconst_0 dX1_bodyOf_2 ?_
  refine go_istore_n (l' := [(3, .int 0), (2, .int x1), (0, .int x0), (1, .int x1)]) dX1_bodyOf_3 rfl (by decide) rfl ?_
  refine go_sub (l' := [(0, .int x0), (2, .int x1), (3, .int 0)]) [2, 1, 0] rfl ?_
  refine m_X1_bodyOf_L4  FU _ _ _ _ h (fun ν_6 h => ?_)
  refine go_iconst kz_iconst_0 dX1_bodyOf_47 ?_
  exact h_iret h dX1_bodyOf_48 rfl
noncomputable def f_X1_note (x1 : Int32) (ν : gN) : Option (gN) :=
  if 20 ≤ (ν.1 35 1) then
    qL (nWI ν 35 1 ((ν.1 35 1) + 1)) (fun ν_1 =>
      some ν_1)
  else
    if inb (ν.1 35 1) 20 = true then
      qL (nWI ν 36 (ν.1 35 1).toNatClampNeg x1) (fun ν_4 =>
        qL (nWI ν_4 35 1 ((ν_4.1 35 1) + 1)) (fun ν_6 =>
          some ν_6))
    else none
theorem me_X1_note : g_me yX1_note cX1_note 2 (none) 1 := ⟨tw_881, tw_77, ⟨by decide +kernel, by decide +kernel, by decide +kernel⟩, by decide⟩
set_option maxRecDepth 20000 in
set_option maxHeartbeats 2000000 in
theorem m_X1_note {X : gX} {ad : Nat → Nat} {x1 : Int32} {ν : gN} {r : gN}  (h : f_X1_note x1 ν = some r) : h_ct X ad yX1_note cX1_note 2 (none) 1 [.ref (ad 35), .int x1] ν (none, r) := by
  rw [f_X1_note] at h
  refine h_ct_of (l := [(0, .ref (ad 35)), (1, .int x1)]) (by decide) (Nat.le_of_ble_eq_true rfl) rfl ?_
  refine go_aload_n rfl 0 rfl dX1_note_0 ?_
  refine h_geti 1 cl0 rfl (by decide) tw_244 rfl dX1_note_1 ?_
  refine go_bipush kz_bipush_20 dX1_note_4 ?_
  refine go_icmp_ge (tgt := 19) dX1_note_6 rfl (fun hc => ?_) (fun hc => ?_)
  · replace h := q_t h hc
    refine go_aload_n rfl 0 rfl dX1_note_19 ?_
    refine go_dup rfl dX1_note_20 ?_
    refine h_geti 1 cl0 rfl (by decide) tw_244 rfl dX1_note_21 ?_
    refine go_iconst kz_iconst_1 dX1_note_24 ?_
    refine go_iadd dX1_note_25 ?_
    obtain ⟨ν_1, e_2, h⟩ := q_l h
    refine h_puti 1 cl0 rfl (by decide) tw_244 rfl rfl e_2 dX1_note_26 ?_
    exact h_vret h dX1_note_29 rfl
  · replace h := q_f h hc
    refine go_aload_n rfl 0 rfl dX1_note_9 ?_
    refine h_getr 0 cl0 rfl (by decide) tw_243 36 rfl dX1_note_10 ?_
    refine go_aload_n rfl 0 rfl dX1_note_13 ?_
    refine h_geti 1 cl0 rfl (by decide) tw_244 rfl dX1_note_14 ?_
    refine go_iload_n rfl 1 rfl dX1_note_17 ?_
    obtain ⟨hg_3, h⟩ := q_g h
    obtain ⟨ν_4, e_5, h⟩ := q_l h
    refine h_iast 20 rfl hg_3 e_5 dX1_note_18 ?_
    refine go_aload_n rfl 0 rfl dX1_note_19 ?_
    refine go_dup rfl dX1_note_20 ?_
    refine h_geti 1 cl0 rfl (by decide) tw_244 rfl dX1_note_21 ?_
    refine go_iconst kz_iconst_1 dX1_note_24 ?_
    refine go_iadd dX1_note_25 ?_
    obtain ⟨ν_6, e_7, h⟩ := q_l h
    refine h_puti 1 cl0 rfl (by decide) tw_244 rfl rfl e_7 dX1_note_26 ?_
    exact h_vret h dX1_note_29 rfl
noncomputable def f_X1_begin : Nat → Int32 → Int32 → Int32 → Int32 → gN → Option (Int32 × gN)
  | 0, _, _, _, _, _ => none
  | n + 1, x1, x2, x3, x4, ν =>
    if x4 ≤ 20 then
      (f_X1_bodyOf x1 x2 ν).bind (fun r_1 =>
        (f_X1_note r_1.1 r_1.2).bind (fun r_3 =>
          if r_1.1 = 10 then
            some (x3 + (r_3.1 35 2), r_3)
          else
          if r_1.1 = 11 then
            (f_X1_begin n 0 (r_1.2.1 35 4) x3 (x4 + 1) r_3).bind (fun r_7 =>
              some (r_7.1 * 2, r_7.2))
          else
          if r_1.1 = 12 then
            (f_X1_begin n 1 (r_1.2.1 35 4) x3 (x4 + 1) r_3).bind (fun r_10 =>
              (f_X1_begin n 0 (r_1.2.1 35 4) (x3 - (r_10.2.1 35 3)) (x4 + 1) r_10.2).bind (fun r_12 =>
                some (r_10.1 ^^^ r_12.1, r_12.2)))
          else
          if r_1.1 = 20 then
            (f_X1_begin n 0 0 x3 (x4 + 1) r_3).bind (fun r_15 =>
              some (r_15.1 + (r_15.2.1 35 3), r_15.2))
          else
          if r_1.1 = 30 then
            (f_X1_begin n 1 0 x3 (x4 + 1) r_3).bind (fun r_18 =>
              some (r_18.1 * 3, r_18.2))
          else
          if r_1.1 = 40 then
            (f_X1_begin n 0 1 (x3 + 1) (x4 + 1) r_3).bind (fun r_21 =>
              some (r_21.1, r_21.2))
          else
          if r_1.1 = 50 then
            (f_X1_begin n 2 0 x3 (x4 + 1) r_3).bind (fun r_24 =>
              some (-r_24.1, r_24.2))
          else
          if r_1.1 = 51 then
            (f_X1_begin n 0 0 x3 (x4 + 1) r_3).bind (fun r_27 =>
              some (r_27.1 - (r_27.2.1 35 2), r_27.2))
          else
          if r_1.1 = 60 then
            (f_X1_begin n 2 2 x3 (x4 + 1) r_3).bind (fun r_30 =>
              some (r_30.1 ^^^ 5, r_30.2))
          else
          if r_1.1 = 70 then
            (f_X1_begin n 0 3 x3 (x4 + 1) r_3).bind (fun r_33 =>
              some (r_33.1 * 2, r_33.2))
          else
          if r_1.1 = 71 then
            (f_X1_begin n 1 3 (x3 - (r_3.1 35 3)) (x4 + 1) r_3).bind (fun r_36 =>
              some (r_36.1, r_36.2))
          else
          some (0, r_3)))
    else
      some (0, ν)
theorem me_X1_begin : g_me yX1_begin cX1_begin 9 ((Option.some .int)) 5 := ⟨tw_870, tw_77, ⟨by decide +kernel, by decide +kernel, by decide +kernel⟩, by decide⟩
set_option maxRecDepth 20000 in
set_option maxHeartbeats 2000000 in
theorem m_X1_begin {X : gX} {ad : Nat → Nat} : ∀ (n : Nat) (x1 : Int32) (x2 : Int32) (x3 : Int32) (x4 : Int32) (ν : gN) (r : Int32 × gN) , f_X1_begin n x1 x2 x3 x4 ν = some r → h_ct X ad yX1_begin cX1_begin 9 ((Option.some .int)) (5 + n) [.ref (ad 35), .int x1, .int x2, .int x3, .int x4] ν (some (.int r.1), r.2) := by
  intro n
  induction n with
  | zero => intro x1 x2 x3 x4 ν r h; rw [f_X1_begin] at h; exact q_n h
  | succ n ih =>
    intro x1 x2 x3 x4 ν r h
    rw [f_X1_begin] at h
    refine h_ct_of (l := [(0, .ref (ad 35)), (1, .int x1), (2, .int x2), (3, .int x3), (4, .int x4)]) (by decide) (Nat.le_of_ble_eq_true rfl) rfl ?_
    refine go_iload 4 rfl dX1_begin_0 ?_
    refine go_bipush kz_bipush_20 dX1_begin_2 ?_
    refine go_icmp_le (tgt := 9) dX1_begin_4 rfl (fun hc => ?_) (fun hc => ?_)
    · replace h := q_t h hc
      refine go_iload_n rfl 1 rfl dX1_begin_9 ?_
      refine go_iload_n rfl 2 rfl dX1_begin_10 ?_
      obtain ⟨r_1, h_2, h⟩ := q_b h
      refine h_callSi (st := []) [.int x1, .int x2] (m_X1_bodyOf h_2) me_X1_bodyOf tw_871 tw_872 (hdd_of (by omega)) ⟨Nat.zero_le _, Nat.zero_le _⟩ rfl rfl (Nat.le_of_ble_eq_true rfl) dX1_begin_11 ?_
      refine go_istore (l' := [(5, .int r_1.1), (0, .ref (ad 35)), (1, .int x1), (2, .int x2), (3, .int x3), (4, .int x4)]) dX1_begin_14 (by decide) rfl ?_
      refine go_iload 5 rfl dX1_begin_16 ?_
      refine go_iconst kz_iconst_1 dX1_begin_18 ?_
      refine go_iadd dX1_begin_19 ?_
      refine go_istore (l' := [(6, .int (x4 + 1)), (5, .int r_1.1), (0, .ref (ad 35)), (1, .int x1), (2, .int x2), (3, .int x3), (4, .int x4)]) dX1_begin_20 (by decide) rfl ?_
      refine go_aload_n rfl 2 rfl dX1_begin_22 ?_
      refine h_geti 4 cl0 rfl (by decide) tw_248 rfl dX1_begin_23 ?_
      refine go_istore (l' := [(7, .int (r_1.2.1 35 4)), (6, .int (x4 + 1)), (5, .int r_1.1), (0, .ref (ad 35)), (1, .int x1), (2, .int x2), (3, .int x3), (4, .int x4)]) dX1_begin_26 (by decide) rfl ?_
      refine go_aload_n rfl 3 rfl dX1_begin_28 ?_
      refine go_iload 2 rfl dX1_begin_29 ?_
      obtain ⟨r_3, h_4, h⟩ := q_b h
      refine h_callVv (st := []) [.int r_1.1] (m_X1_note h_4) me_X1_note (g_recv cl0.1 rfl) tw_878 tw_880 tw_22 (hdd_of (by omega)) ⟨Nat.zero_le _, Nat.zero_le _⟩ rfl rfl (Nat.le_of_ble_eq_true rfl) dX1_begin_31 ?_
      refine go_iload 2 rfl dX1_begin_34 ?_
      by_cases hk_5 : r_1.1 = 10
      · replace h := q_t h hk_5
        refine h_lkT (tgt := 136) (off := 100) hk_5 dX1_begin_36 (by decide) rfl rfl ?_
        refine go_iload_n rfl 6 rfl dX1_begin_136 ?_
        refine go_aload_n rfl 3 rfl dX1_begin_137 ?_
        refine h_geti 2 cl0 rfl (by decide) tw_246 rfl dX1_begin_138 ?_
        refine go_iadd dX1_begin_141 ?_
        exact h_iret h dX1_begin_142 rfl
      replace h := q_f h hk_5
      by_cases hk_6 : r_1.1 = 11
      · replace h := q_t h hk_6
        refine h_lkT (tgt := 143) (off := 107) hk_6 dX1_begin_36 (by decide) rfl rfl ?_
        refine go_aload_n rfl 3 rfl dX1_begin_143 ?_
        refine go_iconst kz_iconst_0 dX1_begin_144 ?_
        refine go_iload 0 rfl dX1_begin_145 ?_
        refine go_iload_n rfl 6 rfl dX1_begin_147 ?_
        refine go_iload 1 rfl dX1_begin_148 ?_
        obtain ⟨r_7, h_8, h⟩ := q_b h
        refine h_callSi (st := []) [.ref (ad 35), .int 0, .int (r_1.2.1 35 4), .int x3, .int (x4 + 1)] (ih _ _ _ _ _ _ h_8) me_X1_begin tw_868 tw_869 (hdd_of (by omega)) ⟨Nat.zero_le _, Nat.zero_le _⟩ rfl rfl (Nat.le_of_ble_eq_true rfl) dX1_begin_150 ?_
        refine go_iconst kz_iconst_2 dX1_begin_153 ?_
        refine go_imul dX1_begin_154 ?_
        exact h_iret h dX1_begin_155 rfl
      replace h := q_f h hk_6
      by_cases hk_9 : r_1.1 = 12
      · replace h := q_t h hk_9
        refine h_lkT (tgt := 156) (off := 120) hk_9 dX1_begin_36 (by decide) rfl rfl ?_
        refine go_aload_n rfl 3 rfl dX1_begin_156 ?_
        refine go_iconst kz_iconst_1 dX1_begin_157 ?_
        refine go_iload 0 rfl dX1_begin_158 ?_
        refine go_iload_n rfl 6 rfl dX1_begin_160 ?_
        refine go_iload 1 rfl dX1_begin_161 ?_
        obtain ⟨r_10, h_11, h⟩ := q_b h
        refine h_callSi (st := []) [.ref (ad 35), .int 1, .int (r_1.2.1 35 4), .int x3, .int (x4 + 1)] (ih _ _ _ _ _ _ h_11) me_X1_begin tw_868 tw_869 (hdd_of (by omega)) ⟨Nat.zero_le _, Nat.zero_le _⟩ rfl rfl (Nat.le_of_ble_eq_true rfl) dX1_begin_163 ?_
        refine go_istore (l' := [(8, .int r_10.1), (7, .int (r_1.2.1 35 4)), (6, .int (x4 + 1)), (5, .int r_1.1), (0, .ref (ad 35)), (1, .int x1), (2, .int x2), (3, .int x3), (4, .int x4)]) dX1_begin_166 (by decide) rfl ?_
        refine go_iload 0 rfl dX1_begin_168 ?_
        refine go_aload_n rfl 4 rfl dX1_begin_170 ?_
        refine go_iconst kz_iconst_0 dX1_begin_171 ?_
        refine go_iload 1 rfl dX1_begin_172 ?_
        refine go_iload_n rfl 7 rfl dX1_begin_174 ?_
        refine go_aload_n rfl 4 rfl dX1_begin_175 ?_
        refine h_geti 3 cl0 rfl (by decide) tw_247 rfl dX1_begin_176 ?_
        refine go_isub dX1_begin_179 ?_
        refine go_iload 2 rfl dX1_begin_180 ?_
        obtain ⟨r_12, h_13, h⟩ := q_b h
        refine h_callSi (st := [.int r_10.1]) [.ref (ad 35), .int 0, .int (r_1.2.1 35 4), .int (x3 - (r_10.2.1 35 3)), .int (x4 + 1)] (ih _ _ _ _ _ _ h_13) me_X1_begin tw_868 tw_869 (hdd_of (by omega)) ⟨Nat.zero_le _, Nat.zero_le _⟩ rfl rfl (Nat.le_of_ble_eq_true rfl) dX1_begin_182 ?_
        refine go_ixor dX1_begin_185 ?_
        exact h_iret h dX1_begin_186 rfl
      replace h := q_f h hk_9
      by_cases hk_14 : r_1.1 = 20
      · replace h := q_t h hk_14
        refine h_lkT (tgt := 187) (off := 151) hk_14 dX1_begin_36 (by decide) rfl rfl ?_
        refine go_aload_n rfl 3 rfl dX1_begin_187 ?_
        refine go_iconst kz_iconst_0 dX1_begin_188 ?_
        refine go_iconst kz_iconst_0 dX1_begin_189 ?_
        refine go_iload_n rfl 6 rfl dX1_begin_190 ?_
        refine go_iload 1 rfl dX1_begin_191 ?_
        obtain ⟨r_15, h_16, h⟩ := q_b h
        refine h_callSi (st := []) [.ref (ad 35), .int 0, .int 0, .int x3, .int (x4 + 1)] (ih _ _ _ _ _ _ h_16) me_X1_begin tw_868 tw_869 (hdd_of (by omega)) ⟨Nat.zero_le _, Nat.zero_le _⟩ rfl rfl (Nat.le_of_ble_eq_true rfl) dX1_begin_193 ?_
        refine go_aload_n rfl 3 rfl dX1_begin_196 ?_
        refine h_geti 3 cl0 rfl (by decide) tw_247 rfl dX1_begin_197 ?_
        refine go_iadd dX1_begin_200 ?_
        exact h_iret h dX1_begin_201 rfl
      replace h := q_f h hk_14
      by_cases hk_17 : r_1.1 = 30
      · replace h := q_t h hk_17
        refine h_lkT (tgt := 202) (off := 166) hk_17 dX1_begin_36 (by decide) rfl rfl ?_
        refine go_aload_n rfl 3 rfl dX1_begin_202 ?_
        refine go_iconst kz_iconst_1 dX1_begin_203 ?_
        refine go_iconst kz_iconst_0 dX1_begin_204 ?_
        refine go_iload_n rfl 6 rfl dX1_begin_205 ?_
        refine go_iload 1 rfl dX1_begin_206 ?_
        obtain ⟨r_18, h_19, h⟩ := q_b h
        refine h_callSi (st := []) [.ref (ad 35), .int 1, .int 0, .int x3, .int (x4 + 1)] (ih _ _ _ _ _ _ h_19) me_X1_begin tw_868 tw_869 (hdd_of (by omega)) ⟨Nat.zero_le _, Nat.zero_le _⟩ rfl rfl (Nat.le_of_ble_eq_true rfl) dX1_begin_208 ?_
        refine go_iconst kz_iconst_3 dX1_begin_211 ?_
        refine go_imul dX1_begin_212 ?_
        exact h_iret h dX1_begin_213 rfl
      replace h := q_f h hk_17
      by_cases hk_20 : r_1.1 = 40
      · replace h := q_t h hk_20
        refine h_lkT (tgt := 214) (off := 178) hk_20 dX1_begin_36 (by decide) rfl rfl ?_
        refine go_aload_n rfl 3 rfl dX1_begin_214 ?_
        refine go_iconst kz_iconst_0 dX1_begin_215 ?_
        refine go_iconst kz_iconst_1 dX1_begin_216 ?_
        refine go_iload_n rfl 6 rfl dX1_begin_217 ?_
        refine go_iconst kz_iconst_1 dX1_begin_218 ?_
        refine go_iadd dX1_begin_219 ?_
        refine go_iload 1 rfl dX1_begin_220 ?_
        obtain ⟨r_21, h_22, h⟩ := q_b h
        refine h_callSi (st := []) [.ref (ad 35), .int 0, .int 1, .int (x3 + 1), .int (x4 + 1)] (ih _ _ _ _ _ _ h_22) me_X1_begin tw_868 tw_869 (hdd_of (by omega)) ⟨Nat.zero_le _, Nat.zero_le _⟩ rfl rfl (Nat.le_of_ble_eq_true rfl) dX1_begin_222 ?_
        exact h_iret h dX1_begin_225 rfl
      replace h := q_f h hk_20
      by_cases hk_23 : r_1.1 = 50
      · replace h := q_t h hk_23
        refine h_lkT (tgt := 226) (off := 190) hk_23 dX1_begin_36 (by decide) rfl rfl ?_
        refine go_aload_n rfl 3 rfl dX1_begin_226 ?_
        refine go_iconst kz_iconst_2 dX1_begin_227 ?_
        refine go_iconst kz_iconst_0 dX1_begin_228 ?_
        refine go_iload_n rfl 6 rfl dX1_begin_229 ?_
        refine go_iload 1 rfl dX1_begin_230 ?_
        obtain ⟨r_24, h_25, h⟩ := q_b h
        refine h_callSi (st := []) [.ref (ad 35), .int 2, .int 0, .int x3, .int (x4 + 1)] (ih _ _ _ _ _ _ h_25) me_X1_begin tw_868 tw_869 (hdd_of (by omega)) ⟨Nat.zero_le _, Nat.zero_le _⟩ rfl rfl (Nat.le_of_ble_eq_true rfl) dX1_begin_232 ?_
        refine go_ineg dX1_begin_235 ?_
        exact h_iret h dX1_begin_236 rfl
      replace h := q_f h hk_23
      by_cases hk_26 : r_1.1 = 51
      · replace h := q_t h hk_26
        refine h_lkT (tgt := 237) (off := 201) hk_26 dX1_begin_36 (by decide) rfl rfl ?_
        refine go_aload_n rfl 3 rfl dX1_begin_237 ?_
        refine go_iconst kz_iconst_0 dX1_begin_238 ?_
        refine go_iconst kz_iconst_0 dX1_begin_239 ?_
        refine go_iload_n rfl 6 rfl dX1_begin_240 ?_
        refine go_iload 1 rfl dX1_begin_241 ?_
        obtain ⟨r_27, h_28, h⟩ := q_b h
        refine h_callSi (st := []) [.ref (ad 35), .int 0, .int 0, .int x3, .int (x4 + 1)] (ih _ _ _ _ _ _ h_28) me_X1_begin tw_868 tw_869 (hdd_of (by omega)) ⟨Nat.zero_le _, Nat.zero_le _⟩ rfl rfl (Nat.le_of_ble_eq_true rfl) dX1_begin_243 ?_
        refine go_aload_n rfl 3 rfl dX1_begin_246 ?_
        refine h_geti 2 cl0 rfl (by decide) tw_246 rfl dX1_begin_247 ?_
        refine go_isub dX1_begin_250 ?_
        exact h_iret h dX1_begin_251 rfl
      replace h := q_f h hk_26
      by_cases hk_29 : r_1.1 = 60
      · replace h := q_t h hk_29
        refine h_lkT (tgt := 252) (off := 216) hk_29 dX1_begin_36 (by decide) rfl rfl ?_
        refine go_aload_n rfl 3 rfl dX1_begin_252 ?_
        refine go_iconst kz_iconst_2 dX1_begin_253 ?_
        refine go_iconst kz_iconst_2 dX1_begin_254 ?_
        refine go_iload_n rfl 6 rfl dX1_begin_255 ?_
        refine go_iload 1 rfl dX1_begin_256 ?_
        obtain ⟨r_30, h_31, h⟩ := q_b h
        refine h_callSi (st := []) [.ref (ad 35), .int 2, .int 2, .int x3, .int (x4 + 1)] (ih _ _ _ _ _ _ h_31) me_X1_begin tw_868 tw_869 (hdd_of (by omega)) ⟨Nat.zero_le _, Nat.zero_le _⟩ rfl rfl (Nat.le_of_ble_eq_true rfl) dX1_begin_258 ?_
        refine go_iconst kz_iconst_5 dX1_begin_261 ?_
        refine go_ixor dX1_begin_262 ?_
        exact h_iret h dX1_begin_263 rfl
      replace h := q_f h hk_29
      by_cases hk_32 : r_1.1 = 70
      · replace h := q_t h hk_32
        refine h_lkT (tgt := 264) (off := 228) hk_32 dX1_begin_36 (by decide) rfl rfl ?_
        refine go_aload_n rfl 3 rfl dX1_begin_264 ?_
        refine go_iconst kz_iconst_0 dX1_begin_265 ?_
        refine go_iconst kz_iconst_3 dX1_begin_266 ?_
        refine go_iload_n rfl 6 rfl dX1_begin_267 ?_
        refine go_iload 1 rfl dX1_begin_268 ?_
        obtain ⟨r_33, h_34, h⟩ := q_b h
        refine h_callSi (st := []) [.ref (ad 35), .int 0, .int 3, .int x3, .int (x4 + 1)] (ih _ _ _ _ _ _ h_34) me_X1_begin tw_868 tw_869 (hdd_of (by omega)) ⟨Nat.zero_le _, Nat.zero_le _⟩ rfl rfl (Nat.le_of_ble_eq_true rfl) dX1_begin_270 ?_
        refine go_iconst kz_iconst_2 dX1_begin_273 ?_
        refine go_imul dX1_begin_274 ?_
        exact h_iret h dX1_begin_275 rfl
      replace h := q_f h hk_32
      by_cases hk_35 : r_1.1 = 71
      · replace h := q_t h hk_35
        refine h_lkT (tgt := 276) (off := 240) hk_35 dX1_begin_36 (by decide) rfl rfl ?_
        refine go_aload_n rfl 3 rfl dX1_begin_276 ?_
        refine go_iconst kz_iconst_1 dX1_begin_277 ?_
        refine go_iconst kz_iconst_3 dX1_begin_278 ?_
        refine go_iload_n rfl 6 rfl dX1_begin_279 ?_
        refine go_aload_n rfl 3 rfl dX1_begin_280 ?_
        refine h_geti 3 cl0 rfl (by decide) tw_247 rfl dX1_begin_281 ?_
        refine go_isub dX1_begin_284 ?_
        refine go_iload 1 rfl dX1_begin_285 ?_
        obtain ⟨r_36, h_37, h⟩ := q_b h
        refine h_callSi (st := []) [.ref (ad 35), .int 1, .int 3, .int (x3 - (r_3.1 35 3)), .int (x4 + 1)] (ih _ _ _ _ _ _ h_37) me_X1_begin tw_868 tw_869 (hdd_of (by omega)) ⟨Nat.zero_le _, Nat.zero_le _⟩ rfl rfl (Nat.le_of_ble_eq_true rfl) dX1_begin_287 ?_
        exact h_iret h dX1_begin_290 rfl
      replace h := q_f h hk_35
      refine go_lookup (tgt := 291) (off := 255) dX1_begin_36 (by decide) ((lv_osw hk_5 (by decide)).trans ((lv_osw hk_6 (by decide)).trans ((lv_osw hk_9 (by decide)).trans ((lv_osw hk_14 (by decide)).trans ((lv_osw hk_17 (by decide)).trans ((lv_osw hk_20 (by decide)).trans ((lv_osw hk_23 (by decide)).trans ((lv_osw hk_26 (by decide)).trans ((lv_osw hk_29 (by decide)).trans ((lv_osw hk_32 (by decide)).trans ((lv_osw hk_35 (by decide)).trans rfl))))))))))) rfl ?_
      refine go_iconst kz_iconst_0 dX1_begin_291 ?_
      exact h_iret h dX1_begin_292 rfl
    · replace h := q_f h hc
      refine go_iconst kz_iconst_0 dX1_begin_7 ?_
      exact h_iret h dX1_begin_8 rfl
noncomputable def f_X1_bodyAt (x1 : Int32) (ν : gN) : Option (Int32 × gN) :=
  if x1 < 0 then
    some ((-1), ν)
  else
    if (ν.1 35 1) ≤ x1 then
      some ((-1), ν)
    else
      if 20 ≤ x1 then
        some ((-1), ν)
      else
        if inb x1 20 = true then
          some (ν.1 36 x1.toNatClampNeg, ν)
        else none
theorem me_X1_bodyAt : g_me yX1_bodyAt cX1_bodyAt 2 ((Option.some .int)) 1 := ⟨tw_889, tw_77, ⟨by decide +kernel, by decide +kernel, by decide +kernel⟩, by decide⟩
set_option maxRecDepth 20000 in
set_option maxHeartbeats 2000000 in
theorem m_X1_bodyAt {X : gX} {ad : Nat → Nat} {x1 : Int32} {ν : gN} {r : Int32 × gN}  (h : f_X1_bodyAt x1 ν = some r) : h_ct X ad yX1_bodyAt cX1_bodyAt 2 ((Option.some .int)) 1 [.ref (ad 35), .int x1] ν (some (.int r.1), r.2) := by
  rw [f_X1_bodyAt] at h
  refine h_ct_of (l := [(0, .ref (ad 35)), (1, .int x1)]) (by decide) (Nat.le_of_ble_eq_true rfl) rfl ?_
  refine go_iload_n rfl 1 rfl dX1_bodyAt_0 ?_
  refine go_if_lt (tgt := 27) dX1_bodyAt_1 rfl (fun hc => ?_) (fun hc => ?_)
  · replace h := q_t h hc
    refine go_iconst kz_iconst_m1 dX1_bodyAt_27 ?_
    exact h_iret h dX1_bodyAt_28 rfl
  · replace h := q_f h hc
    refine go_iload_n rfl 1 rfl dX1_bodyAt_4 ?_
    refine go_aload_n rfl 0 rfl dX1_bodyAt_5 ?_
    refine h_geti 1 cl0 rfl (by decide) tw_244 rfl dX1_bodyAt_6 ?_
    refine go_icmp_ge (tgt := 27) dX1_bodyAt_9 rfl (fun hc => ?_) (fun hc => ?_)
    · replace h := q_t h hc
      refine go_iconst kz_iconst_m1 dX1_bodyAt_27 ?_
      exact h_iret h dX1_bodyAt_28 rfl
    · replace h := q_f h hc
      refine go_iload_n rfl 1 rfl dX1_bodyAt_12 ?_
      refine go_bipush kz_bipush_20 dX1_bodyAt_13 ?_
      refine go_icmp_ge (tgt := 27) dX1_bodyAt_15 rfl (fun hc => ?_) (fun hc => ?_)
      · replace h := q_t h hc
        refine go_iconst kz_iconst_m1 dX1_bodyAt_27 ?_
        exact h_iret h dX1_bodyAt_28 rfl
      · replace h := q_f h hc
        refine go_aload_n rfl 0 rfl dX1_bodyAt_18 ?_
        refine h_getr 0 cl0 rfl (by decide) tw_243 36 rfl dX1_bodyAt_19 ?_
        refine go_iload_n rfl 1 rfl dX1_bodyAt_22 ?_
        obtain ⟨hg_1, h⟩ := q_g h
        refine h_iald 20 rfl hg_1 dX1_bodyAt_23 ?_
        refine go_goto (tgt := 28) dX1_bodyAt_24 rfl ?_
        exact h_iret h dX1_bodyAt_28 rfl
noncomputable def f_X1_forget  (ν : gN) : Option (gN) :=
  qL (nWI ν 35 1 0) (fun ν_1 =>
    some ν_1)
theorem me_X1_forget : g_me yX1_forget cX1_forget 1 (none) 0 := ⟨tw_863, tw_77, ⟨by decide +kernel, by decide +kernel, by decide +kernel⟩, by decide⟩
set_option maxRecDepth 20000 in
set_option maxHeartbeats 2000000 in
theorem m_X1_forget {X : gX} {ad : Nat → Nat}  {ν : gN} {r : gN}  (h : f_X1_forget  ν = some r) : h_ct X ad yX1_forget cX1_forget 1 (none) 1 [.ref (ad 35)] ν (none, r) := by
  rw [f_X1_forget] at h
  refine h_ct_of (l := [(0, .ref (ad 35))]) (by decide) (Nat.le_of_ble_eq_true rfl) rfl ?_
  refine go_aload_n rfl 0 rfl dX1_forget_0 ?_
  refine go_iconst kz_iconst_0 dX1_forget_1 ?_
  obtain ⟨ν_1, e_2, h⟩ := q_l h
  refine h_puti 1 cl0 rfl (by decide) tw_244 rfl rfl e_2 dX1_forget_2 ?_
  exact h_vret h dX1_forget_5 rfl
noncomputable def f_X1_perform (p1 : Nat) (x2 : Int32) (x3 : Int32) (x4 : Int32) (ν : gN) : Option (Int32 × gN) :=
  qL (nWI ν 35 2 x2) (fun ν_1 =>
    if inb x2 7 = true then
      qL (nWI ν_1 35 3 (ν_1.1 (p1 + 2) x2.toNatClampNeg)) (fun ν_4 =>
        if inb x2 7 = true then
          qL (nWI ν_4 35 4 (ν_4.1 (p1 + 1) x2.toNatClampNeg)) (fun ν_7 =>
            (f_X1_begin 24 x3 (ν_7.1 35 4) x4 0 ν_7).bind (fun r_9 =>
              some (r_9.1, r_9.2)))
        else none)
    else none)
theorem me_X1_perform : g_me yX1_perform cX1_perform 5 ((Option.some .int)) 4 := ⟨tw_867, tw_77, ⟨by decide +kernel, by decide +kernel, by decide +kernel⟩, by decide⟩
set_option maxRecDepth 20000 in
set_option maxHeartbeats 2000000 in
theorem m_X1_perform {X : gX} {ad : Nat → Nat} {p1 : Nat} {x2 : Int32} {x3 : Int32} {x4 : Int32} {ν : gN} {r : Int32 × gN} (hp1 : isP p1) (h : f_X1_perform p1 x2 x3 x4 ν = some r) : h_ct X ad yX1_perform cX1_perform 5 ((Option.some .int)) 30 [.ref (ad 35), .ref (ad p1), .int x2, .int x3, .int x4] ν (some (.int r.1), r.2) := by
  rw [f_X1_perform] at h
  refine h_ct_of (l := [(0, .ref (ad 35)), (1, .ref (ad p1)), (2, .int x2), (3, .int x3), (4, .int x4)]) (by decide) (Nat.le_of_ble_eq_true rfl) rfl ?_
  refine go_aload_n rfl 0 rfl dX1_perform_0 ?_
  refine go_iload_n rfl 2 rfl dX1_perform_1 ?_
  obtain ⟨ν_1, e_2, h⟩ := q_l h
  refine h_puti 2 cl0 rfl (by decide) tw_246 rfl rfl e_2 dX1_perform_2 ?_
  refine go_aload_n rfl 0 rfl dX1_perform_5 ?_
  refine go_aload_n rfl 1 rfl dX1_perform_6 ?_
  refine h_getrN 1 cl2 (shP hp1) (by decide) tw_110 (p1 + 2) (fvP1 hp1) dX1_perform_7 ?_
  refine go_iload_n rfl 2 rfl dX1_perform_10 ?_
  obtain ⟨hg_3, h⟩ := q_g h
  refine h_iald 7 (shP2 hp1) hg_3 dX1_perform_11 ?_
  obtain ⟨ν_4, e_5, h⟩ := q_l h
  refine h_puti 3 cl0 rfl (by decide) tw_247 rfl rfl e_5 dX1_perform_12 ?_
  refine go_aload_n rfl 0 rfl dX1_perform_15 ?_
  refine go_aload_n rfl 1 rfl dX1_perform_16 ?_
  refine h_getrN 0 cl2 (shP hp1) (by decide) tw_106 (p1 + 1) (fvP0 hp1) dX1_perform_17 ?_
  refine go_iload_n rfl 2 rfl dX1_perform_20 ?_
  obtain ⟨hg_6, h⟩ := q_g h
  refine h_iald 7 (shP1 hp1) hg_6 dX1_perform_21 ?_
  obtain ⟨ν_7, e_8, h⟩ := q_l h
  refine h_puti 4 cl0 rfl (by decide) tw_248 rfl rfl e_8 dX1_perform_22 ?_
  refine go_aload_n rfl 0 rfl dX1_perform_25 ?_
  refine go_iload_n rfl 3 rfl dX1_perform_26 ?_
  refine go_aload_n rfl 0 rfl dX1_perform_27 ?_
  refine h_geti 4 cl0 rfl (by decide) tw_248 rfl dX1_perform_28 ?_
  refine go_iload 4 rfl dX1_perform_31 ?_
  refine go_iconst kz_iconst_0 dX1_perform_33 ?_
  obtain ⟨r_9, h_10, h⟩ := q_b h
  refine h_callSi (st := []) [.ref (ad 35), .int x3, .int (ν_7.1 35 4), .int x4, .int 0] (m_X1_begin 24 _ _ _ _ _ _ h_10) me_X1_begin tw_868 tw_869 (hdd_of (by decide)) ⟨Nat.zero_le _, Nat.zero_le _⟩ rfl rfl (Nat.le_of_ble_eq_true rfl) dX1_perform_34 ?_
  exact h_iret h dX1_perform_37 rfl
noncomputable def f_X2_crowdedSquare_L20 (y1 : Nat) (y2 : Int32) (y3 : Int32) (y4 : Int32) (k57 : Int32 → gN → Option (Int32 × gN)) : Nat → Int32 → Int32 → gN → Option (Int32 × gN)
  | 0, _, _, _ => none
  | n + 1, y5, y6, ν =>
    if (ν.1 y1 6) ≤ y6 then
      k57 y5 ν
    else
      if inb y6 7 = true then
        if (ν.1 31 y6.toNatClampNeg) = y4 then
          f_X2_crowdedSquare_L20 y1 y2 y3 y4 k57 n (y5 + 1) (y6 + 1) ν
        else
          f_X2_crowdedSquare_L20 y1 y2 y3 y4 k57 n (y5 + 0) (y6 + 1) ν
      else none
noncomputable def f_X2_crowdedSquare_L7 (y1 : Nat) (k75 : Int32 → gN → Option (Int32 × gN)) : Nat → Int32 → Int32 → Int32 → gN → Option (Int32 × gN)
  | 0, _, _, _, _ => none
  | n + 1, y2, y3, y4, ν =>
    if 49 ≤ y4 then
      k75 y2 ν
    else
      f_X2_crowdedSquare_L20 y1 y2 y3 y4 (fun z5_2 ν_3 =>
        if z5_2 ≤ y3 then
          f_X2_crowdedSquare_L7 y1 k75 n y2 y3 (y4 + 1) ν_3
        else
          f_X2_crowdedSquare_L7 y1 k75 n y4 z5_2 (y4 + 1) ν_3) FU 0 0 ν
noncomputable def f_X2_crowdedSquare (p1 : Nat) (ν : gN) : Option (Int32 × gN) :=
  f_X2_crowdedSquare_L7 p1 (fun z2_4 ν_5 =>
    some (z2_4, ν_5)) FU (-1) 0 0 ν
theorem me_X2_crowdedSquare : g_me yX2_crowdedSquare cX2_crowdedSquare 7 ((Option.some .int)) 1 := ⟨tw_821, tw_75, ⟨by decide +kernel, by decide +kernel, by decide +kernel⟩, by decide⟩
set_option maxRecDepth 20000 in
set_option maxHeartbeats 2000000 in
theorem m_X2_crowdedSquare_L20 {X : gX} {ad : Nat → Nat} {y1 : Nat} {y2 : Int32} {y3 : Int32} {y4 : Int32} {k57 : Int32 → gN → Option (Int32 × gN)} (hy1 : isP y1) : ∀ (n : Nat) (y5 : Int32) (y6 : Int32) (ν : gN) (r : Int32 × gN), f_X2_crowdedSquare_L20 y1 y2 y3 y4 k57 n y5 y6 ν = some r → (∀ (z5 : Int32) (ν1 : gN), k57 z5 ν1 = some r → h_go X ad RX2 "crowdedSquare" cX2_crowdedSquare 7 ((Option.some .int)) 1 (some (.int r.1), r.2) 57 [(0, .ref (ad 30)), (1, .ref (ad y1)), (2, .int y2), (3, .int y3), (4, .int y4), (5, .int z5)] [] ν1) → h_go X ad RX2 "crowdedSquare" cX2_crowdedSquare 7 ((Option.some .int)) 1 (some (.int r.1), r.2) 20 [(0, .ref (ad 30)), (1, .ref (ad y1)), (2, .int y2), (3, .int y3), (4, .int y4), (5, .int y5), (6, .int y6)] [] ν := by
  intro n
  induction n with
  | zero => intro y5 y6 ν r h hk57; rw [f_X2_crowdedSquare_L20] at h; exact q_n h
  | succ n ih =>
    intro y5 y6 ν r h hk57
    rw [f_X2_crowdedSquare_L20] at h
    refine go_iload 6 rfl dX2_crowdedSquare_20 ?_
    refine go_aload_n rfl 1 rfl dX2_crowdedSquare_22 ?_
    refine h_getiN 6 cl2 (shP hy1) (by decide) tw_123 rfl dX2_crowdedSquare_23 ?_
    refine go_icmp_ge (tgt := 57) dX2_crowdedSquare_26 rfl (fun hc => ?_) (fun hc => ?_)
    · replace h := q_t h hc
      refine go_sub (l' := [(0, .ref (ad 30)), (1, .ref (ad y1)), (2, .int y2), (3, .int y3), (4, .int y4), (5, .int y5)]) [0, 1, 2, 3, 4, 5] rfl ?_
      exact hk57 _ _ h
    · replace h := q_f h hc
      refine go_iload 5 rfl dX2_crowdedSquare_29 ?_
      refine go_aload_n rfl 0 rfl dX2_crowdedSquare_31 ?_
      refine h_getr 0 cl1 rfl (by decide) tw_204 31 rfl dX2_crowdedSquare_32 ?_
      refine go_iload 6 rfl dX2_crowdedSquare_35 ?_
      obtain ⟨hg_1, h⟩ := q_g h
      refine h_iald 7 rfl hg_1 dX2_crowdedSquare_37 ?_
      refine go_iload 4 rfl dX2_crowdedSquare_38 ?_
      refine go_icmp_ne (tgt := 47) dX2_crowdedSquare_40 rfl (fun hc => ?_) (fun hc => ?_)
      · replace h := q_f h hc
        refine go_iconst kz_iconst_0 dX2_crowdedSquare_47 ?_
        refine go_iadd dX2_crowdedSquare_48 ?_
        refine go_istore (l' := [(5, .int (y5 + 0)), (0, .ref (ad 30)), (1, .ref (ad y1)), (2, .int y2), (3, .int y3), (4, .int y4), (6, .int y6)]) dX2_crowdedSquare_49 (by decide) rfl ?_
        refine h_iinc (l' := [(6, .int (y6 + 1)), (5, .int (y5 + 0)), (0, .ref (ad 30)), (1, .ref (ad y1)), (2, .int y2), (3, .int y3), (4, .int y4)]) dX2_crowdedSquare_51 6 rfl kz_iconst_1 (by decide) rfl ?_
        refine go_goto (tgt := 20) dX2_crowdedSquare_54 rfl ?_
        refine go_sub (l' := [(0, .ref (ad 30)), (1, .ref (ad y1)), (2, .int y2), (3, .int y3), (4, .int y4), (5, .int (y5 + 0)), (6, .int (y6 + 1))]) [2, 3, 4, 5, 6, 1, 0] rfl ?_
        exact ih _ _ _ _ h hk57
      · replace h := q_t h hc
        refine go_iconst kz_iconst_1 dX2_crowdedSquare_43 ?_
        refine go_goto (tgt := 48) dX2_crowdedSquare_44 rfl ?_
        refine go_iadd dX2_crowdedSquare_48 ?_
        refine go_istore (l' := [(5, .int (y5 + 1)), (0, .ref (ad 30)), (1, .ref (ad y1)), (2, .int y2), (3, .int y3), (4, .int y4), (6, .int y6)]) dX2_crowdedSquare_49 (by decide) rfl ?_
        refine h_iinc (l' := [(6, .int (y6 + 1)), (5, .int (y5 + 1)), (0, .ref (ad 30)), (1, .ref (ad y1)), (2, .int y2), (3, .int y3), (4, .int y4)]) dX2_crowdedSquare_51 6 rfl kz_iconst_1 (by decide) rfl ?_
        refine go_goto (tgt := 20) dX2_crowdedSquare_54 rfl ?_
        refine go_sub (l' := [(0, .ref (ad 30)), (1, .ref (ad y1)), (2, .int y2), (3, .int y3), (4, .int y4), (5, .int (y5 + 1)), (6, .int (y6 + 1))]) [2, 3, 4, 5, 6, 1, 0] rfl ?_
        exact ih _ _ _ _ h hk57
set_option maxRecDepth 20000 in
set_option maxHeartbeats 2000000 in
theorem m_X2_crowdedSquare_L7 {X : gX} {ad : Nat → Nat} {y1 : Nat} {k75 : Int32 → gN → Option (Int32 × gN)} (hy1 : isP y1) : ∀ (n : Nat) (y2 : Int32) (y3 : Int32) (y4 : Int32) (ν : gN) (r : Int32 × gN), f_X2_crowdedSquare_L7 y1 k75 n y2 y3 y4 ν = some r → (∀ (z2 : Int32) (ν1 : gN), k75 z2 ν1 = some r → h_go X ad RX2 "crowdedSquare" cX2_crowdedSquare 7 ((Option.some .int)) 1 (some (.int r.1), r.2) 75 [(2, .int z2)] [] ν1) → h_go X ad RX2 "crowdedSquare" cX2_crowdedSquare 7 ((Option.some .int)) 1 (some (.int r.1), r.2) 7 [(0, .ref (ad 30)), (1, .ref (ad y1)), (2, .int y2), (3, .int y3), (4, .int y4)] [] ν := by
  intro n
  induction n with
  | zero => intro y2 y3 y4 ν r h hk75; rw [f_X2_crowdedSquare_L7] at h; exact q_n h
  | succ n ih =>
    intro y2 y3 y4 ν r h hk75
    rw [f_X2_crowdedSquare_L7] at h
    refine go_iload 4 rfl dX2_crowdedSquare_7 ?_
    refine go_bipush kz_bipush_49 dX2_crowdedSquare_9 ?_
    refine go_icmp_ge (tgt := 75) dX2_crowdedSquare_11 rfl (fun hc => ?_) (fun hc => ?_)
    · replace h := q_t h hc
      refine go_sub (l' := [(2, .int y2)]) [2] rfl ?_
      exact hk75 _ _ h
    · replace h := q_f h hc
      refine go_iconst kz_iconst_0 dX2_crowdedSquare_14 ?_
      refine go_istore (l' := [(5, .int 0), (0, .ref (ad 30)), (1, .ref (ad y1)), (2, .int y2), (3, .int y3), (4, .int y4)]) dX2_crowdedSquare_15 (by decide) rfl ?_
      refine go_iconst kz_iconst_0 dX2_crowdedSquare_17 ?_
      refine go_istore (l' := [(6, .int 0), (5, .int 0), (0, .ref (ad 30)), (1, .ref (ad y1)), (2, .int y2), (3, .int y3), (4, .int y4)]) dX2_crowdedSquare_18 (by decide) rfl ?_
      refine go_sub (l' := [(0, .ref (ad 30)), (1, .ref (ad y1)), (2, .int y2), (3, .int y3), (4, .int y4), (5, .int 0), (6, .int 0)]) [2, 3, 4, 5, 6, 1, 0] rfl ?_
      refine m_X2_crowdedSquare_L20 hy1 FU _ _ _ _ h (fun z5_2 ν_3 h => ?_)
      refine go_iload 5 rfl dX2_crowdedSquare_57 ?_
      refine go_iload_n rfl 3 rfl dX2_crowdedSquare_59 ?_
      refine go_icmp_le (tgt := 69) dX2_crowdedSquare_60 rfl (fun hc => ?_) (fun hc => ?_)
      · replace h := q_t h hc
        refine h_iinc (l' := [(4, .int (y4 + 1)), (0, .ref (ad 30)), (1, .ref (ad y1)), (2, .int y2), (3, .int y3), (5, .int z5_2)]) dX2_crowdedSquare_69 4 rfl kz_iconst_1 (by decide) rfl ?_
        refine go_goto (tgt := 7) dX2_crowdedSquare_72 rfl ?_
        refine go_sub (l' := [(0, .ref (ad 30)), (1, .ref (ad y1)), (2, .int y2), (3, .int y3), (4, .int (y4 + 1))]) [1, 2, 3, 4, 0] rfl ?_
        exact ih _ _ _ _ _ h hk75
      · replace h := q_f h hc
        refine go_iload 4 rfl dX2_crowdedSquare_63 ?_
        refine go_istore_n (l' := [(2, .int y4), (0, .ref (ad 30)), (1, .ref (ad y1)), (3, .int y3), (4, .int y4), (5, .int z5_2)]) dX2_crowdedSquare_65 rfl (by decide) rfl ?_
        refine go_iload 5 rfl dX2_crowdedSquare_66 ?_
        refine go_istore_n (l' := [(3, .int z5_2), (2, .int y4), (0, .ref (ad 30)), (1, .ref (ad y1)), (4, .int y4), (5, .int z5_2)]) dX2_crowdedSquare_68 rfl (by decide) rfl ?_
        refine h_iinc (l' := [(4, .int (y4 + 1)), (3, .int z5_2), (2, .int y4), (0, .ref (ad 30)), (1, .ref (ad y1)), (5, .int z5_2)]) dX2_crowdedSquare_69 4 rfl kz_iconst_1 (by decide) rfl ?_
        refine go_goto (tgt := 7) dX2_crowdedSquare_72 rfl ?_
        refine go_sub (l' := [(0, .ref (ad 30)), (1, .ref (ad y1)), (2, .int y4), (3, .int z5_2), (4, .int (y4 + 1))]) [3, 4, 2, 1, 0] rfl ?_
        exact ih _ _ _ _ _ h hk75
set_option maxRecDepth 20000 in
set_option maxHeartbeats 2000000 in
theorem m_X2_crowdedSquare {X : gX} {ad : Nat → Nat} {p1 : Nat} {ν : gN} {r : Int32 × gN} (hp1 : isP p1) (h : f_X2_crowdedSquare p1 ν = some r) : h_ct X ad yX2_crowdedSquare cX2_crowdedSquare 7 ((Option.some .int)) 1 [.ref (ad 30), .ref (ad p1)] ν (some (.int r.1), r.2) := by
  rw [f_X2_crowdedSquare] at h
  refine h_ct_of (l := [(0, .ref (ad 30)), (1, .ref (ad p1))]) (by decide) (Nat.le_of_ble_eq_true rfl) rfl ?_
  refine go_iconst kz_iconst_m1 dX2_crowdedSquare_0 ?_
  refine go_istore_n (l' := [(2, .int (-1)), (0, .ref (ad 30)), (1, .ref (ad p1))]) dX2_crowdedSquare_1 rfl (by decide) rfl ?_
  refine go_iconst kz_iconst_0 dX2_crowdedSquare_2 ?_
  refine go_istore_n (l' := [(3, .int 0), (2, .int (-1)), (0, .ref (ad 30)), (1, .ref (ad p1))]) dX2_crowdedSquare_3 rfl (by decide) rfl ?_
  refine go_iconst kz_iconst_0 dX2_crowdedSquare_4 ?_
  refine go_istore (l' := [(4, .int 0), (3, .int 0), (2, .int (-1)), (0, .ref (ad 30)), (1, .ref (ad p1))]) dX2_crowdedSquare_5 (by decide) rfl ?_
  refine go_sub (l' := [(0, .ref (ad 30)), (1, .ref (ad p1)), (2, .int (-1)), (3, .int 0), (4, .int 0)]) [3, 4, 2, 1, 0] rfl ?_
  refine m_X2_crowdedSquare_L7 hp1 FU _ _ _ _ _ h (fun z2_4 ν_5 h => ?_)
  refine go_iload_n rfl 0 rfl dX2_crowdedSquare_75 ?_
  exact h_iret h dX2_crowdedSquare_76 rfl
noncomputable def f_X2_furthest_L9 (y1 : Nat) (y3 : Int32) (k69 : Int32 → gN → Option (Int32 × gN)) : Nat → Int32 → Int32 → Int32 → gN → Option (Int32 × gN)
  | 0, _, _, _, _ => none
  | n + 1, y4, y5, y6, ν =>
    if (ν.1 y1 6) ≤ y6 then
      k69 y4 ν
    else
      if inb y6 7 = true then
        if inb (ν.1 31 y6.toNatClampNeg) 49 = true then
          (f_X8_isIn y3 y6 ν).bind (fun r_3 =>
            if r_3.1 = 0 then
              if (ν.1 25 (ν.1 31 y6.toNatClampNeg).toNatClampNeg) = 99 then
                f_X2_furthest_L9 y1 y3 k69 n y4 y5 (y6 + 1) r_3.2
              else
                if (ν.1 25 (ν.1 31 y6.toNatClampNeg).toNatClampNeg) ≤ y5 then
                  f_X2_furthest_L9 y1 y3 k69 n y4 y5 (y6 + 1) r_3.2
                else
                  f_X2_furthest_L9 y1 y3 k69 n y6 (ν.1 25 (ν.1 31 y6.toNatClampNeg).toNatClampNeg) (y6 + 1) r_3.2
            else
              f_X2_furthest_L9 y1 y3 k69 n y4 y5 (y6 + 1) r_3.2)
        else none
      else none
noncomputable def f_X2_furthest (p1 : Nat) (x3 : Int32) (ν : gN) : Option (Int32 × gN) :=
  f_X2_furthest_L9 p1 x3 (fun z4_5 ν_6 =>
    some (z4_5, ν_6)) FU (-1) (-1) 0 ν
theorem me_X2_furthest : g_me yX2_furthest cX2_furthest 8 ((Option.some .int)) 3 := ⟨tw_689, tw_75, ⟨by decide +kernel, by decide +kernel, by decide +kernel⟩, by decide⟩
set_option maxRecDepth 20000 in
set_option maxHeartbeats 2000000 in
theorem m_X2_furthest_L9 {X : gX} {ad : Nat → Nat} {y1 : Nat} {y3 : Int32} {k69 : Int32 → gN → Option (Int32 × gN)} (hy1 : isP y1) : ∀ (n : Nat) (y4 : Int32) (y5 : Int32) (y6 : Int32) (ν : gN) (r : Int32 × gN), f_X2_furthest_L9 y1 y3 k69 n y4 y5 y6 ν = some r → (∀ (z4 : Int32) (ν1 : gN), k69 z4 ν1 = some r → h_go X ad RX2 "furthest" cX2_furthest 8 ((Option.some .int)) 2 (some (.int r.1), r.2) 69 [(4, .int z4)] [] ν1) → h_go X ad RX2 "furthest" cX2_furthest 8 ((Option.some .int)) 2 (some (.int r.1), r.2) 9 [(0, .ref (ad 30)), (1, .ref (ad y1)), (2, .ref (ad 24)), (3, .int y3), (4, .int y4), (5, .int y5), (6, .int y6)] [] ν := by
  intro n
  induction n with
  | zero => intro y4 y5 y6 ν r h hk69; rw [f_X2_furthest_L9] at h; exact q_n h
  | succ n ih =>
    intro y4 y5 y6 ν r h hk69
    rw [f_X2_furthest_L9] at h
    refine go_iload 6 rfl dX2_furthest_9 ?_
    refine go_aload_n rfl 1 rfl dX2_furthest_11 ?_
    refine h_getiN 6 cl2 (shP hy1) (by decide) tw_123 rfl dX2_furthest_12 ?_
    refine go_icmp_ge (tgt := 69) dX2_furthest_15 rfl (fun hc => ?_) (fun hc => ?_)
    · replace h := q_t h hc
      refine go_sub (l' := [(4, .int y4)]) [4] rfl ?_
      exact hk69 _ _ h
    · replace h := q_f h hc
      refine go_aload_n rfl 2 rfl dX2_furthest_18 ?_
      refine h_getrN 0 cl5 rfl (by decide) tw_180 25 rfl dX2_furthest_19 ?_
      refine go_aload_n rfl 0 rfl dX2_furthest_22 ?_
      refine h_getr 0 cl1 rfl (by decide) tw_204 31 rfl dX2_furthest_23 ?_
      refine go_iload 6 rfl dX2_furthest_26 ?_
      obtain ⟨hg_1, h⟩ := q_g h
      refine h_iald 7 rfl hg_1 dX2_furthest_28 ?_
      obtain ⟨hg_2, h⟩ := q_g h
      refine h_iald 49 rfl hg_2 dX2_furthest_29 ?_
      refine go_istore (l' := [(7, .int (ν.1 25 (ν.1 31 y6.toNatClampNeg).toNatClampNeg)), (0, .ref (ad 30)), (1, .ref (ad y1)), (2, .ref (ad 24)), (3, .int y3), (4, .int y4), (5, .int y5), (6, .int y6)]) dX2_furthest_30 (by decide) rfl ?_
      refine go_iload_n rfl 4 rfl dX2_furthest_32 ?_
      refine go_iload 7 rfl dX2_furthest_33 ?_
      obtain ⟨r_3, h_4, h⟩ := q_b h
      refine h_callSNi (st := []) [.int y3, .int y6] (m_X8_isIn h_4) me_X8_isIn tw_690 tw_691 (hdd_of (by decide)) ⟨Nat.zero_le _, Nat.zero_le _⟩ rfl rfl (Nat.le_of_ble_eq_true rfl) dX2_furthest_35 ?_
      refine go_if_ne (tgt := 63) dX2_furthest_38 rfl (fun hc => ?_) (fun hc => ?_)
      · replace h := q_f h hc
        refine h_iinc (l' := [(6, .int (y6 + 1)), (7, .int (ν.1 25 (ν.1 31 y6.toNatClampNeg).toNatClampNeg)), (0, .ref (ad 30)), (1, .ref (ad y1)), (2, .ref (ad 24)), (3, .int y3), (4, .int y4), (5, .int y5)]) dX2_furthest_63 7 rfl kz_iconst_1 (by decide) rfl ?_
        refine go_goto (tgt := 9) dX2_furthest_66 rfl ?_
        refine go_sub (l' := [(0, .ref (ad 30)), (1, .ref (ad y1)), (2, .ref (ad 24)), (3, .int y3), (4, .int y4), (5, .int y5), (6, .int (y6 + 1))]) [2, 3, 4, 5, 6, 7, 0] rfl ?_
        exact ih _ _ _ _ _ h hk69
      · replace h := q_t h hc
        refine go_iload 0 rfl dX2_furthest_41 ?_
        refine go_bipush kz_bipush_99 dX2_furthest_43 ?_
        refine go_icmp_eq (tgt := 63) dX2_furthest_45 rfl (fun hc => ?_) (fun hc => ?_)
        · replace h := q_t h hc
          refine h_iinc (l' := [(6, .int (y6 + 1)), (7, .int (ν.1 25 (ν.1 31 y6.toNatClampNeg).toNatClampNeg)), (0, .ref (ad 30)), (1, .ref (ad y1)), (2, .ref (ad 24)), (3, .int y3), (4, .int y4), (5, .int y5)]) dX2_furthest_63 7 rfl kz_iconst_1 (by decide) rfl ?_
          refine go_goto (tgt := 9) dX2_furthest_66 rfl ?_
          refine go_sub (l' := [(0, .ref (ad 30)), (1, .ref (ad y1)), (2, .ref (ad 24)), (3, .int y3), (4, .int y4), (5, .int y5), (6, .int (y6 + 1))]) [2, 3, 4, 5, 6, 7, 0] rfl ?_
          exact ih _ _ _ _ _ h hk69
        · replace h := q_f h hc
          refine go_iload 0 rfl dX2_furthest_48 ?_
          refine go_iload 6 rfl dX2_furthest_50 ?_
          refine go_icmp_le (tgt := 63) dX2_furthest_52 rfl (fun hc => ?_) (fun hc => ?_)
          · replace h := q_t h hc
            refine h_iinc (l' := [(6, .int (y6 + 1)), (7, .int (ν.1 25 (ν.1 31 y6.toNatClampNeg).toNatClampNeg)), (0, .ref (ad 30)), (1, .ref (ad y1)), (2, .ref (ad 24)), (3, .int y3), (4, .int y4), (5, .int y5)]) dX2_furthest_63 7 rfl kz_iconst_1 (by decide) rfl ?_
            refine go_goto (tgt := 9) dX2_furthest_66 rfl ?_
            refine go_sub (l' := [(0, .ref (ad 30)), (1, .ref (ad y1)), (2, .ref (ad 24)), (3, .int y3), (4, .int y4), (5, .int y5), (6, .int (y6 + 1))]) [2, 3, 4, 5, 6, 7, 0] rfl ?_
            exact ih _ _ _ _ _ h hk69
          · replace h := q_f h hc
            refine go_iload 7 rfl dX2_furthest_55 ?_
            refine go_istore (l' := [(4, .int y6), (7, .int (ν.1 25 (ν.1 31 y6.toNatClampNeg).toNatClampNeg)), (0, .ref (ad 30)), (1, .ref (ad y1)), (2, .ref (ad 24)), (3, .int y3), (5, .int y5), (6, .int y6)]) dX2_furthest_57 (by decide) rfl ?_
            refine go_iload 1 rfl dX2_furthest_59 ?_
            refine go_istore (l' := [(5, .int (ν.1 25 (ν.1 31 y6.toNatClampNeg).toNatClampNeg)), (4, .int y6), (7, .int (ν.1 25 (ν.1 31 y6.toNatClampNeg).toNatClampNeg)), (0, .ref (ad 30)), (1, .ref (ad y1)), (2, .ref (ad 24)), (3, .int y3), (6, .int y6)]) dX2_furthest_61 (by decide) rfl ?_
            refine h_iinc (l' := [(6, .int (y6 + 1)), (5, .int (ν.1 25 (ν.1 31 y6.toNatClampNeg).toNatClampNeg)), (4, .int y6), (7, .int (ν.1 25 (ν.1 31 y6.toNatClampNeg).toNatClampNeg)), (0, .ref (ad 30)), (1, .ref (ad y1)), (2, .ref (ad 24)), (3, .int y3)]) dX2_furthest_63 7 rfl kz_iconst_1 (by decide) rfl ?_
            refine go_goto (tgt := 9) dX2_furthest_66 rfl ?_
            refine go_sub (l' := [(0, .ref (ad 30)), (1, .ref (ad y1)), (2, .ref (ad 24)), (3, .int y3), (4, .int y6), (5, .int (ν.1 25 (ν.1 31 y6.toNatClampNeg).toNatClampNeg)), (6, .int (y6 + 1))]) [4, 5, 6, 7, 2, 1, 0] rfl ?_
            exact ih _ _ _ _ _ h hk69
set_option maxRecDepth 20000 in
set_option maxHeartbeats 2000000 in
theorem m_X2_furthest {X : gX} {ad : Nat → Nat} {p1 : Nat} {x3 : Int32} {ν : gN} {r : Int32 × gN} (hp1 : isP p1) (h : f_X2_furthest p1 x3 ν = some r) : h_ct X ad yX2_furthest cX2_furthest 8 ((Option.some .int)) 2 [.ref (ad 30), .ref (ad p1), .ref (ad 24), .int x3] ν (some (.int r.1), r.2) := by
  rw [f_X2_furthest] at h
  refine h_ct_of (l := [(0, .ref (ad 30)), (1, .ref (ad p1)), (2, .ref (ad 24)), (3, .int x3)]) (by decide) (Nat.le_of_ble_eq_true rfl) rfl ?_
  refine go_iconst kz_iconst_m1 dX2_furthest_0 ?_
  refine go_istore (l' := [(4, .int (-1)), (0, .ref (ad 30)), (1, .ref (ad p1)), (2, .ref (ad 24)), (3, .int x3)]) dX2_furthest_1 (by decide) rfl ?_
  refine go_iconst kz_iconst_m1 dX2_furthest_3 ?_
  refine go_istore (l' := [(5, .int (-1)), (4, .int (-1)), (0, .ref (ad 30)), (1, .ref (ad p1)), (2, .ref (ad 24)), (3, .int x3)]) dX2_furthest_4 (by decide) rfl ?_
  refine go_iconst kz_iconst_0 dX2_furthest_6 ?_
  refine go_istore (l' := [(6, .int 0), (5, .int (-1)), (4, .int (-1)), (0, .ref (ad 30)), (1, .ref (ad p1)), (2, .ref (ad 24)), (3, .int x3)]) dX2_furthest_7 (by decide) rfl ?_
  refine go_sub (l' := [(0, .ref (ad 30)), (1, .ref (ad p1)), (2, .ref (ad 24)), (3, .int x3), (4, .int (-1)), (5, .int (-1)), (6, .int 0)]) [3, 4, 5, 6, 2, 1, 0] rfl ?_
  refine m_X2_furthest_L9 hp1 FU _ _ _ _ _ h (fun z4_5 ν_6 h => ?_)
  refine go_iload 0 rfl dX2_furthest_69 ?_
  exact h_iret h dX2_furthest_71 rfl
noncomputable def f_X3_smell (x0 : Int32) (x1 : Int32) (x2 : Int32) (ν : gN) : Option (Int32 × gN) :=
  if x0 = 2 then
    some (x2 / 2, ν)
  else
  if x0 = 3 then
    some (x2 + x1, ν)
  else
  if x0 = 4 then
    some (x2, ν)
  else
  if x0 = 5 then
    some (x2 / 2, ν)
  else
  if x0 = 6 then
    some ((x2 + x1) + 3, ν)
  else
  some (x2, ν)
theorem me_X3_smell : g_me yX3_smell cX3_smell 3 ((Option.some .int)) 3 := ⟨tw_425, tw_82, ⟨by decide +kernel, by decide +kernel, by decide +kernel⟩, by decide⟩
set_option maxRecDepth 20000 in
set_option maxHeartbeats 2000000 in
theorem m_X3_smell {X : gX} {ad : Nat → Nat} {x0 : Int32} {x1 : Int32} {x2 : Int32} {ν : gN} {r : Int32 × gN}  (h : f_X3_smell x0 x1 x2 ν = some r) : h_ct X ad yX3_smell cX3_smell 3 ((Option.some .int)) 1 [.int x0, .int x1, .int x2] ν (some (.int r.1), r.2) := by
  rw [f_X3_smell] at h
  refine h_ct_of (l := [(0, .int x0), (1, .int x1), (2, .int x2)]) (by decide) (Nat.le_of_ble_eq_true rfl) rfl ?_
  refine go_iload_n rfl 0 rfl dX3_smell_0 ?_
  by_cases hk_1 : x0 = 2
  · replace h := q_t h hk_1
    refine h_tbT (tgt := 36) (off := 35) hk_1 dX3_smell_1 (by decide) (by decide) rfl rfl ?_
    refine go_iload_n rfl 2 rfl dX3_smell_36 ?_
    refine go_iconst kz_iconst_2 dX3_smell_37 ?_
    refine go_idiv (by decide) dX3_smell_38 ?_
    exact h_iret h dX3_smell_39 rfl
  replace h := q_f h hk_1
  by_cases hk_2 : x0 = 3
  · replace h := q_t h hk_2
    refine h_tbT (tgt := 40) (off := 39) hk_2 dX3_smell_1 (by decide) (by decide) rfl rfl ?_
    refine go_iload_n rfl 2 rfl dX3_smell_40 ?_
    refine go_iload_n rfl 1 rfl dX3_smell_41 ?_
    refine go_iadd dX3_smell_42 ?_
    exact h_iret h dX3_smell_43 rfl
  replace h := q_f h hk_2
  by_cases hk_3 : x0 = 4
  · replace h := q_t h hk_3
    refine h_tbT (tgt := 50) (off := 49) hk_3 dX3_smell_1 (by decide) (by decide) rfl rfl ?_
    refine go_iload_n rfl 2 rfl dX3_smell_50 ?_
    exact h_iret h dX3_smell_51 rfl
  replace h := q_f h hk_3
  by_cases hk_4 : x0 = 5
  · replace h := q_t h hk_4
    refine h_tbT (tgt := 36) (off := 35) hk_4 dX3_smell_1 (by decide) (by decide) rfl rfl ?_
    refine go_iload_n rfl 2 rfl dX3_smell_36 ?_
    refine go_iconst kz_iconst_2 dX3_smell_37 ?_
    refine go_idiv (by decide) dX3_smell_38 ?_
    exact h_iret h dX3_smell_39 rfl
  replace h := q_f h hk_4
  by_cases hk_5 : x0 = 6
  · replace h := q_t h hk_5
    refine h_tbT (tgt := 44) (off := 43) hk_5 dX3_smell_1 (by decide) (by decide) rfl rfl ?_
    refine go_iload_n rfl 2 rfl dX3_smell_44 ?_
    refine go_iload_n rfl 1 rfl dX3_smell_45 ?_
    refine go_iadd dX3_smell_46 ?_
    refine go_iconst kz_iconst_3 dX3_smell_47 ?_
    refine go_iadd dX3_smell_48 ?_
    exact h_iret h dX3_smell_49 rfl
  replace h := q_f h hk_5
  have hk_1 := h_nT hk_1 (a := 2) (by decide)
  have hk_2 := h_nT hk_2 (a := 3) (by decide)
  have hk_3 := h_nT hk_3 (a := 4) (by decide)
  have hk_4 := h_nT hk_4 (a := 5) (by decide)
  have hk_5 := h_nT hk_5 (a := 6) (by decide)
  refine go_tableOut (tgt := 50) dX3_smell_1 (by omega) rfl ?_
  refine go_iload_n rfl 2 rfl dX3_smell_50 ?_
  exact h_iret h dX3_smell_51 rfl
noncomputable def f_X4_smellOf (p0 : Nat) (x1 : Int32) (ν : gN) : Option (Int32 × gN) :=
  if inb x1 7 = true then
    if inb x1 7 = true then
      if inb x1 7 = true then
        (f_X3_smell (ν.1 (p0 + 1) x1.toNatClampNeg) (ν.1 (p0 + 2) x1.toNatClampNeg) (ν.1 (p0 + 3) x1.toNatClampNeg) ν).bind (fun r_4 =>
          some (r_4.1, r_4.2))
      else none
    else none
  else none
theorem me_X4_smellOf : g_me yX4_smellOf cX4_smellOf 2 ((Option.some .int)) 1 := ⟨tw_422, tw_73, ⟨by decide +kernel, by decide +kernel, by decide +kernel⟩, by decide⟩
set_option maxRecDepth 20000 in
set_option maxHeartbeats 2000000 in
theorem m_X4_smellOf {X : gX} {ad : Nat → Nat} {p0 : Nat} {x1 : Int32} {ν : gN} {r : Int32 × gN} (hp0 : isP p0) (h : f_X4_smellOf p0 x1 ν = some r) : h_ct X ad yX4_smellOf cX4_smellOf 2 ((Option.some .int)) 2 [.ref (ad p0), .int x1] ν (some (.int r.1), r.2) := by
  rw [f_X4_smellOf] at h
  refine h_ct_of (l := [(0, .ref (ad p0)), (1, .int x1)]) (by decide) (Nat.le_of_ble_eq_true rfl) rfl ?_
  refine go_aload_n rfl 0 rfl dX4_smellOf_0 ?_
  refine h_getr 0 cl2 (shP hp0) (by decide) tw_105 (p0 + 1) (fvP0 hp0) dX4_smellOf_1 ?_
  refine go_iload_n rfl 1 rfl dX4_smellOf_4 ?_
  obtain ⟨hg_1, h⟩ := q_g h
  refine h_iald 7 (shP1 hp0) hg_1 dX4_smellOf_5 ?_
  refine go_aload_n rfl 0 rfl dX4_smellOf_6 ?_
  refine h_getr 1 cl2 (shP hp0) (by decide) tw_108 (p0 + 2) (fvP1 hp0) dX4_smellOf_7 ?_
  refine go_iload_n rfl 1 rfl dX4_smellOf_10 ?_
  obtain ⟨hg_2, h⟩ := q_g h
  refine h_iald 7 (shP2 hp0) hg_2 dX4_smellOf_11 ?_
  refine go_aload_n rfl 0 rfl dX4_smellOf_12 ?_
  refine h_getr 2 cl2 (shP hp0) (by decide) tw_112 (p0 + 3) (fvP2 hp0) dX4_smellOf_13 ?_
  refine go_iload_n rfl 1 rfl dX4_smellOf_16 ?_
  obtain ⟨hg_3, h⟩ := q_g h
  refine h_iald 7 (shP3 hp0) hg_3 dX4_smellOf_17 ?_
  obtain ⟨r_4, h_5, h⟩ := q_b h
  refine h_callSi (st := []) [.int (ν.1 (p0 + 1) x1.toNatClampNeg), .int (ν.1 (p0 + 2) x1.toNatClampNeg), .int (ν.1 (p0 + 3) x1.toNatClampNeg)] (m_X3_smell h_5) me_X3_smell tw_423 tw_424 (hdd_of (by decide)) ⟨Nat.zero_le _, Nat.zero_le _⟩ rfl rfl (Nat.le_of_ble_eq_true rfl) dX4_smellOf_18 ?_
  exact h_iret h dX4_smellOf_21 rfl
noncomputable def f_X4_smellingAbove_L4 (y0 : Nat) (y1 : Int32) (k37 : Int32 → gN → Option (Int32 × gN)) : Nat → Int32 → Int32 → gN → Option (Int32 × gN)
  | 0, _, _, _ => none
  | n + 1, y2, y3, ν =>
    if (ν.1 y0 6) ≤ y3 then
      k37 y2 ν
    else
      (f_X4_smellOf y0 y3 ν).bind (fun r_1 =>
        if r_1.1 ≤ y1 then
          f_X4_smellingAbove_L4 y0 y1 k37 n (y2 ||| 0) (y3 + 1) r_1.2
        else
          f_X4_smellingAbove_L4 y0 y1 k37 n (y2 ||| (j_shl 1 y3)) (y3 + 1) r_1.2)
noncomputable def f_X4_smellingAbove (p0 : Nat) (x1 : Int32) (ν : gN) : Option (Int32 × gN) :=
  f_X4_smellingAbove_L4 p0 x1 (fun z2_3 ν_4 =>
    some (z2_3, ν_4)) FU 0 0 ν
theorem me_X4_smellingAbove : g_me yX4_smellingAbove cX4_smellingAbove 4 ((Option.some .int)) 1 := ⟨tw_685, tw_73, ⟨by decide +kernel, by decide +kernel, by decide +kernel⟩, by decide⟩
set_option maxRecDepth 20000 in
set_option maxHeartbeats 2000000 in
theorem m_X4_smellingAbove_L4 {X : gX} {ad : Nat → Nat} {y0 : Nat} {y1 : Int32} {k37 : Int32 → gN → Option (Int32 × gN)} (hy0 : isP y0) : ∀ (n : Nat) (y2 : Int32) (y3 : Int32) (ν : gN) (r : Int32 × gN), f_X4_smellingAbove_L4 y0 y1 k37 n y2 y3 ν = some r → (∀ (z2 : Int32) (ν1 : gN), k37 z2 ν1 = some r → h_go X ad RX4 "smellingAbove" cX4_smellingAbove 4 ((Option.some .int)) 3 (some (.int r.1), r.2) 37 [(2, .int z2)] [] ν1) → h_go X ad RX4 "smellingAbove" cX4_smellingAbove 4 ((Option.some .int)) 3 (some (.int r.1), r.2) 4 [(0, .ref (ad y0)), (1, .int y1), (2, .int y2), (3, .int y3)] [] ν := by
  intro n
  induction n with
  | zero => intro y2 y3 ν r h hk37; rw [f_X4_smellingAbove_L4] at h; exact q_n h
  | succ n ih =>
    intro y2 y3 ν r h hk37
    rw [f_X4_smellingAbove_L4] at h
    refine go_iload_n rfl 3 rfl dX4_smellingAbove_4 ?_
    refine go_aload_n rfl 0 rfl dX4_smellingAbove_5 ?_
    refine h_geti 6 cl2 (shP hy0) (by decide) tw_122 rfl dX4_smellingAbove_6 ?_
    refine go_icmp_ge (tgt := 37) dX4_smellingAbove_9 rfl (fun hc => ?_) (fun hc => ?_)
    · replace h := q_t h hc
      refine go_sub (l' := [(2, .int y2)]) [2] rfl ?_
      exact hk37 _ _ h
    · replace h := q_f h hc
      refine go_iload_n rfl 2 rfl dX4_smellingAbove_12 ?_
      refine go_aload_n rfl 0 rfl dX4_smellingAbove_13 ?_
      refine go_iload_n rfl 3 rfl dX4_smellingAbove_14 ?_
      obtain ⟨r_1, h_2, h⟩ := q_b h
      refine h_callVi (st := [.int y2]) [.int y3] (m_X4_smellOf hy0 h_2) me_X4_smellOf (g_recv cl2.1 (shP hy0)) tw_494 tw_420 tw_421 (hdd_of (by decide)) ⟨Nat.zero_le _, Nat.zero_le _⟩ rfl rfl (Nat.le_of_ble_eq_true rfl) dX4_smellingAbove_15 ?_
      refine go_iload_n rfl 1 rfl dX4_smellingAbove_18 ?_
      refine go_icmp_le (tgt := 28) dX4_smellingAbove_19 rfl (fun hc => ?_) (fun hc => ?_)
      · replace h := q_t h hc
        refine go_iconst kz_iconst_0 dX4_smellingAbove_28 ?_
        refine go_ior dX4_smellingAbove_29 ?_
        refine go_istore_n (l' := [(2, .int (y2 ||| 0)), (0, .ref (ad y0)), (1, .int y1), (3, .int y3)]) dX4_smellingAbove_30 rfl (by decide) rfl ?_
        refine h_iinc (l' := [(3, .int (y3 + 1)), (2, .int (y2 ||| 0)), (0, .ref (ad y0)), (1, .int y1)]) dX4_smellingAbove_31 3 rfl kz_iconst_1 (by decide) rfl ?_
        refine go_goto (tgt := 4) dX4_smellingAbove_34 rfl ?_
        refine go_sub (l' := [(0, .ref (ad y0)), (1, .int y1), (2, .int (y2 ||| 0)), (3, .int (y3 + 1))]) [2, 3, 1, 0] rfl ?_
        exact ih _ _ _ _ h hk37
      · replace h := q_f h hc
        refine go_iconst kz_iconst_1 dX4_smellingAbove_22 ?_
        refine go_iload_n rfl 3 rfl dX4_smellingAbove_23 ?_
        refine h_ishl dX4_smellingAbove_24 ?_
        refine go_goto (tgt := 29) dX4_smellingAbove_25 rfl ?_
        refine go_ior dX4_smellingAbove_29 ?_
        refine go_istore_n (l' := [(2, .int (y2 ||| (j_shl 1 y3))), (0, .ref (ad y0)), (1, .int y1), (3, .int y3)]) dX4_smellingAbove_30 rfl (by decide) rfl ?_
        refine h_iinc (l' := [(3, .int (y3 + 1)), (2, .int (y2 ||| (j_shl 1 y3))), (0, .ref (ad y0)), (1, .int y1)]) dX4_smellingAbove_31 3 rfl kz_iconst_1 (by decide) rfl ?_
        refine go_goto (tgt := 4) dX4_smellingAbove_34 rfl ?_
        refine go_sub (l' := [(0, .ref (ad y0)), (1, .int y1), (2, .int (y2 ||| (j_shl 1 y3))), (3, .int (y3 + 1))]) [2, 3, 1, 0] rfl ?_
        exact ih _ _ _ _ h hk37
set_option maxRecDepth 20000 in
set_option maxHeartbeats 2000000 in
theorem m_X4_smellingAbove {X : gX} {ad : Nat → Nat} {p0 : Nat} {x1 : Int32} {ν : gN} {r : Int32 × gN} (hp0 : isP p0) (h : f_X4_smellingAbove p0 x1 ν = some r) : h_ct X ad yX4_smellingAbove cX4_smellingAbove 4 ((Option.some .int)) 3 [.ref (ad p0), .int x1] ν (some (.int r.1), r.2) := by
  rw [f_X4_smellingAbove] at h
  refine h_ct_of (l := [(0, .ref (ad p0)), (1, .int x1)]) (by decide) (Nat.le_of_ble_eq_true rfl) rfl ?_
  refine go_iconst kz_iconst_0 dX4_smellingAbove_0 ?_
  refine go_istore_n (l' := [(2, .int 0), (0, .ref (ad p0)), (1, .int x1)]) dX4_smellingAbove_1 rfl (by decide) rfl ?_
  refine go_iconst kz_iconst_0 dX4_smellingAbove_2 ?_
  refine go_istore_n (l' := [(3, .int 0), (2, .int 0), (0, .ref (ad p0)), (1, .int x1)]) dX4_smellingAbove_3 rfl (by decide) rfl ?_
  refine go_sub (l' := [(0, .ref (ad p0)), (1, .int x1), (2, .int 0), (3, .int 0)]) [2, 3, 1, 0] rfl ?_
  refine m_X4_smellingAbove_L4 hp0 FU _ _ _ _ h (fun z2_3 ν_4 h => ?_)
  refine go_iload_n rfl 0 rfl dX4_smellingAbove_37 ?_
  exact h_iret h dX4_smellingAbove_38 rfl
noncomputable def f_X2_elect_L18 (y1 : Nat) (y4 : Int32) (k61 : Int32 → gN → Option (Int32 × gN)) : Nat → Int32 → Int32 → gN → Option (Int32 × gN)
  | 0, _, _, _ => none
  | n + 1, y5, y6, ν =>
    if (ν.1 y1 8) ≤ y6 then
      k61 y5 ν
    else
      (f_X2_furthest y1 (y4 ||| y5) ν).bind (fun r_3 =>
        if r_3.1 = (-1) then
          f_X2_elect_L18 y1 y4 k61 n y5 (y6 + 1) r_3.2
        else
          f_X2_elect_L18 y1 y4 k61 n (y5 ||| (j_shl 1 r_3.1)) (y6 + 1) r_3.2)
noncomputable def f_X2_elect (p1 : Nat) (x3 : Int32) (ν : gN) : Option (Int32 × gN) :=
  (f_X4_smellingAbove p1 (ν.1 p1 9) ν).bind (fun r_1 =>
    f_X2_elect_L18 p1 (x3 ||| r_1.1) (fun z5_5 ν_6 =>
      some (z5_5, ν_6)) FU 0 0 r_1.2)
theorem me_X2_elect : g_me yX2_elect cX2_elect 8 ((Option.some .int)) 3 := ⟨tw_681, tw_75, ⟨by decide +kernel, by decide +kernel, by decide +kernel⟩, by decide⟩
set_option maxRecDepth 20000 in
set_option maxHeartbeats 2000000 in
theorem m_X2_elect_L18 {X : gX} {ad : Nat → Nat} {y1 : Nat} {y4 : Int32} {k61 : Int32 → gN → Option (Int32 × gN)} (hy1 : isP y1) : ∀ (n : Nat) (y5 : Int32) (y6 : Int32) (ν : gN) (r : Int32 × gN), f_X2_elect_L18 y1 y4 k61 n y5 y6 ν = some r → (∀ (z5 : Int32) (ν1 : gN), k61 z5 ν1 = some r → h_go X ad RX2 "elect" cX2_elect 8 ((Option.some .int)) 4 (some (.int r.1), r.2) 61 [(5, .int z5)] [] ν1) → h_go X ad RX2 "elect" cX2_elect 8 ((Option.some .int)) 4 (some (.int r.1), r.2) 18 [(0, .ref (ad 30)), (1, .ref (ad y1)), (2, .ref (ad 24)), (4, .int y4), (5, .int y5), (6, .int y6)] [] ν := by
  intro n
  induction n with
  | zero => intro y5 y6 ν r h hk61; rw [f_X2_elect_L18] at h; exact q_n h
  | succ n ih =>
    intro y5 y6 ν r h hk61
    rw [f_X2_elect_L18] at h
    refine go_iload 5 rfl dX2_elect_18 ?_
    refine go_aload_n rfl 1 rfl dX2_elect_20 ?_
    refine h_getiN 8 cl2 (shP hy1) (by decide) tw_129 rfl dX2_elect_21 ?_
    refine go_icmp_ge (tgt := 61) dX2_elect_24 rfl (fun hc => ?_) (fun hc => ?_)
    · replace h := q_t h hc
      refine go_sub (l' := [(5, .int y5)]) [4] rfl ?_
      exact hk61 _ _ h
    · replace h := q_f h hc
      refine go_aload_n rfl 0 rfl dX2_elect_27 ?_
      refine go_aload_n rfl 1 rfl dX2_elect_28 ?_
      refine go_aload_n rfl 2 rfl dX2_elect_29 ?_
      refine go_iload 3 rfl dX2_elect_30 ?_
      refine go_iload 4 rfl dX2_elect_32 ?_
      refine go_ior dX2_elect_34 ?_
      obtain ⟨r_3, h_4, h⟩ := q_b h
      refine h_callVi (st := []) [.ref (ad y1), .ref (ad 24), .int (y4 ||| y5)] (m_X2_furthest hy1 h_4) me_X2_furthest (g_recv cl1.1 rfl) tw_686 tw_687 tw_688 (hdd_of (by decide)) ⟨Nat.zero_le _, Nat.zero_le _⟩ rfl rfl (Nat.le_of_ble_eq_true rfl) dX2_elect_35 ?_
      refine go_istore (l' := [(7, .int r_3.1), (0, .ref (ad 30)), (1, .ref (ad y1)), (2, .ref (ad 24)), (4, .int y4), (5, .int y5), (6, .int y6)]) dX2_elect_38 (by decide) rfl ?_
      refine go_iload 0 rfl dX2_elect_40 ?_
      refine go_iconst kz_iconst_m1 dX2_elect_42 ?_
      refine go_icmp_eq (tgt := 55) dX2_elect_43 rfl (fun hc => ?_) (fun hc => ?_)
      · replace h := q_t h hc
        refine h_iinc (l' := [(6, .int (y6 + 1)), (7, .int r_3.1), (0, .ref (ad 30)), (1, .ref (ad y1)), (2, .ref (ad 24)), (4, .int y4), (5, .int y5)]) dX2_elect_55 6 rfl kz_iconst_1 (by decide) rfl ?_
        refine go_goto (tgt := 18) dX2_elect_58 rfl ?_
        refine go_sub (l' := [(0, .ref (ad 30)), (1, .ref (ad y1)), (2, .ref (ad 24)), (4, .int y4), (5, .int y5), (6, .int (y6 + 1))]) [2, 3, 4, 5, 6, 0] rfl ?_
        exact ih _ _ _ _ h hk61
      · replace h := q_f h hc
        refine go_iload 5 rfl dX2_elect_46 ?_
        refine go_iconst kz_iconst_1 dX2_elect_48 ?_
        refine go_iload 0 rfl dX2_elect_49 ?_
        refine h_ishl dX2_elect_51 ?_
        refine go_ior dX2_elect_52 ?_
        refine go_istore (l' := [(5, .int (y5 ||| (j_shl 1 r_3.1))), (7, .int r_3.1), (0, .ref (ad 30)), (1, .ref (ad y1)), (2, .ref (ad 24)), (4, .int y4), (6, .int y6)]) dX2_elect_53 (by decide) rfl ?_
        refine h_iinc (l' := [(6, .int (y6 + 1)), (5, .int (y5 ||| (j_shl 1 r_3.1))), (7, .int r_3.1), (0, .ref (ad 30)), (1, .ref (ad y1)), (2, .ref (ad 24)), (4, .int y4)]) dX2_elect_55 6 rfl kz_iconst_1 (by decide) rfl ?_
        refine go_goto (tgt := 18) dX2_elect_58 rfl ?_
        refine go_sub (l' := [(0, .ref (ad 30)), (1, .ref (ad y1)), (2, .ref (ad 24)), (4, .int y4), (5, .int (y5 ||| (j_shl 1 r_3.1))), (6, .int (y6 + 1))]) [3, 4, 5, 6, 1, 0] rfl ?_
        exact ih _ _ _ _ h hk61
set_option maxRecDepth 20000 in
set_option maxHeartbeats 2000000 in
theorem m_X2_elect {X : gX} {ad : Nat → Nat} {p1 : Nat} {x3 : Int32} {ν : gN} {r : Int32 × gN} (hp1 : isP p1) (h : f_X2_elect p1 x3 ν = some r) : h_ct X ad yX2_elect cX2_elect 8 ((Option.some .int)) 4 [.ref (ad 30), .ref (ad p1), .ref (ad 24), .int x3] ν (some (.int r.1), r.2) := by
  rw [f_X2_elect] at h
  refine h_ct_of (l := [(0, .ref (ad 30)), (1, .ref (ad p1)), (2, .ref (ad 24)), (3, .int x3)]) (by decide) (Nat.le_of_ble_eq_true rfl) rfl ?_
  refine go_iload_n rfl 3 rfl dX2_elect_0 ?_
  refine go_aload_n rfl 1 rfl dX2_elect_1 ?_
  refine go_aload_n rfl 1 rfl dX2_elect_2 ?_
  refine h_getiN 9 cl2 (shP hp1) (by decide) tw_133 rfl dX2_elect_3 ?_
  obtain ⟨r_1, h_2, h⟩ := q_b h
  refine h_callVi (st := [.int x3]) [.int (ν.1 p1 9)] (m_X4_smellingAbove hp1 h_2) me_X4_smellingAbove (g_recv cl2.1 (shP hp1)) tw_682 tw_683 tw_684 (hdd_of (by decide)) ⟨Nat.zero_le _, Nat.zero_le _⟩ rfl rfl (Nat.le_of_ble_eq_true rfl) dX2_elect_6 ?_
  refine go_ior dX2_elect_9 ?_
  refine go_istore (l' := [(4, .int (x3 ||| r_1.1)), (0, .ref (ad 30)), (1, .ref (ad p1)), (2, .ref (ad 24)), (3, .int x3)]) dX2_elect_10 (by decide) rfl ?_
  refine go_iconst kz_iconst_0 dX2_elect_12 ?_
  refine go_istore (l' := [(5, .int 0), (4, .int (x3 ||| r_1.1)), (0, .ref (ad 30)), (1, .ref (ad p1)), (2, .ref (ad 24)), (3, .int x3)]) dX2_elect_13 (by decide) rfl ?_
  refine go_iconst kz_iconst_0 dX2_elect_15 ?_
  refine go_istore (l' := [(6, .int 0), (5, .int 0), (4, .int (x3 ||| r_1.1)), (0, .ref (ad 30)), (1, .ref (ad p1)), (2, .ref (ad 24)), (3, .int x3)]) dX2_elect_16 (by decide) rfl ?_
  refine go_sub (l' := [(0, .ref (ad 30)), (1, .ref (ad p1)), (2, .ref (ad 24)), (4, .int (x3 ||| r_1.1)), (5, .int 0), (6, .int 0)]) [3, 4, 5, 2, 1, 0] rfl ?_
  refine m_X2_elect_L18 hp1 FU _ _ _ _ h (fun z5_5 ν_6 h => ?_)
  refine go_iload 0 rfl dX2_elect_61 ?_
  exact h_iret h dX2_elect_63 rfl
noncomputable def f_X3_pace (x0 : Int32) (x1 : Int32) (x2 : Int32) (x3 : Int32) (ν : gN) : Option (Int32 × gN) :=
  if x0 = 2 then
    some ((x2 + 1) / 2, ν)
  else
  if x0 = 3 then
    some (x2, ν)
  else
  if x0 = 4 then
    some (x2, ν)
  else
  if x0 = 5 then
    if ¬ (x1 + 2) = 0 then
      if (j_rem x3 (x1 + 2)) = 0 then
        some (0, ν)
      else
        some ((x2 + 1) / 2, ν)
    else none
  else
  if x0 = 6 then
    some (x2 + 1, ν)
  else
  some (x2, ν)
theorem me_X3_pace : g_me yX3_pace cX3_pace 4 ((Option.some .int)) 4 := ⟨tw_672, tw_82, ⟨by decide +kernel, by decide +kernel, by decide +kernel⟩, by decide⟩
set_option maxRecDepth 20000 in
set_option maxHeartbeats 2000000 in
theorem m_X3_pace {X : gX} {ad : Nat → Nat} {x0 : Int32} {x1 : Int32} {x2 : Int32} {x3 : Int32} {ν : gN} {r : Int32 × gN}  (h : f_X3_pace x0 x1 x2 x3 ν = some r) : h_ct X ad yX3_pace cX3_pace 4 ((Option.some .int)) 1 [.int x0, .int x1, .int x2, .int x3] ν (some (.int r.1), r.2) := by
  rw [f_X3_pace] at h
  refine h_ct_of (l := [(0, .int x0), (1, .int x1), (2, .int x2), (3, .int x3)]) (by decide) (Nat.le_of_ble_eq_true rfl) rfl ?_
  refine go_iload_n rfl 0 rfl dX3_pace_0 ?_
  by_cases hk_1 : x0 = 2
  · replace h := q_t h hk_1
    refine h_tbT (tgt := 36) (off := 35) hk_1 dX3_pace_1 (by decide) (by decide) rfl rfl ?_
    refine go_iload_n rfl 2 rfl dX3_pace_36 ?_
    refine go_iconst kz_iconst_1 dX3_pace_37 ?_
    refine go_iadd dX3_pace_38 ?_
    refine go_iconst kz_iconst_2 dX3_pace_39 ?_
    refine go_idiv (by decide) dX3_pace_40 ?_
    exact h_iret h dX3_pace_41 rfl
  replace h := q_f h hk_1
  by_cases hk_2 : x0 = 3
  · replace h := q_t h hk_2
    refine h_tbT (tgt := 64) (off := 63) hk_2 dX3_pace_1 (by decide) (by decide) rfl rfl ?_
    refine go_iload_n rfl 2 rfl dX3_pace_64 ?_
    exact h_iret h dX3_pace_65 rfl
  replace h := q_f h hk_2
  by_cases hk_3 : x0 = 4
  · replace h := q_t h hk_3
    refine h_tbT (tgt := 64) (off := 63) hk_3 dX3_pace_1 (by decide) (by decide) rfl rfl ?_
    refine go_iload_n rfl 2 rfl dX3_pace_64 ?_
    exact h_iret h dX3_pace_65 rfl
  replace h := q_f h hk_3
  by_cases hk_4 : x0 = 5
  · replace h := q_t h hk_4
    refine h_tbT (tgt := 42) (off := 41) hk_4 dX3_pace_1 (by decide) (by decide) rfl rfl ?_
    refine go_iload_n rfl 3 rfl dX3_pace_42 ?_
    refine go_iload_n rfl 1 rfl dX3_pace_43 ?_
    refine go_iconst kz_iconst_2 dX3_pace_44 ?_
    refine go_iadd dX3_pace_45 ?_
    obtain ⟨hg_5, h⟩ := q_g h
    refine h_irem hg_5 dX3_pace_46 ?_
    refine go_if_ne (tgt := 54) dX3_pace_47 rfl (fun hc => ?_) (fun hc => ?_)
    · replace h := q_f h hc
      refine go_iload_n rfl 2 rfl dX3_pace_54 ?_
      refine go_iconst kz_iconst_1 dX3_pace_55 ?_
      refine go_iadd dX3_pace_56 ?_
      refine go_iconst kz_iconst_2 dX3_pace_57 ?_
      refine go_idiv (by decide) dX3_pace_58 ?_
      exact h_iret h dX3_pace_59 rfl
    · replace h := q_t h hc
      refine go_iconst kz_iconst_0 dX3_pace_50 ?_
      refine go_goto (tgt := 59) dX3_pace_51 rfl ?_
      exact h_iret h dX3_pace_59 rfl
  replace h := q_f h hk_4
  by_cases hk_6 : x0 = 6
  · replace h := q_t h hk_6
    refine h_tbT (tgt := 60) (off := 59) hk_6 dX3_pace_1 (by decide) (by decide) rfl rfl ?_
    refine go_iload_n rfl 2 rfl dX3_pace_60 ?_
    refine go_iconst kz_iconst_1 dX3_pace_61 ?_
    refine go_iadd dX3_pace_62 ?_
    exact h_iret h dX3_pace_63 rfl
  replace h := q_f h hk_6
  have hk_1 := h_nT hk_1 (a := 2) (by decide)
  have hk_2 := h_nT hk_2 (a := 3) (by decide)
  have hk_3 := h_nT hk_3 (a := 4) (by decide)
  have hk_4 := h_nT hk_4 (a := 5) (by decide)
  have hk_6 := h_nT hk_6 (a := 6) (by decide)
  refine go_tableOut (tgt := 64) dX3_pace_1 (by omega) rfl ?_
  refine go_iload_n rfl 2 rfl dX3_pace_64 ?_
  exact h_iret h dX3_pace_65 rfl
noncomputable def f_X3_isFleeing (x0 : Int32) (x1 : Int32) (x2 : Int32) (ν : gN) : Option (Int32 × gN) :=
  if x0 = 1 then
    if (10 + x1) ≤ x2 then
      some (0, ν)
    else
      some (1, ν)
  else
  if x0 = 2 then
    if 10 ≤ x2 then
      some (0, ν)
    else
      some (1, ν)
  else
  if x0 = 3 then
    if (10 + x1) ≤ x2 then
      some (0, ν)
    else
      some (1, ν)
  else
  if x0 = 4 then
    some (0, ν)
  else
  if x0 = 5 then
    if 10 ≤ x2 then
      some (0, ν)
    else
      some (1, ν)
  else
  if x0 = 6 then
    if (10 + x1) ≤ x2 then
      some (0, ν)
    else
      some (1, ν)
  else
  if 10 ≤ x2 then
    some (0, ν)
  else
    some (1, ν)
theorem me_X3_isFleeing : g_me yX3_isFleeing cX3_isFleeing 3 ((Option.some .boolean)) 3 := ⟨tw_489, tw_82, ⟨by decide +kernel, by decide +kernel, by decide +kernel⟩, by decide⟩
set_option maxRecDepth 20000 in
set_option maxHeartbeats 2000000 in
theorem m_X3_isFleeing {X : gX} {ad : Nat → Nat} {x0 : Int32} {x1 : Int32} {x2 : Int32} {ν : gN} {r : Int32 × gN}  (h : f_X3_isFleeing x0 x1 x2 ν = some r) : h_ct X ad yX3_isFleeing cX3_isFleeing 3 ((Option.some .boolean)) 1 [.int x0, .int x1, .int x2] ν (some (.int r.1), r.2) := by
  rw [f_X3_isFleeing] at h
  refine h_ct_of (l := [(0, .int x0), (1, .int x1), (2, .int x2)]) (by decide) (Nat.le_of_ble_eq_true rfl) rfl ?_
  refine go_iload_n rfl 0 rfl dX3_isFleeing_0 ?_
  by_cases hk_1 : x0 = 1
  · replace h := q_t h hk_1
    refine h_tbT (tgt := 40) (off := 39) hk_1 dX3_isFleeing_1 (by decide) (by decide) rfl rfl ?_
    refine go_iload_n rfl 2 rfl dX3_isFleeing_40 ?_
    refine go_bipush kz_bipush_10 dX3_isFleeing_41 ?_
    refine go_iload_n rfl 1 rfl dX3_isFleeing_43 ?_
    refine go_iadd dX3_isFleeing_44 ?_
    refine go_icmp_ge (tgt := 52) dX3_isFleeing_45 rfl (fun hc => ?_) (fun hc => ?_)
    · replace h := q_t h hc
      refine go_iconst kz_iconst_0 dX3_isFleeing_52 ?_
      exact h_zret rfl h dX3_isFleeing_53 rfl
    · replace h := q_f h hc
      refine go_iconst kz_iconst_1 dX3_isFleeing_48 ?_
      refine go_goto (tgt := 53) dX3_isFleeing_49 rfl ?_
      exact h_zret rfl h dX3_isFleeing_53 rfl
  replace h := q_f h hk_1
  by_cases hk_2 : x0 = 2
  · replace h := q_t h hk_2
    refine h_tbT (tgt := 56) (off := 55) hk_2 dX3_isFleeing_1 (by decide) (by decide) rfl rfl ?_
    refine go_iload_n rfl 2 rfl dX3_isFleeing_56 ?_
    refine go_bipush kz_bipush_10 dX3_isFleeing_57 ?_
    refine go_icmp_ge (tgt := 66) dX3_isFleeing_59 rfl (fun hc => ?_) (fun hc => ?_)
    · replace h := q_t h hc
      refine go_iconst kz_iconst_0 dX3_isFleeing_66 ?_
      exact h_zret rfl h dX3_isFleeing_67 rfl
    · replace h := q_f h hc
      refine go_iconst kz_iconst_1 dX3_isFleeing_62 ?_
      refine go_goto (tgt := 67) dX3_isFleeing_63 rfl ?_
      exact h_zret rfl h dX3_isFleeing_67 rfl
  replace h := q_f h hk_2
  by_cases hk_3 : x0 = 3
  · replace h := q_t h hk_3
    refine h_tbT (tgt := 40) (off := 39) hk_3 dX3_isFleeing_1 (by decide) (by decide) rfl rfl ?_
    refine go_iload_n rfl 2 rfl dX3_isFleeing_40 ?_
    refine go_bipush kz_bipush_10 dX3_isFleeing_41 ?_
    refine go_iload_n rfl 1 rfl dX3_isFleeing_43 ?_
    refine go_iadd dX3_isFleeing_44 ?_
    refine go_icmp_ge (tgt := 52) dX3_isFleeing_45 rfl (fun hc => ?_) (fun hc => ?_)
    · replace h := q_t h hc
      refine go_iconst kz_iconst_0 dX3_isFleeing_52 ?_
      exact h_zret rfl h dX3_isFleeing_53 rfl
    · replace h := q_f h hc
      refine go_iconst kz_iconst_1 dX3_isFleeing_48 ?_
      refine go_goto (tgt := 53) dX3_isFleeing_49 rfl ?_
      exact h_zret rfl h dX3_isFleeing_53 rfl
  replace h := q_f h hk_3
  by_cases hk_4 : x0 = 4
  · replace h := q_t h hk_4
    refine h_tbT (tgt := 54) (off := 53) hk_4 dX3_isFleeing_1 (by decide) (by decide) rfl rfl ?_
    refine go_iconst kz_iconst_0 dX3_isFleeing_54 ?_
    exact h_zret rfl h dX3_isFleeing_55 rfl
  replace h := q_f h hk_4
  by_cases hk_5 : x0 = 5
  · replace h := q_t h hk_5
    refine h_tbT (tgt := 56) (off := 55) hk_5 dX3_isFleeing_1 (by decide) (by decide) rfl rfl ?_
    refine go_iload_n rfl 2 rfl dX3_isFleeing_56 ?_
    refine go_bipush kz_bipush_10 dX3_isFleeing_57 ?_
    refine go_icmp_ge (tgt := 66) dX3_isFleeing_59 rfl (fun hc => ?_) (fun hc => ?_)
    · replace h := q_t h hc
      refine go_iconst kz_iconst_0 dX3_isFleeing_66 ?_
      exact h_zret rfl h dX3_isFleeing_67 rfl
    · replace h := q_f h hc
      refine go_iconst kz_iconst_1 dX3_isFleeing_62 ?_
      refine go_goto (tgt := 67) dX3_isFleeing_63 rfl ?_
      exact h_zret rfl h dX3_isFleeing_67 rfl
  replace h := q_f h hk_5
  by_cases hk_6 : x0 = 6
  · replace h := q_t h hk_6
    refine h_tbT (tgt := 40) (off := 39) hk_6 dX3_isFleeing_1 (by decide) (by decide) rfl rfl ?_
    refine go_iload_n rfl 2 rfl dX3_isFleeing_40 ?_
    refine go_bipush kz_bipush_10 dX3_isFleeing_41 ?_
    refine go_iload_n rfl 1 rfl dX3_isFleeing_43 ?_
    refine go_iadd dX3_isFleeing_44 ?_
    refine go_icmp_ge (tgt := 52) dX3_isFleeing_45 rfl (fun hc => ?_) (fun hc => ?_)
    · replace h := q_t h hc
      refine go_iconst kz_iconst_0 dX3_isFleeing_52 ?_
      exact h_zret rfl h dX3_isFleeing_53 rfl
    · replace h := q_f h hc
      refine go_iconst kz_iconst_1 dX3_isFleeing_48 ?_
      refine go_goto (tgt := 53) dX3_isFleeing_49 rfl ?_
      exact h_zret rfl h dX3_isFleeing_53 rfl
  replace h := q_f h hk_6
  have hk_1 := h_nT hk_1 (a := 1) (by decide)
  have hk_2 := h_nT hk_2 (a := 2) (by decide)
  have hk_3 := h_nT hk_3 (a := 3) (by decide)
  have hk_4 := h_nT hk_4 (a := 4) (by decide)
  have hk_5 := h_nT hk_5 (a := 5) (by decide)
  have hk_6 := h_nT hk_6 (a := 6) (by decide)
  refine go_tableOut (tgt := 56) dX3_isFleeing_1 (by omega) rfl ?_
  refine go_iload_n rfl 2 rfl dX3_isFleeing_56 ?_
  refine go_bipush kz_bipush_10 dX3_isFleeing_57 ?_
  refine go_icmp_ge (tgt := 66) dX3_isFleeing_59 rfl (fun hc => ?_) (fun hc => ?_)
  · replace h := q_t h hc
    refine go_iconst kz_iconst_0 dX3_isFleeing_66 ?_
    exact h_zret rfl h dX3_isFleeing_67 rfl
  · replace h := q_f h hc
    refine go_iconst kz_iconst_1 dX3_isFleeing_62 ?_
    refine go_goto (tgt := 67) dX3_isFleeing_63 rfl ?_
    exact h_zret rfl h dX3_isFleeing_67 rfl
noncomputable def f_X4_isFleeing (p0 : Nat) (x1 : Int32) (ν : gN) : Option (Int32 × gN) :=
  if inb x1 7 = true then
    if inb x1 7 = true then
      if inb x1 7 = true then
        (f_X3_isFleeing (ν.1 (p0 + 1) x1.toNatClampNeg) (ν.1 (p0 + 2) x1.toNatClampNeg) (ν.1 (p0 + 3) x1.toNatClampNeg) ν).bind (fun r_4 =>
          if zb r_4.1 = true then
            some (r_4.1, r_4.2)
          else none)
      else none
    else none
  else none
theorem me_X4_isFleeing : g_me yX4_isFleeing cX4_isFleeing 2 ((Option.some .boolean)) 1 := ⟨tw_486, tw_73, ⟨by decide +kernel, by decide +kernel, by decide +kernel⟩, by decide⟩
set_option maxRecDepth 20000 in
set_option maxHeartbeats 2000000 in
theorem m_X4_isFleeing {X : gX} {ad : Nat → Nat} {p0 : Nat} {x1 : Int32} {ν : gN} {r : Int32 × gN} (hp0 : isP p0) (h : f_X4_isFleeing p0 x1 ν = some r) : h_ct X ad yX4_isFleeing cX4_isFleeing 2 ((Option.some .boolean)) 2 [.ref (ad p0), .int x1] ν (some (.int r.1), r.2) := by
  rw [f_X4_isFleeing] at h
  refine h_ct_of (l := [(0, .ref (ad p0)), (1, .int x1)]) (by decide) (Nat.le_of_ble_eq_true rfl) rfl ?_
  refine go_aload_n rfl 0 rfl dX4_isFleeing_0 ?_
  refine h_getr 0 cl2 (shP hp0) (by decide) tw_105 (p0 + 1) (fvP0 hp0) dX4_isFleeing_1 ?_
  refine go_iload_n rfl 1 rfl dX4_isFleeing_4 ?_
  obtain ⟨hg_1, h⟩ := q_g h
  refine h_iald 7 (shP1 hp0) hg_1 dX4_isFleeing_5 ?_
  refine go_aload_n rfl 0 rfl dX4_isFleeing_6 ?_
  refine h_getr 1 cl2 (shP hp0) (by decide) tw_108 (p0 + 2) (fvP1 hp0) dX4_isFleeing_7 ?_
  refine go_iload_n rfl 1 rfl dX4_isFleeing_10 ?_
  obtain ⟨hg_2, h⟩ := q_g h
  refine h_iald 7 (shP2 hp0) hg_2 dX4_isFleeing_11 ?_
  refine go_aload_n rfl 0 rfl dX4_isFleeing_12 ?_
  refine h_getr 2 cl2 (shP hp0) (by decide) tw_112 (p0 + 3) (fvP2 hp0) dX4_isFleeing_13 ?_
  refine go_iload_n rfl 1 rfl dX4_isFleeing_16 ?_
  obtain ⟨hg_3, h⟩ := q_g h
  refine h_iald 7 (shP3 hp0) hg_3 dX4_isFleeing_17 ?_
  obtain ⟨r_4, h_5, h⟩ := q_b h
  refine h_callSi (st := []) [.int (ν.1 (p0 + 1) x1.toNatClampNeg), .int (ν.1 (p0 + 2) x1.toNatClampNeg), .int (ν.1 (p0 + 3) x1.toNatClampNeg)] (m_X3_isFleeing h_5) me_X3_isFleeing tw_487 tw_488 (hdd_of (by decide)) ⟨Nat.zero_le _, Nat.zero_le _⟩ rfl rfl (Nat.le_of_ble_eq_true rfl) dX4_isFleeing_18 ?_
  obtain ⟨hg_6, h⟩ := q_g h
  exact h_zret hg_6 h dX4_isFleeing_21 rfl
noncomputable def f_X7_walk_L6 (y2 : Int32) (y3 : Int32) (k41 : Int32 → gN → Option (Int32 × gN)) : Nat → Int32 → Int32 → gN → Option (Int32 × gN)
  | 0, _, _, _ => none
  | n + 1, y4, y5, ν =>
    if y3 ≤ y5 then
      k41 y4 ν
    else
      if y2 = 0 then
        if inb y4 49 = true then
          f_X7_walk_L6 y2 y3 k41 n (ν.1 27 y4.toNatClampNeg) (y5 + 1) ν
        else none
      else
        if inb y4 49 = true then
          f_X7_walk_L6 y2 y3 k41 n (ν.1 26 y4.toNatClampNeg) (y5 + 1) ν
        else none
noncomputable def f_X7_walk (x1 : Int32) (x2 : Int32) (x3 : Int32) (ν : gN) : Option (Int32 × gN) :=
  f_X7_walk_L6 x2 x3 (fun z4_3 ν_4 =>
    some (z4_3, ν_4)) FU x1 0 ν
theorem me_X7_walk : g_me yX7_walk cX7_walk 6 ((Option.some .int)) 3 := ⟨tw_677, tw_74, ⟨by decide +kernel, by decide +kernel, by decide +kernel⟩, by decide⟩
set_option maxRecDepth 20000 in
set_option maxHeartbeats 2000000 in
theorem m_X7_walk_L6 {X : gX} {ad : Nat → Nat} {y2 : Int32} {y3 : Int32} {k41 : Int32 → gN → Option (Int32 × gN)}  : ∀ (n : Nat) (y4 : Int32) (y5 : Int32) (ν : gN) (r : Int32 × gN), f_X7_walk_L6 y2 y3 k41 n y4 y5 ν = some r → (∀ (z4 : Int32) (ν1 : gN), k41 z4 ν1 = some r → h_go X ad RX7 "walk" cX7_walk 6 ((Option.some .int)) 1 (some (.int r.1), r.2) 41 [(4, .int z4)] [] ν1) → h_go X ad RX7 "walk" cX7_walk 6 ((Option.some .int)) 1 (some (.int r.1), r.2) 6 [(0, .ref (ad 24)), (2, .int y2), (3, .int y3), (4, .int y4), (5, .int y5)] [] ν := by
  intro n
  induction n with
  | zero => intro y4 y5 ν r h hk41; rw [f_X7_walk_L6] at h; exact q_n h
  | succ n ih =>
    intro y4 y5 ν r h hk41
    rw [f_X7_walk_L6] at h
    refine go_iload 4 rfl dX7_walk_6 ?_
    refine go_iload_n rfl 2 rfl dX7_walk_8 ?_
    refine go_icmp_ge (tgt := 41) dX7_walk_9 rfl (fun hc => ?_) (fun hc => ?_)
    · replace h := q_t h hc
      refine go_sub (l' := [(4, .int y4)]) [3] rfl ?_
      exact hk41 _ _ h
    · replace h := q_f h hc
      refine go_iload_n rfl 1 rfl dX7_walk_12 ?_
      refine go_if_eq (tgt := 26) dX7_walk_13 rfl (fun hc => ?_) (fun hc => ?_)
      · replace h := q_t h hc
        refine go_aload_n rfl 0 rfl dX7_walk_26 ?_
        refine h_getr 2 cl5 rfl (by decide) tw_183 27 rfl dX7_walk_27 ?_
        refine go_iload 3 rfl dX7_walk_30 ?_
        obtain ⟨hg_1, h⟩ := q_g h
        refine h_iald 49 rfl hg_1 dX7_walk_32 ?_
        refine go_istore (l' := [(4, .int (ν.1 27 y4.toNatClampNeg)), (0, .ref (ad 24)), (2, .int y2), (3, .int y3), (5, .int y5)]) dX7_walk_33 (by decide) rfl ?_
        refine h_iinc (l' := [(5, .int (y5 + 1)), (4, .int (ν.1 27 y4.toNatClampNeg)), (0, .ref (ad 24)), (2, .int y2), (3, .int y3)]) dX7_walk_35 4 rfl kz_iconst_1 (by decide) rfl ?_
        refine go_goto (tgt := 6) dX7_walk_38 rfl ?_
        refine go_sub (l' := [(0, .ref (ad 24)), (2, .int y2), (3, .int y3), (4, .int (ν.1 27 y4.toNatClampNeg)), (5, .int (y5 + 1))]) [2, 3, 4, 1, 0] rfl ?_
        exact ih _ _ _ _ h hk41
      · replace h := q_f h hc
        refine go_aload_n rfl 0 rfl dX7_walk_16 ?_
        refine h_getr 1 cl5 rfl (by decide) tw_182 26 rfl dX7_walk_17 ?_
        refine go_iload 3 rfl dX7_walk_20 ?_
        obtain ⟨hg_2, h⟩ := q_g h
        refine h_iald 49 rfl hg_2 dX7_walk_22 ?_
        refine go_goto (tgt := 33) dX7_walk_23 rfl ?_
        refine go_istore (l' := [(4, .int (ν.1 26 y4.toNatClampNeg)), (0, .ref (ad 24)), (2, .int y2), (3, .int y3), (5, .int y5)]) dX7_walk_33 (by decide) rfl ?_
        refine h_iinc (l' := [(5, .int (y5 + 1)), (4, .int (ν.1 26 y4.toNatClampNeg)), (0, .ref (ad 24)), (2, .int y2), (3, .int y3)]) dX7_walk_35 4 rfl kz_iconst_1 (by decide) rfl ?_
        refine go_goto (tgt := 6) dX7_walk_38 rfl ?_
        refine go_sub (l' := [(0, .ref (ad 24)), (2, .int y2), (3, .int y3), (4, .int (ν.1 26 y4.toNatClampNeg)), (5, .int (y5 + 1))]) [2, 3, 4, 1, 0] rfl ?_
        exact ih _ _ _ _ h hk41
set_option maxRecDepth 20000 in
set_option maxHeartbeats 2000000 in
theorem m_X7_walk {X : gX} {ad : Nat → Nat} {x1 : Int32} {x2 : Int32} {x3 : Int32} {ν : gN} {r : Int32 × gN}  (h : f_X7_walk x1 x2 x3 ν = some r) : h_ct X ad yX7_walk cX7_walk 6 ((Option.some .int)) 1 [.ref (ad 24), .int x1, .int x2, .int x3] ν (some (.int r.1), r.2) := by
  rw [f_X7_walk] at h
  refine h_ct_of (l := [(0, .ref (ad 24)), (1, .int x1), (2, .int x2), (3, .int x3)]) (by decide) (Nat.le_of_ble_eq_true rfl) rfl ?_
  refine go_iload_n rfl 1 rfl dX7_walk_0 ?_
  refine go_istore (l' := [(4, .int x1), (0, .ref (ad 24)), (1, .int x1), (2, .int x2), (3, .int x3)]) dX7_walk_1 (by decide) rfl ?_
  refine go_iconst kz_iconst_0 dX7_walk_3 ?_
  refine go_istore (l' := [(5, .int 0), (4, .int x1), (0, .ref (ad 24)), (1, .int x1), (2, .int x2), (3, .int x3)]) dX7_walk_4 (by decide) rfl ?_
  refine go_sub (l' := [(0, .ref (ad 24)), (2, .int x2), (3, .int x3), (4, .int x1), (5, .int 0)]) [2, 4, 5, 1, 0] rfl ?_
  refine m_X7_walk_L6  FU _ _ _ _ h (fun z4_3 ν_4 h => ?_)
  refine go_iload 0 rfl dX7_walk_41 ?_
  exact h_iret h dX7_walk_43 rfl
noncomputable def f_X4_afterYard (p0 : Nat) (x2 : Int32) (x3 : Int32) (x4 : Int32) (ν : gN) : Option (Int32 × gN) :=
  if inb x2 7 = true then
    if inb x2 7 = true then
      if inb x2 7 = true then
        (f_X3_pace (ν.1 (p0 + 1) x2.toNatClampNeg) (ν.1 (p0 + 2) x2.toNatClampNeg) (ν.1 (p0 + 4) x2.toNatClampNeg) x4 ν).bind (fun r_4 =>
          (f_X4_isFleeing p0 x2 r_4.2).bind (fun r_6 =>
            (f_X7_walk x3 r_6.1 r_4.1 r_6.2).bind (fun r_8 =>
              some (r_8.1, r_8.2))))
      else none
    else none
  else none
theorem me_X4_afterYard : g_me yX4_afterYard cX4_afterYard 6 ((Option.some .int)) 4 := ⟨tw_669, tw_73, ⟨by decide +kernel, by decide +kernel, by decide +kernel⟩, by decide⟩
set_option maxRecDepth 20000 in
set_option maxHeartbeats 2000000 in
theorem m_X4_afterYard {X : gX} {ad : Nat → Nat} {p0 : Nat} {x2 : Int32} {x3 : Int32} {x4 : Int32} {ν : gN} {r : Int32 × gN} (hp0 : isP p0) (h : f_X4_afterYard p0 x2 x3 x4 ν = some r) : h_ct X ad yX4_afterYard cX4_afterYard 6 ((Option.some .int)) 3 [.ref (ad p0), .ref (ad 24), .int x2, .int x3, .int x4] ν (some (.int r.1), r.2) := by
  rw [f_X4_afterYard] at h
  refine h_ct_of (l := [(0, .ref (ad p0)), (1, .ref (ad 24)), (2, .int x2), (3, .int x3), (4, .int x4)]) (by decide) (Nat.le_of_ble_eq_true rfl) rfl ?_
  refine go_aload_n rfl 0 rfl dX4_afterYard_0 ?_
  refine h_getr 0 cl2 (shP hp0) (by decide) tw_105 (p0 + 1) (fvP0 hp0) dX4_afterYard_1 ?_
  refine go_iload_n rfl 2 rfl dX4_afterYard_4 ?_
  obtain ⟨hg_1, h⟩ := q_g h
  refine h_iald 7 (shP1 hp0) hg_1 dX4_afterYard_5 ?_
  refine go_aload_n rfl 0 rfl dX4_afterYard_6 ?_
  refine h_getr 1 cl2 (shP hp0) (by decide) tw_108 (p0 + 2) (fvP1 hp0) dX4_afterYard_7 ?_
  refine go_iload_n rfl 2 rfl dX4_afterYard_10 ?_
  obtain ⟨hg_2, h⟩ := q_g h
  refine h_iald 7 (shP2 hp0) hg_2 dX4_afterYard_11 ?_
  refine go_aload_n rfl 0 rfl dX4_afterYard_12 ?_
  refine h_getr 3 cl2 (shP hp0) (by decide) tw_115 (p0 + 4) (fvP3 hp0) dX4_afterYard_13 ?_
  refine go_iload_n rfl 2 rfl dX4_afterYard_16 ?_
  obtain ⟨hg_3, h⟩ := q_g h
  refine h_iald 7 (shP4 hp0) hg_3 dX4_afterYard_17 ?_
  refine go_iload 4 rfl dX4_afterYard_18 ?_
  obtain ⟨r_4, h_5, h⟩ := q_b h
  refine h_callSi (st := []) [.int (ν.1 (p0 + 1) x2.toNatClampNeg), .int (ν.1 (p0 + 2) x2.toNatClampNeg), .int (ν.1 (p0 + 4) x2.toNatClampNeg), .int x4] (m_X3_pace h_5) me_X3_pace tw_670 tw_671 (hdd_of (by decide)) ⟨Nat.zero_le _, Nat.zero_le _⟩ rfl rfl (Nat.le_of_ble_eq_true rfl) dX4_afterYard_20 ?_
  refine go_istore (l' := [(5, .int r_4.1), (0, .ref (ad p0)), (1, .ref (ad 24)), (2, .int x2), (3, .int x3), (4, .int x4)]) dX4_afterYard_23 (by decide) rfl ?_
  refine go_aload_n rfl 2 rfl dX4_afterYard_25 ?_
  refine go_iload_n rfl 4 rfl dX4_afterYard_26 ?_
  refine go_aload_n rfl 1 rfl dX4_afterYard_27 ?_
  refine go_iload_n rfl 3 rfl dX4_afterYard_28 ?_
  obtain ⟨r_6, h_7, h⟩ := q_b h
  refine h_callVi (st := [.int x3, .ref (ad 24)]) [.int x2] (m_X4_isFleeing hp0 h_7) me_X4_isFleeing (g_recv cl2.1 (shP hp0)) tw_673 tw_484 tw_485 (hdd_of (by decide)) ⟨Nat.zero_le _, Nat.zero_le _⟩ rfl rfl (Nat.le_of_ble_eq_true rfl) dX4_afterYard_29 ?_
  refine go_iload 0 rfl dX4_afterYard_32 ?_
  obtain ⟨r_8, h_9, h⟩ := q_b h
  refine h_callVi (st := []) [.int x3, .int r_6.1, .int r_4.1] (m_X7_walk h_9) me_X7_walk (g_recv cl5.1 rfl) tw_674 tw_675 tw_676 (hdd_of (by decide)) ⟨Nat.zero_le _, Nat.zero_le _⟩ rfl rfl (Nat.le_of_ble_eq_true rfl) dX4_afterYard_34 ?_
  exact h_iret h dX4_afterYard_37 rfl
noncomputable def f_X2_look_L29 (y1 : Nat) (y3 : Int32) (y4 : Int32) (k69 : gN → Option (gN)) : Nat → Int32 → gN → Option (gN)
  | 0, _, _ => none
  | n + 1, y5, ν =>
    if y3 ≤ y5 then
      k69  ν
    else
      if inb y4 7 = true then
        (f_X4_afterYard y1 y4 (ν.1 31 y4.toNatClampNeg) ((ν.1 y1 10) + y5) ν).bind (fun r_6 =>
          if inb y4 7 = true then
            qL (nWI r_6.2 31 y4.toNatClampNeg r_6.1) (fun ν_9 =>
              f_X2_look_L29 y1 y3 y4 k69 n (y5 + 1) ν_9)
          else none)
      else none
noncomputable def f_X2_look_L3 (y1 : Nat) (y3 : Int32) (k75 : gN → Option (gN)) : Nat → Int32 → gN → Option (gN)
  | 0, _, _ => none
  | n + 1, y4, ν =>
    if (ν.1 y1 6) ≤ y4 then
      k75  ν
    else
      if inb y4 7 = true then
        if inb y4 7 = true then
          qL (nWI ν 31 y4.toNatClampNeg (ν.1 (y1 + 5) y4.toNatClampNeg)) (fun ν_3 =>
            f_X2_look_L29 y1 y3 y4 (fun ν_11 =>
              f_X2_look_L3 y1 y3 k75 n (y4 + 1) ν_11) FU 0 ν_3)
        else none
      else none
noncomputable def f_X2_look (p1 : Nat) (x3 : Int32) (ν : gN) : Option (gN) :=
  f_X2_look_L3 p1 x3 (fun ν_12 =>
    some ν_12) FU 0 ν
theorem me_X2_look : g_me yX2_look cX2_look 6 (none) 3 := ⟨tw_665, tw_75, ⟨by decide +kernel, by decide +kernel, by decide +kernel⟩, by decide⟩
set_option maxRecDepth 20000 in
set_option maxHeartbeats 2000000 in
theorem m_X2_look_L29 {X : gX} {ad : Nat → Nat} {y1 : Nat} {y3 : Int32} {y4 : Int32} {k69 : gN → Option (gN)} (hy1 : isP y1) : ∀ (n : Nat) (y5 : Int32) (ν : gN) (r : gN), f_X2_look_L29 y1 y3 y4 k69 n y5 ν = some r → (∀ (ν1 : gN), k69 ν1 = some r → h_go X ad RX2 "look" cX2_look 6 (none) 4 (none, r) 69 [(0, .ref (ad 30)), (1, .ref (ad y1)), (2, .ref (ad 24)), (3, .int y3), (4, .int y4)] [] ν1) → h_go X ad RX2 "look" cX2_look 6 (none) 4 (none, r) 29 [(0, .ref (ad 30)), (1, .ref (ad y1)), (2, .ref (ad 24)), (3, .int y3), (4, .int y4), (5, .int y5)] [] ν := by
  intro n
  induction n with
  | zero => intro y5 ν r h hk69; rw [f_X2_look_L29] at h; exact q_n h
  | succ n ih =>
    intro y5 ν r h hk69
    rw [f_X2_look_L29] at h
    refine go_iload 5 rfl dX2_look_29 ?_
    refine go_iload_n rfl 3 rfl dX2_look_31 ?_
    refine go_icmp_ge (tgt := 69) dX2_look_32 rfl (fun hc => ?_) (fun hc => ?_)
    · replace h := q_t h hc
      refine go_sub (l' := [(0, .ref (ad 30)), (1, .ref (ad y1)), (2, .ref (ad 24)), (3, .int y3), (4, .int y4)]) [0, 1, 2, 3, 4] rfl ?_
      exact hk69  _ h
    · replace h := q_f h hc
      refine go_aload_n rfl 0 rfl dX2_look_35 ?_
      refine h_getr 0 cl1 rfl (by decide) tw_204 31 rfl dX2_look_36 ?_
      refine go_iload 4 rfl dX2_look_39 ?_
      refine go_aload_n rfl 1 rfl dX2_look_41 ?_
      refine go_aload_n rfl 2 rfl dX2_look_42 ?_
      refine go_iload 4 rfl dX2_look_43 ?_
      refine go_aload_n rfl 0 rfl dX2_look_45 ?_
      refine h_getr 0 cl1 rfl (by decide) tw_204 31 rfl dX2_look_46 ?_
      refine go_iload 4 rfl dX2_look_49 ?_
      obtain ⟨hg_5, h⟩ := q_g h
      refine h_iald 7 rfl hg_5 dX2_look_51 ?_
      refine go_aload_n rfl 1 rfl dX2_look_52 ?_
      refine h_getiN 10 cl2 (shP hy1) (by decide) tw_137 rfl dX2_look_53 ?_
      refine go_iload 5 rfl dX2_look_56 ?_
      refine go_iadd dX2_look_58 ?_
      obtain ⟨r_6, h_7, h⟩ := q_b h
      refine h_callVi (st := [.int y4, .ref (ad 31)]) [.ref (ad 24), .int y4, .int (ν.1 31 y4.toNatClampNeg), .int ((ν.1 y1 10) + y5)] (m_X4_afterYard hy1 h_7) me_X4_afterYard (g_recv cl2.1 (shP hy1)) tw_666 tw_667 tw_668 (hdd_of (by decide)) ⟨Nat.zero_le _, Nat.zero_le _⟩ rfl rfl (Nat.le_of_ble_eq_true rfl) dX2_look_59 ?_
      obtain ⟨hg_8, h⟩ := q_g h
      obtain ⟨ν_9, e_10, h⟩ := q_l h
      refine h_iast 7 rfl hg_8 e_10 dX2_look_62 ?_
      refine h_iinc (l' := [(5, .int (y5 + 1)), (0, .ref (ad 30)), (1, .ref (ad y1)), (2, .ref (ad 24)), (3, .int y3), (4, .int y4)]) dX2_look_63 5 rfl kz_iconst_1 (by decide) rfl ?_
      refine go_goto (tgt := 29) dX2_look_66 rfl ?_
      refine go_sub (l' := [(0, .ref (ad 30)), (1, .ref (ad y1)), (2, .ref (ad 24)), (3, .int y3), (4, .int y4), (5, .int (y5 + 1))]) [1, 2, 3, 4, 5, 0] rfl ?_
      exact ih _ _ _ h hk69
set_option maxRecDepth 20000 in
set_option maxHeartbeats 2000000 in
theorem m_X2_look_L3 {X : gX} {ad : Nat → Nat} {y1 : Nat} {y3 : Int32} {k75 : gN → Option (gN)} (hy1 : isP y1) : ∀ (n : Nat) (y4 : Int32) (ν : gN) (r : gN), f_X2_look_L3 y1 y3 k75 n y4 ν = some r → (∀ (ν1 : gN), k75 ν1 = some r → h_go X ad RX2 "look" cX2_look 6 (none) 4 (none, r) 75 [] [] ν1) → h_go X ad RX2 "look" cX2_look 6 (none) 4 (none, r) 3 [(0, .ref (ad 30)), (1, .ref (ad y1)), (2, .ref (ad 24)), (3, .int y3), (4, .int y4)] [] ν := by
  intro n
  induction n with
  | zero => intro y4 ν r h hk75; rw [f_X2_look_L3] at h; exact q_n h
  | succ n ih =>
    intro y4 ν r h hk75
    rw [f_X2_look_L3] at h
    refine go_iload 4 rfl dX2_look_3 ?_
    refine go_aload_n rfl 1 rfl dX2_look_5 ?_
    refine h_getiN 6 cl2 (shP hy1) (by decide) tw_123 rfl dX2_look_6 ?_
    refine go_icmp_ge (tgt := 75) dX2_look_9 rfl (fun hc => ?_) (fun hc => ?_)
    · replace h := q_t h hc
      refine go_sub (l' := []) [] rfl ?_
      exact hk75  _ h
    · replace h := q_f h hc
      refine go_aload_n rfl 0 rfl dX2_look_12 ?_
      refine h_getr 0 cl1 rfl (by decide) tw_204 31 rfl dX2_look_13 ?_
      refine go_iload 4 rfl dX2_look_16 ?_
      refine go_aload_n rfl 1 rfl dX2_look_18 ?_
      refine h_getrN 4 cl2 (shP hy1) (by decide) tw_118 (y1 + 5) (fvP4 hy1) dX2_look_19 ?_
      refine go_iload 4 rfl dX2_look_22 ?_
      obtain ⟨hg_1, h⟩ := q_g h
      refine h_iald 7 (shP5 hy1) hg_1 dX2_look_24 ?_
      obtain ⟨hg_2, h⟩ := q_g h
      obtain ⟨ν_3, e_4, h⟩ := q_l h
      refine h_iast 7 rfl hg_2 e_4 dX2_look_25 ?_
      refine go_iconst kz_iconst_0 dX2_look_26 ?_
      refine go_istore (l' := [(5, .int 0), (0, .ref (ad 30)), (1, .ref (ad y1)), (2, .ref (ad 24)), (3, .int y3), (4, .int y4)]) dX2_look_27 (by decide) rfl ?_
      refine go_sub (l' := [(0, .ref (ad 30)), (1, .ref (ad y1)), (2, .ref (ad 24)), (3, .int y3), (4, .int y4), (5, .int 0)]) [1, 2, 3, 4, 5, 0] rfl ?_
      refine m_X2_look_L29 hy1 FU _ _ _ h (fun ν_11 h => ?_)
      refine h_iinc (l' := [(4, .int (y4 + 1)), (0, .ref (ad 30)), (1, .ref (ad y1)), (2, .ref (ad 24)), (3, .int y3)]) dX2_look_69 4 rfl kz_iconst_1 (by decide) rfl ?_
      refine go_goto (tgt := 3) dX2_look_72 rfl ?_
      refine go_sub (l' := [(0, .ref (ad 30)), (1, .ref (ad y1)), (2, .ref (ad 24)), (3, .int y3), (4, .int (y4 + 1))]) [1, 2, 3, 4, 0] rfl ?_
      exact ih _ _ _ h hk75
set_option maxRecDepth 20000 in
set_option maxHeartbeats 2000000 in
theorem m_X2_look {X : gX} {ad : Nat → Nat} {p1 : Nat} {x3 : Int32} {ν : gN} {r : gN} (hp1 : isP p1) (h : f_X2_look p1 x3 ν = some r) : h_ct X ad yX2_look cX2_look 6 (none) 4 [.ref (ad 30), .ref (ad p1), .ref (ad 24), .int x3] ν (none, r) := by
  rw [f_X2_look] at h
  refine h_ct_of (l := [(0, .ref (ad 30)), (1, .ref (ad p1)), (2, .ref (ad 24)), (3, .int x3)]) (by decide) (Nat.le_of_ble_eq_true rfl) rfl ?_
  refine go_iconst kz_iconst_0 dX2_look_0 ?_
  refine go_istore (l' := [(4, .int 0), (0, .ref (ad 30)), (1, .ref (ad p1)), (2, .ref (ad 24)), (3, .int x3)]) dX2_look_1 (by decide) rfl ?_
  refine go_sub (l' := [(0, .ref (ad 30)), (1, .ref (ad p1)), (2, .ref (ad 24)), (3, .int x3), (4, .int 0)]) [1, 2, 3, 4, 0] rfl ?_
  refine m_X2_look_L3 hp1 FU _ _ _ h (fun ν_12 h => ?_)
  exact h_vret h dX2_look_75 rfl
noncomputable def f_X2_trackWants_L37 (y1 : Nat) (y3 : Int32) (y4 : Int32) (k83 : gN → Option (gN)) : Nat → Int32 → Int32 → gN → Option (gN)
  | 0, _, _, _ => none
  | n + 1, y5, y6, ν =>
    if 30 < y6 then
      k83  ν
    else
      (f_X4_afterYard y1 y3 y5 (((ν.1 y1 10) + y6) - 1) ν).bind (fun r_7 =>
        if inb y6 31 = true then
          if inb y6 31 = true then
            qL (nWL r_7.2 32 y6.toNatClampNeg ((r_7.2.2 32 y6.toNatClampNeg) ||| (j_lshl 1 r_7.1))) (fun ν_11 =>
              f_X2_trackWants_L37 y1 y3 y4 k83 n r_7.1 (y6 + 1) ν_11)
          else none
        else none)
noncomputable def f_X2_trackWants_L11 (y1 : Nat) (y3 : Int32) (k89 : gN → Option (gN)) : Nat → Int32 → gN → Option (gN)
  | 0, _, _ => none
  | n + 1, y4, ν =>
    if 20 < y4 then
      k89  ν
    else
      if inb y3 7 = true then
        qL (nWI ν (y1 + 3) y3.toNatClampNeg y4) (fun ν_4 =>
          if inb y3 7 = true then
            f_X2_trackWants_L37 y1 y3 y4 (fun ν_13 =>
              f_X2_trackWants_L11 y1 y3 k89 n (y4 + 1) ν_13) FU (ν_4.1 (y1 + 5) y3.toNatClampNeg) 1 ν_4
          else none)
      else none
noncomputable def f_X2_trackWants (p1 : Nat) (x3 : Int32) (ν : gN) : Option (gN) :=
  (f_J7_fill_d0a16 32 31 0 ν).bind (fun r_1 =>
    f_X2_trackWants_L11 p1 x3 (fun ν_14 =>
      some ν_14) FU 0 r_1)
theorem me_X2_trackWants : g_me yX2_trackWants cX2_trackWants 7 (none) 3 := ⟨tw_760, tw_75, ⟨by decide +kernel, by decide +kernel, by decide +kernel⟩, by decide⟩
set_option maxRecDepth 20000 in
set_option maxHeartbeats 2000000 in
theorem m_X2_trackWants_L37 {X : gX} {ad : Nat → Nat} {y1 : Nat} {y3 : Int32} {y4 : Int32} {k83 : gN → Option (gN)} (hy1 : isP y1) : ∀ (n : Nat) (y5 : Int32) (y6 : Int32) (ν : gN) (r : gN), f_X2_trackWants_L37 y1 y3 y4 k83 n y5 y6 ν = some r → (∀ (ν1 : gN), k83 ν1 = some r → h_go X ad RX2 "trackWants" cX2_trackWants 7 (none) 4 (none, r) 83 [(0, .ref (ad 30)), (1, .ref (ad y1)), (2, .ref (ad 24)), (3, .int y3), (4, .int y4)] [] ν1) → h_go X ad RX2 "trackWants" cX2_trackWants 7 (none) 4 (none, r) 37 [(0, .ref (ad 30)), (1, .ref (ad y1)), (2, .ref (ad 24)), (3, .int y3), (4, .int y4), (5, .int y5), (6, .int y6)] [] ν := by
  intro n
  induction n with
  | zero => intro y5 y6 ν r h hk83; rw [f_X2_trackWants_L37] at h; exact q_n h
  | succ n ih =>
    intro y5 y6 ν r h hk83
    rw [f_X2_trackWants_L37] at h
    refine go_iload 6 rfl dX2_trackWants_37 ?_
    refine go_bipush kz_bipush_30 dX2_trackWants_39 ?_
    refine go_icmp_gt (tgt := 83) dX2_trackWants_41 rfl (fun hc => ?_) (fun hc => ?_)
    · replace h := q_t h hc
      refine go_sub (l' := [(0, .ref (ad 30)), (1, .ref (ad y1)), (2, .ref (ad 24)), (3, .int y3), (4, .int y4)]) [0, 1, 2, 3, 4] rfl ?_
      exact hk83  _ h
    · replace h := q_f h hc
      refine go_aload_n rfl 1 rfl dX2_trackWants_44 ?_
      refine go_aload_n rfl 2 rfl dX2_trackWants_45 ?_
      refine go_iload_n rfl 3 rfl dX2_trackWants_46 ?_
      refine go_iload 5 rfl dX2_trackWants_47 ?_
      refine go_aload_n rfl 1 rfl dX2_trackWants_49 ?_
      refine h_getiN 10 cl2 (shP hy1) (by decide) tw_137 rfl dX2_trackWants_50 ?_
      refine go_iload 6 rfl dX2_trackWants_53 ?_
      refine go_iadd dX2_trackWants_55 ?_
      refine go_iconst kz_iconst_1 dX2_trackWants_56 ?_
      refine go_isub dX2_trackWants_57 ?_
      obtain ⟨r_7, h_8, h⟩ := q_b h
      refine h_callVi (st := []) [.ref (ad 24), .int y3, .int y5, .int (((ν.1 y1 10) + y6) - 1)] (m_X4_afterYard hy1 h_8) me_X4_afterYard (g_recv cl2.1 (shP hy1)) tw_666 tw_667 tw_668 (hdd_of (by decide)) ⟨Nat.zero_le _, Nat.zero_le _⟩ rfl rfl (Nat.le_of_ble_eq_true rfl) dX2_trackWants_58 ?_
      refine go_istore (l' := [(5, .int r_7.1), (0, .ref (ad 30)), (1, .ref (ad y1)), (2, .ref (ad 24)), (3, .int y3), (4, .int y4), (6, .int y6)]) dX2_trackWants_61 (by decide) rfl ?_
      refine go_aload_n rfl 1 rfl dX2_trackWants_63 ?_
      refine h_getr 1 cl1 rfl (by decide) tw_206 32 rfl dX2_trackWants_64 ?_
      refine go_iload 6 rfl dX2_trackWants_67 ?_
      refine go_dup2 rfl rfl dX2_trackWants_69 ?_
      obtain ⟨hg_9, h⟩ := q_g h
      refine h_lald 31 rfl hg_9 dX2_trackWants_70 ?_
      refine go_lconst (v := 1) rfl dX2_trackWants_71 ?_
      refine go_iload 0 rfl dX2_trackWants_72 ?_
      refine h_lshl dX2_trackWants_74 ?_
      refine go_lor dX2_trackWants_75 ?_
      obtain ⟨hg_10, h⟩ := q_g h
      obtain ⟨ν_11, e_12, h⟩ := q_l h
      refine h_last 31 rfl hg_10 e_12 dX2_trackWants_76 ?_
      refine h_iinc (l' := [(6, .int (y6 + 1)), (5, .int r_7.1), (0, .ref (ad 30)), (1, .ref (ad y1)), (2, .ref (ad 24)), (3, .int y3), (4, .int y4)]) dX2_trackWants_77 6 rfl kz_iconst_1 (by decide) rfl ?_
      refine go_goto (tgt := 37) dX2_trackWants_80 rfl ?_
      refine go_sub (l' := [(0, .ref (ad 30)), (1, .ref (ad y1)), (2, .ref (ad 24)), (3, .int y3), (4, .int y4), (5, .int r_7.1), (6, .int (y6 + 1))]) [2, 3, 4, 5, 6, 1, 0] rfl ?_
      exact ih _ _ _ _ h hk83
set_option maxRecDepth 20000 in
set_option maxHeartbeats 2000000 in
theorem m_X2_trackWants_L11 {X : gX} {ad : Nat → Nat} {y1 : Nat} {y3 : Int32} {k89 : gN → Option (gN)} (hy1 : isP y1) : ∀ (n : Nat) (y4 : Int32) (ν : gN) (r : gN), f_X2_trackWants_L11 y1 y3 k89 n y4 ν = some r → (∀ (ν1 : gN), k89 ν1 = some r → h_go X ad RX2 "trackWants" cX2_trackWants 7 (none) 4 (none, r) 89 [] [] ν1) → h_go X ad RX2 "trackWants" cX2_trackWants 7 (none) 4 (none, r) 11 [(0, .ref (ad 30)), (1, .ref (ad y1)), (2, .ref (ad 24)), (3, .int y3), (4, .int y4)] [] ν := by
  intro n
  induction n with
  | zero => intro y4 ν r h hk89; rw [f_X2_trackWants_L11] at h; exact q_n h
  | succ n ih =>
    intro y4 ν r h hk89
    rw [f_X2_trackWants_L11] at h
    refine go_iload 4 rfl dX2_trackWants_11 ?_
    refine go_bipush kz_bipush_20 dX2_trackWants_13 ?_
    refine go_icmp_gt (tgt := 89) dX2_trackWants_15 rfl (fun hc => ?_) (fun hc => ?_)
    · replace h := q_t h hc
      refine go_sub (l' := []) [] rfl ?_
      exact hk89  _ h
    · replace h := q_f h hc
      refine go_aload_n rfl 1 rfl dX2_trackWants_18 ?_
      refine h_getrN 2 cl2 (shP hy1) (by decide) tw_113 (y1 + 3) (fvP2 hy1) dX2_trackWants_19 ?_
      refine go_iload_n rfl 3 rfl dX2_trackWants_22 ?_
      refine go_iload 4 rfl dX2_trackWants_23 ?_
      obtain ⟨hg_3, h⟩ := q_g h
      obtain ⟨ν_4, e_5, h⟩ := q_l h
      refine h_iast 7 (shP3 hy1) hg_3 e_5 dX2_trackWants_25 ?_
      refine go_aload_n rfl 1 rfl dX2_trackWants_26 ?_
      refine h_getrN 4 cl2 (shP hy1) (by decide) tw_118 (y1 + 5) (fvP4 hy1) dX2_trackWants_27 ?_
      refine go_iload_n rfl 3 rfl dX2_trackWants_30 ?_
      obtain ⟨hg_6, h⟩ := q_g h
      refine h_iald 7 (shP5 hy1) hg_6 dX2_trackWants_31 ?_
      refine go_istore (l' := [(5, .int (ν_4.1 (y1 + 5) y3.toNatClampNeg)), (0, .ref (ad 30)), (1, .ref (ad y1)), (2, .ref (ad 24)), (3, .int y3), (4, .int y4)]) dX2_trackWants_32 (by decide) rfl ?_
      refine go_iconst kz_iconst_1 dX2_trackWants_34 ?_
      refine go_istore (l' := [(6, .int 1), (5, .int (ν_4.1 (y1 + 5) y3.toNatClampNeg)), (0, .ref (ad 30)), (1, .ref (ad y1)), (2, .ref (ad 24)), (3, .int y3), (4, .int y4)]) dX2_trackWants_35 (by decide) rfl ?_
      refine go_sub (l' := [(0, .ref (ad 30)), (1, .ref (ad y1)), (2, .ref (ad 24)), (3, .int y3), (4, .int y4), (5, .int (ν_4.1 (y1 + 5) y3.toNatClampNeg)), (6, .int 1)]) [2, 3, 4, 5, 6, 1, 0] rfl ?_
      refine m_X2_trackWants_L37 hy1 FU _ _ _ _ h (fun ν_13 h => ?_)
      refine h_iinc (l' := [(4, .int (y4 + 1)), (0, .ref (ad 30)), (1, .ref (ad y1)), (2, .ref (ad 24)), (3, .int y3)]) dX2_trackWants_83 4 rfl kz_iconst_1 (by decide) rfl ?_
      refine go_goto (tgt := 11) dX2_trackWants_86 rfl ?_
      refine go_sub (l' := [(0, .ref (ad 30)), (1, .ref (ad y1)), (2, .ref (ad 24)), (3, .int y3), (4, .int (y4 + 1))]) [1, 2, 3, 4, 0] rfl ?_
      exact ih _ _ _ h hk89
set_option maxRecDepth 20000 in
set_option maxHeartbeats 2000000 in
theorem m_X2_trackWants {X : gX} {ad : Nat → Nat} {p1 : Nat} {x3 : Int32} {ν : gN} {r : gN} (hp1 : isP p1) (h : f_X2_trackWants p1 x3 ν = some r) : h_ct X ad yX2_trackWants cX2_trackWants 7 (none) 4 [.ref (ad 30), .ref (ad p1), .ref (ad 24), .int x3] ν (none, r) := by
  rw [f_X2_trackWants] at h
  refine h_ct_of (l := [(0, .ref (ad 30)), (1, .ref (ad p1)), (2, .ref (ad 24)), (3, .int x3)]) (by decide) (Nat.le_of_ble_eq_true rfl) rfl ?_
  refine go_aload_n rfl 0 rfl dX2_trackWants_0 ?_
  refine h_getr 1 cl1 rfl (by decide) tw_206 32 rfl dX2_trackWants_1 ?_
  refine go_lconst (v := 0) rfl dX2_trackWants_4 ?_
  obtain ⟨r_1, h_2, h⟩ := q_b h
  refine h_callSv (st := []) [.ref (ad 32), .long 0] (m_J7_fill_d0a16 rfl h_2) me_J7_fill_d0a16 tw_761 tw_332 (hdd_of (by decide)) ⟨Nat.zero_le _, Nat.zero_le _⟩ rfl rfl (Nat.le_of_ble_eq_true rfl) dX2_trackWants_5 ?_
  refine go_iconst kz_iconst_0 dX2_trackWants_8 ?_
  refine go_istore (l' := [(4, .int 0), (0, .ref (ad 30)), (1, .ref (ad p1)), (2, .ref (ad 24)), (3, .int x3)]) dX2_trackWants_9 (by decide) rfl ?_
  refine go_sub (l' := [(0, .ref (ad 30)), (1, .ref (ad p1)), (2, .ref (ad 24)), (3, .int x3), (4, .int 0)]) [1, 2, 3, 4, 0] rfl ?_
  refine m_X2_trackWants_L11 hp1 FU _ _ _ h (fun ν_14 h => ?_)
  exact h_vret h dX2_trackWants_89 rfl
noncomputable def f_X2_yardsOfMostTracks_L4  (k39 : Int32 → gN → Option (Int32 × gN)) : Nat → Int32 → Int32 → gN → Option (Int32 × gN)
  | 0, _, _, _ => none
  | n + 1, y1, y2, ν =>
    if 30 < y2 then
      k39 y1 ν
    else
      if inb y2 31 = true then
        (f_J13_bitCount_95d88 (ν.2 32 y2.toNatClampNeg) ν).bind (fun r_2 =>
          if inb y1 31 = true then
            (f_J13_bitCount_95d88 (r_2.2.2 32 y1.toNatClampNeg) r_2.2).bind (fun r_5 =>
              if r_2.1 ≤ r_5.1 then
                f_X2_yardsOfMostTracks_L4 k39 n y1 (y2 + 1) r_5.2
              else
                f_X2_yardsOfMostTracks_L4 k39 n y2 (y2 + 1) r_5.2)
          else none)
      else none
noncomputable def f_X2_yardsOfMostTracks  (ν : gN) : Option (Int32 × gN) :=
  f_X2_yardsOfMostTracks_L4  (fun z1_7 ν_8 =>
    some (z1_7, ν_8)) FU 1 2 ν
theorem me_X2_yardsOfMostTracks : g_me yX2_yardsOfMostTracks cX2_yardsOfMostTracks 3 ((Option.some .int)) 0 := ⟨tw_765, tw_75, ⟨by decide +kernel, by decide +kernel, by decide +kernel⟩, by decide⟩
set_option maxRecDepth 20000 in
set_option maxHeartbeats 2000000 in
theorem m_X2_yardsOfMostTracks_L4 {X : gX} {ad : Nat → Nat}  {k39 : Int32 → gN → Option (Int32 × gN)}  : ∀ (n : Nat) (y1 : Int32) (y2 : Int32) (ν : gN) (r : Int32 × gN), f_X2_yardsOfMostTracks_L4 k39 n y1 y2 ν = some r → (∀ (z1 : Int32) (ν1 : gN), k39 z1 ν1 = some r → h_go X ad RX2 "yardsOfMostTracks" cX2_yardsOfMostTracks 3 ((Option.some .int)) 2 (some (.int r.1), r.2) 39 [(1, .int z1)] [] ν1) → h_go X ad RX2 "yardsOfMostTracks" cX2_yardsOfMostTracks 3 ((Option.some .int)) 2 (some (.int r.1), r.2) 4 [(0, .ref (ad 30)), (1, .int y1), (2, .int y2)] [] ν := by
  intro n
  induction n with
  | zero => intro y1 y2 ν r h hk39; rw [f_X2_yardsOfMostTracks_L4] at h; exact q_n h
  | succ n ih =>
    intro y1 y2 ν r h hk39
    rw [f_X2_yardsOfMostTracks_L4] at h
    refine go_iload_n rfl 2 rfl dX2_yardsOfMostTracks_4 ?_
    refine go_bipush kz_bipush_30 dX2_yardsOfMostTracks_5 ?_
    refine go_icmp_gt (tgt := 39) dX2_yardsOfMostTracks_7 rfl (fun hc => ?_) (fun hc => ?_)
    · replace h := q_t h hc
      refine go_sub (l' := [(1, .int y1)]) [1] rfl ?_
      exact hk39 _ _ h
    · replace h := q_f h hc
      refine go_aload_n rfl 0 rfl dX2_yardsOfMostTracks_10 ?_
      refine h_getr 1 cl1 rfl (by decide) tw_206 32 rfl dX2_yardsOfMostTracks_11 ?_
      refine go_iload_n rfl 2 rfl dX2_yardsOfMostTracks_14 ?_
      obtain ⟨hg_1, h⟩ := q_g h
      refine h_lald 31 rfl hg_1 dX2_yardsOfMostTracks_15 ?_
      obtain ⟨r_2, h_3, h⟩ := q_b h
      refine h_callSi (st := []) [.long (ν.2 32 y2.toNatClampNeg)] (m_J13_bitCount_95d88 h_3) me_J13_bitCount_95d88 tw_766 tw_767 (hdd_of (by decide)) ⟨Nat.zero_le _, Nat.zero_le _⟩ rfl rfl (Nat.le_of_ble_eq_true rfl) dX2_yardsOfMostTracks_16 ?_
      refine go_aload_n rfl 0 rfl dX2_yardsOfMostTracks_19 ?_
      refine h_getr 1 cl1 rfl (by decide) tw_206 32 rfl dX2_yardsOfMostTracks_20 ?_
      refine go_iload_n rfl 1 rfl dX2_yardsOfMostTracks_23 ?_
      obtain ⟨hg_4, h⟩ := q_g h
      refine h_lald 31 rfl hg_4 dX2_yardsOfMostTracks_24 ?_
      obtain ⟨r_5, h_6, h⟩ := q_b h
      refine h_callSi (st := [.int r_2.1]) [.long (r_2.2.2 32 y1.toNatClampNeg)] (m_J13_bitCount_95d88 h_6) me_J13_bitCount_95d88 tw_766 tw_767 (hdd_of (by decide)) ⟨Nat.zero_le _, Nat.zero_le _⟩ rfl rfl (Nat.le_of_ble_eq_true rfl) dX2_yardsOfMostTracks_25 ?_
      refine go_icmp_le (tgt := 33) dX2_yardsOfMostTracks_28 rfl (fun hc => ?_) (fun hc => ?_)
      · replace h := q_t h hc
        refine h_iinc (l' := [(2, .int (y2 + 1)), (0, .ref (ad 30)), (1, .int y1)]) dX2_yardsOfMostTracks_33 2 rfl kz_iconst_1 (by decide) rfl ?_
        refine go_goto (tgt := 4) dX2_yardsOfMostTracks_36 rfl ?_
        refine go_sub (l' := [(0, .ref (ad 30)), (1, .int y1), (2, .int (y2 + 1))]) [1, 2, 0] rfl ?_
        exact ih _ _ _ _ h hk39
      · replace h := q_f h hc
        refine go_iload_n rfl 2 rfl dX2_yardsOfMostTracks_31 ?_
        refine go_istore_n (l' := [(1, .int y2), (0, .ref (ad 30)), (2, .int y2)]) dX2_yardsOfMostTracks_32 rfl (by decide) rfl ?_
        refine h_iinc (l' := [(2, .int (y2 + 1)), (1, .int y2), (0, .ref (ad 30))]) dX2_yardsOfMostTracks_33 2 rfl kz_iconst_1 (by decide) rfl ?_
        refine go_goto (tgt := 4) dX2_yardsOfMostTracks_36 rfl ?_
        refine go_sub (l' := [(0, .ref (ad 30)), (1, .int y2), (2, .int (y2 + 1))]) [2, 1, 0] rfl ?_
        exact ih _ _ _ _ h hk39
set_option maxRecDepth 20000 in
set_option maxHeartbeats 2000000 in
theorem m_X2_yardsOfMostTracks {X : gX} {ad : Nat → Nat}  {ν : gN} {r : Int32 × gN}  (h : f_X2_yardsOfMostTracks  ν = some r) : h_ct X ad yX2_yardsOfMostTracks cX2_yardsOfMostTracks 3 ((Option.some .int)) 2 [.ref (ad 30)] ν (some (.int r.1), r.2) := by
  rw [f_X2_yardsOfMostTracks] at h
  refine h_ct_of (l := [(0, .ref (ad 30))]) (by decide) (Nat.le_of_ble_eq_true rfl) rfl ?_
  refine go_iconst kz_iconst_1 dX2_yardsOfMostTracks_0 ?_
  refine go_istore_n (l' := [(1, .int 1), (0, .ref (ad 30))]) dX2_yardsOfMostTracks_1 rfl (by decide) rfl ?_
  refine go_iconst kz_iconst_2 dX2_yardsOfMostTracks_2 ?_
  refine go_istore_n (l' := [(2, .int 2), (1, .int 1), (0, .ref (ad 30))]) dX2_yardsOfMostTracks_3 rfl (by decide) rfl ?_
  refine go_sub (l' := [(0, .ref (ad 30)), (1, .int 1), (2, .int 2)]) [2, 1, 0] rfl ?_
  refine m_X2_yardsOfMostTracks_L4  FU _ _ _ _ h (fun z1_7 ν_8 h => ?_)
  refine go_iload_n rfl 0 rfl dX2_yardsOfMostTracks_39 ?_
  exact h_iret h dX2_yardsOfMostTracks_40 rfl
noncomputable def f_X3_isUnder_L4 (y1 : Int32) (k33 : gN → Option (Int32 × gN)) : Nat → Int32 → Int32 → gN → Option (Int32 × gN)
  | 0, _, _, _ => none
  | n + 1, y2, y3, ν =>
    if 7 ≤ y3 then
      k33  ν
    else
      if y2 = (-1) then
        k33  ν
      else
        if y2 = y1 then
          some (1, ν)
        else
          (f_X3_nextAbove y2 ν).bind (fun r_1 =>
            f_X3_isUnder_L4 y1 k33 n r_1.1 (y3 + 1) r_1.2)
noncomputable def f_X3_isUnder (x0 : Int32) (x1 : Int32) (ν : gN) : Option (Int32 × gN) :=
  f_X3_isUnder_L4 x1 (fun ν_3 =>
    some (0, ν_3)) FU x0 0 ν
theorem me_X3_isUnder : g_me yX3_isUnder cX3_isUnder 4 ((Option.some .boolean)) 2 := ⟨tw_408, tw_82, ⟨by decide +kernel, by decide +kernel, by decide +kernel⟩, by decide⟩
set_option maxRecDepth 20000 in
set_option maxHeartbeats 2000000 in
theorem m_X3_isUnder_L4 {X : gX} {ad : Nat → Nat} {y1 : Int32} {k33 : gN → Option (Int32 × gN)}  : ∀ (n : Nat) (y2 : Int32) (y3 : Int32) (ν : gN) (r : Int32 × gN), f_X3_isUnder_L4 y1 k33 n y2 y3 ν = some r → (∀ (ν1 : gN), k33 ν1 = some r → h_go X ad RX3 "isUnder" cX3_isUnder 4 ((Option.some .boolean)) 4 (some (.int r.1), r.2) 33 [] [] ν1) → h_go X ad RX3 "isUnder" cX3_isUnder 4 ((Option.some .boolean)) 4 (some (.int r.1), r.2) 4 [(1, .int y1), (2, .int y2), (3, .int y3)] [] ν := by
  intro n
  induction n with
  | zero => intro y2 y3 ν r h hk33; rw [f_X3_isUnder_L4] at h; exact q_n h
  | succ n ih =>
    intro y2 y3 ν r h hk33
    rw [f_X3_isUnder_L4] at h
    refine go_iload_n rfl 2 rfl dX3_isUnder_4 ?_
    refine go_bipush kz_bipush_7 dX3_isUnder_5 ?_
    refine go_icmp_ge (tgt := 33) dX3_isUnder_7 rfl (fun hc => ?_) (fun hc => ?_)
    · replace h := q_t h hc
      refine go_sub (l' := []) [] rfl ?_
      exact hk33  _ h
    · replace h := q_f h hc
      refine go_iload_n rfl 1 rfl dX3_isUnder_10 ?_
      refine go_iconst kz_iconst_m1 dX3_isUnder_11 ?_
      refine go_icmp_eq (tgt := 33) dX3_isUnder_12 rfl (fun hc => ?_) (fun hc => ?_)
      · replace h := q_t h hc
        refine go_sub (l' := []) [] rfl ?_
        exact hk33  _ h
      · replace h := q_f h hc
        refine go_iload_n rfl 1 rfl dX3_isUnder_15 ?_
        refine go_iload_n rfl 0 rfl dX3_isUnder_16 ?_
        refine go_icmp_ne (tgt := 22) dX3_isUnder_17 rfl (fun hc => ?_) (fun hc => ?_)
        · replace h := q_f h hc
          refine go_iload_n rfl 1 rfl dX3_isUnder_22 ?_
          obtain ⟨r_1, h_2, h⟩ := q_b h
          refine h_callSi (st := []) [.int y2] (m_X3_nextAbove h_2) me_X3_nextAbove tw_409 tw_410 (hdd_of (by decide)) ⟨Nat.zero_le _, Nat.zero_le _⟩ rfl rfl (Nat.le_of_ble_eq_true rfl) dX3_isUnder_23 ?_
          refine go_istore_n (l' := [(2, .int r_1.1), (1, .int y1), (3, .int y3)]) dX3_isUnder_26 rfl (by decide) rfl ?_
          refine h_iinc (l' := [(3, .int (y3 + 1)), (2, .int r_1.1), (1, .int y1)]) dX3_isUnder_27 2 rfl kz_iconst_1 (by decide) rfl ?_
          refine go_goto (tgt := 4) dX3_isUnder_30 rfl ?_
          refine go_sub (l' := [(1, .int y1), (2, .int r_1.1), (3, .int (y3 + 1))]) [2, 1, 0] rfl ?_
          exact ih _ _ _ _ h hk33
        · replace h := q_t h hc
          refine go_iconst kz_iconst_1 dX3_isUnder_20 ?_
          exact h_zret rfl h dX3_isUnder_21 rfl
set_option maxRecDepth 20000 in
set_option maxHeartbeats 2000000 in
theorem m_X3_isUnder {X : gX} {ad : Nat → Nat} {x0 : Int32} {x1 : Int32} {ν : gN} {r : Int32 × gN}  (h : f_X3_isUnder x0 x1 ν = some r) : h_ct X ad yX3_isUnder cX3_isUnder 4 ((Option.some .boolean)) 4 [.int x0, .int x1] ν (some (.int r.1), r.2) := by
  rw [f_X3_isUnder] at h
  refine h_ct_of (l := [(0, .int x0), (1, .int x1)]) (by decide) (Nat.le_of_ble_eq_true rfl) rfl ?_
  refine go_iload_n rfl 0 rfl dX3_isUnder_0 ?_
  refine go_istore_n (l' := [(2, .int x0), (0, .int x0), (1, .int x1)]) dX3_isUnder_1 rfl (by decide) rfl ?_
  refine go_iconst kz_iconst_0 dX3_isUnder_2 ?_
  refine go_istore_n (l' := [(3, .int 0), (2, .int x0), (0, .int x0), (1, .int x1)]) dX3_isUnder_3 rfl (by decide) rfl ?_
  refine go_sub (l' := [(1, .int x1), (2, .int x0), (3, .int 0)]) [3, 1, 0] rfl ?_
  refine m_X3_isUnder_L4  FU _ _ _ _ h (fun ν_3 h => ?_)
  refine go_iconst kz_iconst_0 dX3_isUnder_33 ?_
  exact h_zret rfl h dX3_isUnder_34 rfl
noncomputable def f_X4_hasRoom (p0 : Nat) (ν : gN) : Option (Int32 × gN) :=
  if 7 ≤ (ν.1 p0 6) then
    some (0, ν)
  else
    some (1, ν)
theorem me_X4_hasRoom : g_me yX4_hasRoom cX4_hasRoom 1 ((Option.some .boolean)) 0 := ⟨tw_444, tw_73, ⟨by decide +kernel, by decide +kernel, by decide +kernel⟩, by decide⟩
set_option maxRecDepth 20000 in
set_option maxHeartbeats 2000000 in
theorem m_X4_hasRoom {X : gX} {ad : Nat → Nat} {p0 : Nat} {ν : gN} {r : Int32 × gN} (hp0 : isP p0) (h : f_X4_hasRoom p0 ν = some r) : h_ct X ad yX4_hasRoom cX4_hasRoom 1 ((Option.some .boolean)) 1 [.ref (ad p0)] ν (some (.int r.1), r.2) := by
  rw [f_X4_hasRoom] at h
  refine h_ct_of (l := [(0, .ref (ad p0))]) (by decide) (Nat.le_of_ble_eq_true rfl) rfl ?_
  refine go_aload_n rfl 0 rfl dX4_hasRoom_0 ?_
  refine h_geti 6 cl2 (shP hp0) (by decide) tw_122 rfl dX4_hasRoom_1 ?_
  refine go_bipush kz_bipush_7 dX4_hasRoom_4 ?_
  refine go_icmp_ge (tgt := 13) dX4_hasRoom_6 rfl (fun hc => ?_) (fun hc => ?_)
  · replace h := q_t h hc
    refine go_iconst kz_iconst_0 dX4_hasRoom_13 ?_
    exact h_zret rfl h dX4_hasRoom_14 rfl
  · replace h := q_f h hc
    refine go_iconst kz_iconst_1 dX4_hasRoom_9 ?_
    refine go_goto (tgt := 14) dX4_hasRoom_10 rfl ?_
    exact h_zret rfl h dX4_hasRoom_14 rfl
noncomputable def f_X4_addPerson (p0 : Nat) (x1 : Int32) (x2 : Int32) (x3 : Int32) (x4 : Int32) (x5 : Int32) (ν : gN) : Option (Int32 × gN) :=
  (f_X4_hasRoom p0 ν).bind (fun r_1 =>
    if r_1.1 = 0 then
      some ((-1), r_1.2)
    else
      if inb (r_1.2.1 p0 6) 7 = true then
        qL (nWI r_1.2 (p0 + 1) (r_1.2.1 p0 6).toNatClampNeg x1) (fun ν_4 =>
          if inb (r_1.2.1 p0 6) 7 = true then
            qL (nWI ν_4 (p0 + 2) (r_1.2.1 p0 6).toNatClampNeg x2) (fun ν_7 =>
              if inb (r_1.2.1 p0 6) 7 = true then
                qL (nWI ν_7 (p0 + 3) (r_1.2.1 p0 6).toNatClampNeg x3) (fun ν_10 =>
                  if inb (r_1.2.1 p0 6) 7 = true then
                    qL (nWI ν_10 (p0 + 4) (r_1.2.1 p0 6).toNatClampNeg x4) (fun ν_13 =>
                      if inb (r_1.2.1 p0 6) 7 = true then
                        qL (nWI ν_13 (p0 + 5) (r_1.2.1 p0 6).toNatClampNeg x5) (fun ν_16 =>
                          if inb (r_1.2.1 p0 6) 7 = true then
                            qL (nWI ν_16 (p0 + 6) (r_1.2.1 p0 6).toNatClampNeg 0) (fun ν_19 =>
                              qL (nWI ν_19 p0 6 ((ν_19.1 p0 6) + 1)) (fun ν_21 =>
                                some (r_1.2.1 p0 6, ν_21)))
                          else none)
                      else none)
                  else none)
              else none)
          else none)
      else none)
theorem me_X4_addPerson : g_me yX4_addPerson cX4_addPerson 7 ((Option.some .int)) 5 := ⟨tw_448, tw_73, ⟨by decide +kernel, by decide +kernel, by decide +kernel⟩, by decide⟩
set_option maxRecDepth 20000 in
set_option maxHeartbeats 2000000 in
theorem m_X4_addPerson {X : gX} {ad : Nat → Nat} {p0 : Nat} {x1 : Int32} {x2 : Int32} {x3 : Int32} {x4 : Int32} {x5 : Int32} {ν : gN} {r : Int32 × gN} (hp0 : isP p0) (h : f_X4_addPerson p0 x1 x2 x3 x4 x5 ν = some r) : h_ct X ad yX4_addPerson cX4_addPerson 7 ((Option.some .int)) 2 [.ref (ad p0), .int x1, .int x2, .int x3, .int x4, .int x5] ν (some (.int r.1), r.2) := by
  rw [f_X4_addPerson] at h
  refine h_ct_of (l := [(0, .ref (ad p0)), (1, .int x1), (2, .int x2), (3, .int x3), (4, .int x4), (5, .int x5)]) (by decide) (Nat.le_of_ble_eq_true rfl) rfl ?_
  refine go_aload_n rfl 0 rfl dX4_addPerson_0 ?_
  obtain ⟨r_1, h_2, h⟩ := q_b h
  refine h_callVi (st := []) [] (m_X4_hasRoom hp0 h_2) me_X4_hasRoom (g_recv cl2.1 (shP hp0)) tw_449 tw_442 tw_443 (hdd_of (by decide)) ⟨Nat.zero_le _, Nat.zero_le _⟩ rfl rfl (Nat.le_of_ble_eq_true rfl) dX4_addPerson_1 ?_
  refine go_if_ne (tgt := 9) dX4_addPerson_4 rfl (fun hc => ?_) (fun hc => ?_)
  · replace h := q_f h hc
    refine go_aload_n rfl 0 rfl dX4_addPerson_9 ?_
    refine h_geti 6 cl2 (shP hp0) (by decide) tw_122 rfl dX4_addPerson_10 ?_
    refine go_istore (l' := [(6, .int (r_1.2.1 p0 6)), (0, .ref (ad p0)), (1, .int x1), (2, .int x2), (3, .int x3), (4, .int x4), (5, .int x5)]) dX4_addPerson_13 (by decide) rfl ?_
    refine go_aload_n rfl 1 rfl dX4_addPerson_15 ?_
    refine h_getr 0 cl2 (shP hp0) (by decide) tw_105 (p0 + 1) (fvP0 hp0) dX4_addPerson_16 ?_
    refine go_iload 0 rfl dX4_addPerson_19 ?_
    refine go_iload_n rfl 2 rfl dX4_addPerson_21 ?_
    obtain ⟨hg_3, h⟩ := q_g h
    obtain ⟨ν_4, e_5, h⟩ := q_l h
    refine h_iast 7 (shP1 hp0) hg_3 e_5 dX4_addPerson_22 ?_
    refine go_aload_n rfl 1 rfl dX4_addPerson_23 ?_
    refine h_getr 1 cl2 (shP hp0) (by decide) tw_108 (p0 + 2) (fvP1 hp0) dX4_addPerson_24 ?_
    refine go_iload 0 rfl dX4_addPerson_27 ?_
    refine go_iload_n rfl 3 rfl dX4_addPerson_29 ?_
    obtain ⟨hg_6, h⟩ := q_g h
    obtain ⟨ν_7, e_8, h⟩ := q_l h
    refine h_iast 7 (shP2 hp0) hg_6 e_8 dX4_addPerson_30 ?_
    refine go_aload_n rfl 1 rfl dX4_addPerson_31 ?_
    refine h_getr 2 cl2 (shP hp0) (by decide) tw_112 (p0 + 3) (fvP2 hp0) dX4_addPerson_32 ?_
    refine go_iload 0 rfl dX4_addPerson_35 ?_
    refine go_iload_n rfl 4 rfl dX4_addPerson_37 ?_
    obtain ⟨hg_9, h⟩ := q_g h
    obtain ⟨ν_10, e_11, h⟩ := q_l h
    refine h_iast 7 (shP3 hp0) hg_9 e_11 dX4_addPerson_38 ?_
    refine go_aload_n rfl 1 rfl dX4_addPerson_39 ?_
    refine h_getr 3 cl2 (shP hp0) (by decide) tw_115 (p0 + 4) (fvP3 hp0) dX4_addPerson_40 ?_
    refine go_iload 0 rfl dX4_addPerson_43 ?_
    refine go_iload 5 rfl dX4_addPerson_45 ?_
    obtain ⟨hg_12, h⟩ := q_g h
    obtain ⟨ν_13, e_14, h⟩ := q_l h
    refine h_iast 7 (shP4 hp0) hg_12 e_14 dX4_addPerson_47 ?_
    refine go_aload_n rfl 1 rfl dX4_addPerson_48 ?_
    refine h_getr 4 cl2 (shP hp0) (by decide) tw_117 (p0 + 5) (fvP4 hp0) dX4_addPerson_49 ?_
    refine go_iload 0 rfl dX4_addPerson_52 ?_
    refine go_iload 6 rfl dX4_addPerson_54 ?_
    obtain ⟨hg_15, h⟩ := q_g h
    obtain ⟨ν_16, e_17, h⟩ := q_l h
    refine h_iast 7 (shP5 hp0) hg_15 e_17 dX4_addPerson_56 ?_
    refine go_aload_n rfl 1 rfl dX4_addPerson_57 ?_
    refine h_getr 5 cl2 (shP hp0) (by decide) tw_120 (p0 + 6) (fvP5 hp0) dX4_addPerson_58 ?_
    refine go_iload 0 rfl dX4_addPerson_61 ?_
    refine go_iconst kz_iconst_0 dX4_addPerson_63 ?_
    obtain ⟨hg_18, h⟩ := q_g h
    obtain ⟨ν_19, e_20, h⟩ := q_l h
    refine h_iast 7 (shP6 hp0) hg_18 e_20 dX4_addPerson_64 ?_
    refine go_aload_n rfl 1 rfl dX4_addPerson_65 ?_
    refine go_dup rfl dX4_addPerson_66 ?_
    refine h_geti 6 cl2 (shP hp0) (by decide) tw_122 rfl dX4_addPerson_67 ?_
    refine go_iconst kz_iconst_1 dX4_addPerson_70 ?_
    refine go_iadd dX4_addPerson_71 ?_
    obtain ⟨ν_21, e_22, h⟩ := q_l h
    refine h_puti 6 cl2 (shP hp0) (by decide) tw_122 rfl rfl e_22 dX4_addPerson_72 ?_
    refine go_iload 0 rfl dX4_addPerson_75 ?_
    exact h_iret h dX4_addPerson_77 rfl
  · replace h := q_t h hc
    refine go_iconst kz_iconst_m1 dX4_addPerson_7 ?_
    exact h_iret h dX4_addPerson_8 rfl
noncomputable def f_X4_areAllThere (p0 : Nat) (x1 : Int32) (ν : gN) : Option (Int32 × gN) :=
  if (j_ushr x1 (ν.1 p0 6)) = 0 then
    some (1, ν)
  else
    some (0, ν)
theorem me_X4_areAllThere : g_me yX4_areAllThere cX4_areAllThere 2 ((Option.some .boolean)) 1 := ⟨tw_780, tw_73, ⟨by decide +kernel, by decide +kernel, by decide +kernel⟩, by decide⟩
set_option maxRecDepth 20000 in
set_option maxHeartbeats 2000000 in
theorem m_X4_areAllThere {X : gX} {ad : Nat → Nat} {p0 : Nat} {x1 : Int32} {ν : gN} {r : Int32 × gN} (hp0 : isP p0) (h : f_X4_areAllThere p0 x1 ν = some r) : h_ct X ad yX4_areAllThere cX4_areAllThere 2 ((Option.some .boolean)) 1 [.ref (ad p0), .int x1] ν (some (.int r.1), r.2) := by
  rw [f_X4_areAllThere] at h
  refine h_ct_of (l := [(0, .ref (ad p0)), (1, .int x1)]) (by decide) (Nat.le_of_ble_eq_true rfl) rfl ?_
  refine go_iload_n rfl 1 rfl dX4_areAllThere_0 ?_
  refine go_aload_n rfl 0 rfl dX4_areAllThere_1 ?_
  refine h_geti 6 cl2 (shP hp0) (by decide) tw_122 rfl dX4_areAllThere_2 ?_
  refine h_iushr dX4_areAllThere_5 ?_
  refine go_if_ne (tgt := 13) dX4_areAllThere_6 rfl (fun hc => ?_) (fun hc => ?_)
  · replace h := q_f h hc
    refine go_iconst kz_iconst_0 dX4_areAllThere_13 ?_
    exact h_zret rfl h dX4_areAllThere_14 rfl
  · replace h := q_t h hc
    refine go_iconst kz_iconst_1 dX4_areAllThere_9 ?_
    refine go_goto (tgt := 14) dX4_areAllThere_10 rfl ?_
    exact h_zret rfl h dX4_areAllThere_14 rfl
noncomputable def f_X4_drawBelow (p0 : Nat) (x1 : Int32) (ν : gN) : Option (Int32 × gN) :=
  qL (nWI ν p0 12 (((ν.1 p0 12) * 1103515245) + 12345)) (fun ν_1 =>
    if x1 ≤ 0 then
      some (0, ν_1)
    else
      if ¬ x1 = 0 then
        some (j_rem (j_ushr (ν_1.1 p0 12) 16) x1, ν_1)
      else none)
theorem me_X4_drawBelow : g_me yX4_drawBelow cX4_drawBelow 2 ((Option.some .int)) 1 := ⟨tw_850, tw_73, ⟨by decide +kernel, by decide +kernel, by decide +kernel⟩, by decide⟩
set_option maxRecDepth 20000 in
set_option maxHeartbeats 2000000 in
theorem m_X4_drawBelow {X : gX} {ad : Nat → Nat} {p0 : Nat} {x1 : Int32} {ν : gN} {r : Int32 × gN} (hp0 : isP p0) (h : f_X4_drawBelow p0 x1 ν = some r) : h_ct X ad yX4_drawBelow cX4_drawBelow 2 ((Option.some .int)) 1 [.ref (ad p0), .int x1] ν (some (.int r.1), r.2) := by
  rw [f_X4_drawBelow] at h
  refine h_ct_of (l := [(0, .ref (ad p0)), (1, .int x1)]) (by decide) (Nat.le_of_ble_eq_true rfl) rfl ?_
  refine go_aload_n rfl 0 rfl dX4_drawBelow_0 ?_
  refine go_aload_n rfl 0 rfl dX4_drawBelow_1 ?_
  refine h_geti 12 cl2 (shP hp0) (by decide) tw_141 rfl dX4_drawBelow_2 ?_
  refine go_ldc (v := 1103515245) tw_851 dX4_drawBelow_5 ?_
  refine go_imul dX4_drawBelow_7 ?_
  refine go_sipush kz_sipush_12345 dX4_drawBelow_8 ?_
  refine go_iadd dX4_drawBelow_11 ?_
  obtain ⟨ν_1, e_2, h⟩ := q_l h
  refine h_puti 12 cl2 (shP hp0) (by decide) tw_141 rfl rfl e_2 dX4_drawBelow_12 ?_
  refine go_iload_n rfl 1 rfl dX4_drawBelow_15 ?_
  refine go_if_le (tgt := 31) dX4_drawBelow_16 rfl (fun hc => ?_) (fun hc => ?_)
  · replace h := q_t h hc
    refine go_iconst kz_iconst_0 dX4_drawBelow_31 ?_
    exact h_iret h dX4_drawBelow_32 rfl
  · replace h := q_f h hc
    refine go_aload_n rfl 0 rfl dX4_drawBelow_19 ?_
    refine h_geti 12 cl2 (shP hp0) (by decide) tw_141 rfl dX4_drawBelow_20 ?_
    refine go_bipush kz_bipush_16 dX4_drawBelow_23 ?_
    refine h_iushr dX4_drawBelow_25 ?_
    refine go_iload_n rfl 1 rfl dX4_drawBelow_26 ?_
    obtain ⟨hg_3, h⟩ := q_g h
    refine h_irem hg_3 dX4_drawBelow_27 ?_
    refine go_goto (tgt := 32) dX4_drawBelow_28 rfl ?_
    exact h_iret h dX4_drawBelow_32 rfl
noncomputable def f_X4_fleeing_L4 (y0 : Nat) (k36 : Int32 → gN → Option (Int32 × gN)) : Nat → Int32 → Int32 → gN → Option (Int32 × gN)
  | 0, _, _, _ => none
  | n + 1, y1, y2, ν =>
    if (ν.1 y0 6) ≤ y2 then
      k36 y1 ν
    else
      (f_X4_isFleeing y0 y2 ν).bind (fun r_1 =>
        if r_1.1 = 0 then
          f_X4_fleeing_L4 y0 k36 n (y1 ||| 0) (y2 + 1) r_1.2
        else
          f_X4_fleeing_L4 y0 k36 n (y1 ||| (j_shl 1 y2)) (y2 + 1) r_1.2)
noncomputable def f_X4_fleeing (p0 : Nat) (ν : gN) : Option (Int32 × gN) :=
  f_X4_fleeing_L4 p0 (fun z1_3 ν_4 =>
    some (z1_3, ν_4)) FU 0 0 ν
theorem me_X4_fleeing : g_me yX4_fleeing cX4_fleeing 3 ((Option.some .int)) 0 := ⟨tw_697, tw_73, ⟨by decide +kernel, by decide +kernel, by decide +kernel⟩, by decide⟩
set_option maxRecDepth 20000 in
set_option maxHeartbeats 2000000 in
theorem m_X4_fleeing_L4 {X : gX} {ad : Nat → Nat} {y0 : Nat} {k36 : Int32 → gN → Option (Int32 × gN)} (hy0 : isP y0) : ∀ (n : Nat) (y1 : Int32) (y2 : Int32) (ν : gN) (r : Int32 × gN), f_X4_fleeing_L4 y0 k36 n y1 y2 ν = some r → (∀ (z1 : Int32) (ν1 : gN), k36 z1 ν1 = some r → h_go X ad RX4 "fleeing" cX4_fleeing 3 ((Option.some .int)) 3 (some (.int r.1), r.2) 36 [(1, .int z1)] [] ν1) → h_go X ad RX4 "fleeing" cX4_fleeing 3 ((Option.some .int)) 3 (some (.int r.1), r.2) 4 [(0, .ref (ad y0)), (1, .int y1), (2, .int y2)] [] ν := by
  intro n
  induction n with
  | zero => intro y1 y2 ν r h hk36; rw [f_X4_fleeing_L4] at h; exact q_n h
  | succ n ih =>
    intro y1 y2 ν r h hk36
    rw [f_X4_fleeing_L4] at h
    refine go_iload_n rfl 2 rfl dX4_fleeing_4 ?_
    refine go_aload_n rfl 0 rfl dX4_fleeing_5 ?_
    refine h_geti 6 cl2 (shP hy0) (by decide) tw_122 rfl dX4_fleeing_6 ?_
    refine go_icmp_ge (tgt := 36) dX4_fleeing_9 rfl (fun hc => ?_) (fun hc => ?_)
    · replace h := q_t h hc
      refine go_sub (l' := [(1, .int y1)]) [1] rfl ?_
      exact hk36 _ _ h
    · replace h := q_f h hc
      refine go_iload_n rfl 1 rfl dX4_fleeing_12 ?_
      refine go_aload_n rfl 0 rfl dX4_fleeing_13 ?_
      refine go_iload_n rfl 2 rfl dX4_fleeing_14 ?_
      obtain ⟨r_1, h_2, h⟩ := q_b h
      refine h_callVi (st := [.int y1]) [.int y2] (m_X4_isFleeing hy0 h_2) me_X4_isFleeing (g_recv cl2.1 (shP hy0)) tw_673 tw_484 tw_485 (hdd_of (by decide)) ⟨Nat.zero_le _, Nat.zero_le _⟩ rfl rfl (Nat.le_of_ble_eq_true rfl) dX4_fleeing_15 ?_
      refine go_if_eq (tgt := 27) dX4_fleeing_18 rfl (fun hc => ?_) (fun hc => ?_)
      · replace h := q_t h hc
        refine go_iconst kz_iconst_0 dX4_fleeing_27 ?_
        refine go_ior dX4_fleeing_28 ?_
        refine go_istore_n (l' := [(1, .int (y1 ||| 0)), (0, .ref (ad y0)), (2, .int y2)]) dX4_fleeing_29 rfl (by decide) rfl ?_
        refine h_iinc (l' := [(2, .int (y2 + 1)), (1, .int (y1 ||| 0)), (0, .ref (ad y0))]) dX4_fleeing_30 2 rfl kz_iconst_1 (by decide) rfl ?_
        refine go_goto (tgt := 4) dX4_fleeing_33 rfl ?_
        refine go_sub (l' := [(0, .ref (ad y0)), (1, .int (y1 ||| 0)), (2, .int (y2 + 1))]) [2, 1, 0] rfl ?_
        exact ih _ _ _ _ h hk36
      · replace h := q_f h hc
        refine go_iconst kz_iconst_1 dX4_fleeing_21 ?_
        refine go_iload_n rfl 2 rfl dX4_fleeing_22 ?_
        refine h_ishl dX4_fleeing_23 ?_
        refine go_goto (tgt := 28) dX4_fleeing_24 rfl ?_
        refine go_ior dX4_fleeing_28 ?_
        refine go_istore_n (l' := [(1, .int (y1 ||| (j_shl 1 y2))), (0, .ref (ad y0)), (2, .int y2)]) dX4_fleeing_29 rfl (by decide) rfl ?_
        refine h_iinc (l' := [(2, .int (y2 + 1)), (1, .int (y1 ||| (j_shl 1 y2))), (0, .ref (ad y0))]) dX4_fleeing_30 2 rfl kz_iconst_1 (by decide) rfl ?_
        refine go_goto (tgt := 4) dX4_fleeing_33 rfl ?_
        refine go_sub (l' := [(0, .ref (ad y0)), (1, .int (y1 ||| (j_shl 1 y2))), (2, .int (y2 + 1))]) [2, 1, 0] rfl ?_
        exact ih _ _ _ _ h hk36
set_option maxRecDepth 20000 in
set_option maxHeartbeats 2000000 in
theorem m_X4_fleeing {X : gX} {ad : Nat → Nat} {p0 : Nat} {ν : gN} {r : Int32 × gN} (hp0 : isP p0) (h : f_X4_fleeing p0 ν = some r) : h_ct X ad yX4_fleeing cX4_fleeing 3 ((Option.some .int)) 3 [.ref (ad p0)] ν (some (.int r.1), r.2) := by
  rw [f_X4_fleeing] at h
  refine h_ct_of (l := [(0, .ref (ad p0))]) (by decide) (Nat.le_of_ble_eq_true rfl) rfl ?_
  refine go_iconst kz_iconst_0 dX4_fleeing_0 ?_
  refine go_istore_n (l' := [(1, .int 0), (0, .ref (ad p0))]) dX4_fleeing_1 rfl (by decide) rfl ?_
  refine go_iconst kz_iconst_0 dX4_fleeing_2 ?_
  refine go_istore_n (l' := [(2, .int 0), (1, .int 0), (0, .ref (ad p0))]) dX4_fleeing_3 rfl (by decide) rfl ?_
  refine go_sub (l' := [(0, .ref (ad p0)), (1, .int 0), (2, .int 0)]) [2, 1, 0] rfl ?_
  refine m_X4_fleeing_L4 hp0 FU _ _ _ _ h (fun z1_3 ν_4 h => ?_)
  refine go_iload_n rfl 0 rfl dX4_fleeing_36 ?_
  exact h_iret h dX4_fleeing_37 rfl
noncomputable def f_X8_isSquare (x0 : Int32) (ν : gN) : Option (Int32 × gN) :=
  if x0 < 0 then
    some (0, ν)
  else
    if 49 ≤ x0 then
      some (0, ν)
    else
      some (1, ν)
theorem me_X8_isSquare : g_me yX8_isSquare cX8_isSquare 1 ((Option.some .boolean)) 1 := ⟨tw_436, tw_72, ⟨by decide +kernel, by decide +kernel, by decide +kernel⟩, by decide⟩
set_option maxRecDepth 20000 in
set_option maxHeartbeats 2000000 in
theorem m_X8_isSquare {X : gX} {ad : Nat → Nat} {x0 : Int32} {ν : gN} {r : Int32 × gN}  (h : f_X8_isSquare x0 ν = some r) : h_ct X ad yX8_isSquare cX8_isSquare 1 ((Option.some .boolean)) 1 [.int x0] ν (some (.int r.1), r.2) := by
  rw [f_X8_isSquare] at h
  refine h_ct_of (l := [(0, .int x0)]) (by decide) (Nat.le_of_ble_eq_true rfl) rfl ?_
  refine go_iload_n rfl 0 rfl dX8_isSquare_0 ?_
  refine go_if_lt (tgt := 14) dX8_isSquare_1 rfl (fun hc => ?_) (fun hc => ?_)
  · replace h := q_t h hc
    refine go_iconst kz_iconst_0 dX8_isSquare_14 ?_
    exact h_zret rfl h dX8_isSquare_15 rfl
  · replace h := q_f h hc
    refine go_iload_n rfl 0 rfl dX8_isSquare_4 ?_
    refine go_bipush kz_bipush_49 dX8_isSquare_5 ?_
    refine go_icmp_ge (tgt := 14) dX8_isSquare_7 rfl (fun hc => ?_) (fun hc => ?_)
    · replace h := q_t h hc
      refine go_iconst kz_iconst_0 dX8_isSquare_14 ?_
      exact h_zret rfl h dX8_isSquare_15 rfl
    · replace h := q_f h hc
      refine go_iconst kz_iconst_1 dX8_isSquare_10 ?_
      refine go_goto (tgt := 15) dX8_isSquare_11 rfl ?_
      exact h_zret rfl h dX8_isSquare_15 rfl
noncomputable def f_X4_isFenced (p0 : Nat) (x1 : Int32) (ν : gN) : Option (Int32 × gN) :=
  (f_X8_isSquare x1 ν).bind (fun r_1 =>
    if r_1.1 = 0 then
      some (0, r_1.2)
    else
      if (lg_cmp ((j_lushr (r_1.2.2 p0 7) x1) &&& 1) 0) = 0 then
        some (0, r_1.2)
      else
        some (1, r_1.2))
theorem me_X4_isFenced : g_me yX4_isFenced cX4_isFenced 2 ((Option.some .boolean)) 1 := ⟨tw_440, tw_73, ⟨by decide +kernel, by decide +kernel, by decide +kernel⟩, by decide⟩
set_option maxRecDepth 20000 in
set_option maxHeartbeats 2000000 in
theorem m_X4_isFenced {X : gX} {ad : Nat → Nat} {p0 : Nat} {x1 : Int32} {ν : gN} {r : Int32 × gN} (hp0 : isP p0) (h : f_X4_isFenced p0 x1 ν = some r) : h_ct X ad yX4_isFenced cX4_isFenced 2 ((Option.some .boolean)) 2 [.ref (ad p0), .int x1] ν (some (.int r.1), r.2) := by
  rw [f_X4_isFenced] at h
  refine h_ct_of (l := [(0, .ref (ad p0)), (1, .int x1)]) (by decide) (Nat.le_of_ble_eq_true rfl) rfl ?_
  refine go_iload_n rfl 1 rfl dX4_isFenced_0 ?_
  obtain ⟨r_1, h_2, h⟩ := q_b h
  refine h_callSNi (st := []) [.int x1] (m_X8_isSquare h_2) me_X8_isSquare tw_434 tw_435 (hdd_of (by decide)) ⟨Nat.zero_le _, Nat.zero_le _⟩ rfl rfl (Nat.le_of_ble_eq_true rfl) dX4_isFenced_1 ?_
  refine go_if_eq (tgt := 24) dX4_isFenced_4 rfl (fun hc => ?_) (fun hc => ?_)
  · replace h := q_t h hc
    refine go_iconst kz_iconst_0 dX4_isFenced_24 ?_
    exact h_zret rfl h dX4_isFenced_25 rfl
  · replace h := q_f h hc
    refine go_aload_n rfl 0 rfl dX4_isFenced_7 ?_
    refine h_getl 7 cl2 (shP hp0) (by decide) tw_126 rfl dX4_isFenced_8 ?_
    refine go_iload_n rfl 1 rfl dX4_isFenced_11 ?_
    refine h_lushr dX4_isFenced_12 ?_
    refine go_lconst (v := 1) rfl dX4_isFenced_13 ?_
    refine go_land dX4_isFenced_14 ?_
    refine go_lconst (v := 0) rfl dX4_isFenced_15 ?_
    refine go_lcmp dX4_isFenced_16 ?_
    refine go_if_eq (tgt := 24) dX4_isFenced_17 rfl (fun hc => ?_) (fun hc => ?_)
    · replace h := q_t h hc
      refine go_iconst kz_iconst_0 dX4_isFenced_24 ?_
      exact h_zret rfl h dX4_isFenced_25 rfl
    · replace h := q_f h hc
      refine go_iconst kz_iconst_1 dX4_isFenced_20 ?_
      refine go_goto (tgt := 25) dX4_isFenced_21 rfl ?_
      exact h_zret rfl h dX4_isFenced_25 rfl
noncomputable def f_X4_isOpen (p0 : Nat) (x1 : Int32) (ν : gN) : Option (Int32 × gN) :=
  (f_X8_isSquare x1 ν).bind (fun r_1 =>
    if r_1.1 = 0 then
      some (0, r_1.2)
    else
      (f_X4_isFenced p0 x1 r_1.2).bind (fun r_3 =>
        if r_3.1 = 0 then
          some (1, r_3.2)
        else
          some (0, r_3.2)))
theorem me_X4_isOpen : g_me yX4_isOpen cX4_isOpen 2 ((Option.some .boolean)) 1 := ⟨tw_433, tw_73, ⟨by decide +kernel, by decide +kernel, by decide +kernel⟩, by decide⟩
set_option maxRecDepth 20000 in
set_option maxHeartbeats 2000000 in
theorem m_X4_isOpen {X : gX} {ad : Nat → Nat} {p0 : Nat} {x1 : Int32} {ν : gN} {r : Int32 × gN} (hp0 : isP p0) (h : f_X4_isOpen p0 x1 ν = some r) : h_ct X ad yX4_isOpen cX4_isOpen 2 ((Option.some .boolean)) 3 [.ref (ad p0), .int x1] ν (some (.int r.1), r.2) := by
  rw [f_X4_isOpen] at h
  refine h_ct_of (l := [(0, .ref (ad p0)), (1, .int x1)]) (by decide) (Nat.le_of_ble_eq_true rfl) rfl ?_
  refine go_iload_n rfl 1 rfl dX4_isOpen_0 ?_
  obtain ⟨r_1, h_2, h⟩ := q_b h
  refine h_callSNi (st := []) [.int x1] (m_X8_isSquare h_2) me_X8_isSquare tw_434 tw_435 (hdd_of (by decide)) ⟨Nat.zero_le _, Nat.zero_le _⟩ rfl rfl (Nat.le_of_ble_eq_true rfl) dX4_isOpen_1 ?_
  refine go_if_eq (tgt := 19) dX4_isOpen_4 rfl (fun hc => ?_) (fun hc => ?_)
  · replace h := q_t h hc
    refine go_iconst kz_iconst_0 dX4_isOpen_19 ?_
    exact h_zret rfl h dX4_isOpen_20 rfl
  · replace h := q_f h hc
    refine go_aload_n rfl 0 rfl dX4_isOpen_7 ?_
    refine go_iload_n rfl 1 rfl dX4_isOpen_8 ?_
    obtain ⟨r_3, h_4, h⟩ := q_b h
    refine h_callVi (st := []) [.int x1] (m_X4_isFenced hp0 h_4) me_X4_isFenced (g_recv cl2.1 (shP hp0)) tw_437 tw_438 tw_439 (hdd_of (by decide)) ⟨Nat.zero_le _, Nat.zero_le _⟩ rfl rfl (Nat.le_of_ble_eq_true rfl) dX4_isOpen_9 ?_
    refine go_if_ne (tgt := 19) dX4_isOpen_12 rfl (fun hc => ?_) (fun hc => ?_)
    · replace h := q_f h hc
      refine go_iconst kz_iconst_0 dX4_isOpen_19 ?_
      exact h_zret rfl h dX4_isOpen_20 rfl
    · replace h := q_t h hc
      refine go_iconst kz_iconst_1 dX4_isOpen_15 ?_
      refine go_goto (tgt := 20) dX4_isOpen_16 rfl ?_
      exact h_zret rfl h dX4_isOpen_20 rfl
noncomputable def f_X4_isPerson (p0 : Nat) (x1 : Int32) (ν : gN) : Option (Int32 × gN) :=
  if x1 < 0 then
    some (0, ν)
  else
    if (ν.1 p0 6) ≤ x1 then
      some (0, ν)
    else
      some (1, ν)
theorem me_X4_isPerson : g_me yX4_isPerson cX4_isPerson 2 ((Option.some .boolean)) 1 := ⟨tw_389, tw_73, ⟨by decide +kernel, by decide +kernel, by decide +kernel⟩, by decide⟩
set_option maxRecDepth 20000 in
set_option maxHeartbeats 2000000 in
theorem m_X4_isPerson {X : gX} {ad : Nat → Nat} {p0 : Nat} {x1 : Int32} {ν : gN} {r : Int32 × gN} (hp0 : isP p0) (h : f_X4_isPerson p0 x1 ν = some r) : h_ct X ad yX4_isPerson cX4_isPerson 2 ((Option.some .boolean)) 1 [.ref (ad p0), .int x1] ν (some (.int r.1), r.2) := by
  rw [f_X4_isPerson] at h
  refine h_ct_of (l := [(0, .ref (ad p0)), (1, .int x1)]) (by decide) (Nat.le_of_ble_eq_true rfl) rfl ?_
  refine go_iload_n rfl 1 rfl dX4_isPerson_0 ?_
  refine go_if_lt (tgt := 16) dX4_isPerson_1 rfl (fun hc => ?_) (fun hc => ?_)
  · replace h := q_t h hc
    refine go_iconst kz_iconst_0 dX4_isPerson_16 ?_
    exact h_zret rfl h dX4_isPerson_17 rfl
  · replace h := q_f h hc
    refine go_iload_n rfl 1 rfl dX4_isPerson_4 ?_
    refine go_aload_n rfl 0 rfl dX4_isPerson_5 ?_
    refine h_geti 6 cl2 (shP hp0) (by decide) tw_122 rfl dX4_isPerson_6 ?_
    refine go_icmp_ge (tgt := 16) dX4_isPerson_9 rfl (fun hc => ?_) (fun hc => ?_)
    · replace h := q_t h hc
      refine go_iconst kz_iconst_0 dX4_isPerson_16 ?_
      exact h_zret rfl h dX4_isPerson_17 rfl
    · replace h := q_f h hc
      refine go_iconst kz_iconst_1 dX4_isPerson_12 ?_
      refine go_goto (tgt := 17) dX4_isPerson_13 rfl ?_
      exact h_zret rfl h dX4_isPerson_17 rfl
noncomputable def f_X4_isPutOut (p0 : Nat) (x1 : Int32) (ν : gN) : Option (Int32 × gN) :=
  (f_X4_smellOf p0 x1 ν).bind (fun r_1 =>
    if r_1.1 ≤ (r_1.2.1 p0 9) then
      some (0, r_1.2)
    else
      some (1, r_1.2))
theorem me_X4_isPutOut : g_me yX4_isPutOut cX4_isPutOut 2 ((Option.some .boolean)) 1 := ⟨tw_493, tw_73, ⟨by decide +kernel, by decide +kernel, by decide +kernel⟩, by decide⟩
set_option maxRecDepth 20000 in
set_option maxHeartbeats 2000000 in
theorem m_X4_isPutOut {X : gX} {ad : Nat → Nat} {p0 : Nat} {x1 : Int32} {ν : gN} {r : Int32 × gN} (hp0 : isP p0) (h : f_X4_isPutOut p0 x1 ν = some r) : h_ct X ad yX4_isPutOut cX4_isPutOut 2 ((Option.some .boolean)) 3 [.ref (ad p0), .int x1] ν (some (.int r.1), r.2) := by
  rw [f_X4_isPutOut] at h
  refine h_ct_of (l := [(0, .ref (ad p0)), (1, .int x1)]) (by decide) (Nat.le_of_ble_eq_true rfl) rfl ?_
  refine go_aload_n rfl 0 rfl dX4_isPutOut_0 ?_
  refine go_iload_n rfl 1 rfl dX4_isPutOut_1 ?_
  obtain ⟨r_1, h_2, h⟩ := q_b h
  refine h_callVi (st := []) [.int x1] (m_X4_smellOf hp0 h_2) me_X4_smellOf (g_recv cl2.1 (shP hp0)) tw_494 tw_420 tw_421 (hdd_of (by decide)) ⟨Nat.zero_le _, Nat.zero_le _⟩ rfl rfl (Nat.le_of_ble_eq_true rfl) dX4_isPutOut_2 ?_
  refine go_aload_n rfl 0 rfl dX4_isPutOut_5 ?_
  refine h_geti 9 cl2 (shP hp0) (by decide) tw_132 rfl dX4_isPutOut_6 ?_
  refine go_icmp_le (tgt := 16) dX4_isPutOut_9 rfl (fun hc => ?_) (fun hc => ?_)
  · replace h := q_t h hc
    refine go_iconst kz_iconst_0 dX4_isPutOut_16 ?_
    exact h_zret rfl h dX4_isPutOut_17 rfl
  · replace h := q_f h hc
    refine go_iconst kz_iconst_1 dX4_isPutOut_12 ?_
    refine go_goto (tgt := 17) dX4_isPutOut_13 rfl ?_
    exact h_zret rfl h dX4_isPutOut_17 rfl
noncomputable def f_X4_peopleAt_L4 (y0 : Nat) (y1 : Int32) (k38 : Int32 → gN → Option (Int32 × gN)) : Nat → Int32 → Int32 → gN → Option (Int32 × gN)
  | 0, _, _, _ => none
  | n + 1, y2, y3, ν =>
    if (ν.1 y0 6) ≤ y3 then
      k38 y2 ν
    else
      if inb y3 7 = true then
        if (ν.1 (y0 + 5) y3.toNatClampNeg) = y1 then
          f_X4_peopleAt_L4 y0 y1 k38 n (y2 ||| (j_shl 1 y3)) (y3 + 1) ν
        else
          f_X4_peopleAt_L4 y0 y1 k38 n (y2 ||| 0) (y3 + 1) ν
      else none
noncomputable def f_X4_peopleAt (p0 : Nat) (x1 : Int32) (ν : gN) : Option (Int32 × gN) :=
  f_X4_peopleAt_L4 p0 x1 (fun z2_2 ν_3 =>
    some (z2_2, ν_3)) FU 0 0 ν
theorem me_X4_peopleAt : g_me yX4_peopleAt cX4_peopleAt 4 ((Option.some .int)) 1 := ⟨tw_461, tw_73, ⟨by decide +kernel, by decide +kernel, by decide +kernel⟩, by decide⟩
set_option maxRecDepth 20000 in
set_option maxHeartbeats 2000000 in
theorem m_X4_peopleAt_L4 {X : gX} {ad : Nat → Nat} {y0 : Nat} {y1 : Int32} {k38 : Int32 → gN → Option (Int32 × gN)} (hy0 : isP y0) : ∀ (n : Nat) (y2 : Int32) (y3 : Int32) (ν : gN) (r : Int32 × gN), f_X4_peopleAt_L4 y0 y1 k38 n y2 y3 ν = some r → (∀ (z2 : Int32) (ν1 : gN), k38 z2 ν1 = some r → h_go X ad RX4 "peopleAt" cX4_peopleAt 4 ((Option.some .int)) 1 (some (.int r.1), r.2) 38 [(2, .int z2)] [] ν1) → h_go X ad RX4 "peopleAt" cX4_peopleAt 4 ((Option.some .int)) 1 (some (.int r.1), r.2) 4 [(0, .ref (ad y0)), (1, .int y1), (2, .int y2), (3, .int y3)] [] ν := by
  intro n
  induction n with
  | zero => intro y2 y3 ν r h hk38; rw [f_X4_peopleAt_L4] at h; exact q_n h
  | succ n ih =>
    intro y2 y3 ν r h hk38
    rw [f_X4_peopleAt_L4] at h
    refine go_iload_n rfl 3 rfl dX4_peopleAt_4 ?_
    refine go_aload_n rfl 0 rfl dX4_peopleAt_5 ?_
    refine h_geti 6 cl2 (shP hy0) (by decide) tw_122 rfl dX4_peopleAt_6 ?_
    refine go_icmp_ge (tgt := 38) dX4_peopleAt_9 rfl (fun hc => ?_) (fun hc => ?_)
    · replace h := q_t h hc
      refine go_sub (l' := [(2, .int y2)]) [2] rfl ?_
      exact hk38 _ _ h
    · replace h := q_f h hc
      refine go_iload_n rfl 2 rfl dX4_peopleAt_12 ?_
      refine go_aload_n rfl 0 rfl dX4_peopleAt_13 ?_
      refine h_getr 4 cl2 (shP hy0) (by decide) tw_117 (y0 + 5) (fvP4 hy0) dX4_peopleAt_14 ?_
      refine go_iload_n rfl 3 rfl dX4_peopleAt_17 ?_
      obtain ⟨hg_1, h⟩ := q_g h
      refine h_iald 7 (shP5 hy0) hg_1 dX4_peopleAt_18 ?_
      refine go_iload_n rfl 1 rfl dX4_peopleAt_19 ?_
      refine go_icmp_ne (tgt := 29) dX4_peopleAt_20 rfl (fun hc => ?_) (fun hc => ?_)
      · replace h := q_f h hc
        refine go_iconst kz_iconst_0 dX4_peopleAt_29 ?_
        refine go_ior dX4_peopleAt_30 ?_
        refine go_istore_n (l' := [(2, .int (y2 ||| 0)), (0, .ref (ad y0)), (1, .int y1), (3, .int y3)]) dX4_peopleAt_31 rfl (by decide) rfl ?_
        refine h_iinc (l' := [(3, .int (y3 + 1)), (2, .int (y2 ||| 0)), (0, .ref (ad y0)), (1, .int y1)]) dX4_peopleAt_32 3 rfl kz_iconst_1 (by decide) rfl ?_
        refine go_goto (tgt := 4) dX4_peopleAt_35 rfl ?_
        refine go_sub (l' := [(0, .ref (ad y0)), (1, .int y1), (2, .int (y2 ||| 0)), (3, .int (y3 + 1))]) [2, 3, 1, 0] rfl ?_
        exact ih _ _ _ _ h hk38
      · replace h := q_t h hc
        refine go_iconst kz_iconst_1 dX4_peopleAt_23 ?_
        refine go_iload_n rfl 3 rfl dX4_peopleAt_24 ?_
        refine h_ishl dX4_peopleAt_25 ?_
        refine go_goto (tgt := 30) dX4_peopleAt_26 rfl ?_
        refine go_ior dX4_peopleAt_30 ?_
        refine go_istore_n (l' := [(2, .int (y2 ||| (j_shl 1 y3))), (0, .ref (ad y0)), (1, .int y1), (3, .int y3)]) dX4_peopleAt_31 rfl (by decide) rfl ?_
        refine h_iinc (l' := [(3, .int (y3 + 1)), (2, .int (y2 ||| (j_shl 1 y3))), (0, .ref (ad y0)), (1, .int y1)]) dX4_peopleAt_32 3 rfl kz_iconst_1 (by decide) rfl ?_
        refine go_goto (tgt := 4) dX4_peopleAt_35 rfl ?_
        refine go_sub (l' := [(0, .ref (ad y0)), (1, .int y1), (2, .int (y2 ||| (j_shl 1 y3))), (3, .int (y3 + 1))]) [2, 3, 1, 0] rfl ?_
        exact ih _ _ _ _ h hk38
set_option maxRecDepth 20000 in
set_option maxHeartbeats 2000000 in
theorem m_X4_peopleAt {X : gX} {ad : Nat → Nat} {p0 : Nat} {x1 : Int32} {ν : gN} {r : Int32 × gN} (hp0 : isP p0) (h : f_X4_peopleAt p0 x1 ν = some r) : h_ct X ad yX4_peopleAt cX4_peopleAt 4 ((Option.some .int)) 1 [.ref (ad p0), .int x1] ν (some (.int r.1), r.2) := by
  rw [f_X4_peopleAt] at h
  refine h_ct_of (l := [(0, .ref (ad p0)), (1, .int x1)]) (by decide) (Nat.le_of_ble_eq_true rfl) rfl ?_
  refine go_iconst kz_iconst_0 dX4_peopleAt_0 ?_
  refine go_istore_n (l' := [(2, .int 0), (0, .ref (ad p0)), (1, .int x1)]) dX4_peopleAt_1 rfl (by decide) rfl ?_
  refine go_iconst kz_iconst_0 dX4_peopleAt_2 ?_
  refine go_istore_n (l' := [(3, .int 0), (2, .int 0), (0, .ref (ad p0)), (1, .int x1)]) dX4_peopleAt_3 rfl (by decide) rfl ?_
  refine go_sub (l' := [(0, .ref (ad p0)), (1, .int x1), (2, .int 0), (3, .int 0)]) [2, 3, 1, 0] rfl ?_
  refine m_X4_peopleAt_L4 hp0 FU _ _ _ _ h (fun z2_2 ν_3 h => ?_)
  refine go_iload_n rfl 0 rfl dX4_peopleAt_38 ?_
  exact h_iret h dX4_peopleAt_39 rfl
noncomputable def f_X4_mayBeFenced (p0 : Nat) (x1 : Int32) (ν : gN) : Option (Int32 × gN) :=
  (f_X8_isSquare x1 ν).bind (fun r_1 =>
    if r_1.1 = 0 then
      some (0, r_1.2)
    else
      if x1 = 24 then
        some (0, r_1.2)
      else
        (f_X4_peopleAt p0 x1 r_1.2).bind (fun r_3 =>
          if r_3.1 = 0 then
            some (1, r_3.2)
          else
            some (0, r_3.2)))
theorem me_X4_mayBeFenced : g_me yX4_mayBeFenced cX4_mayBeFenced 2 ((Option.some .boolean)) 1 := ⟨tw_457, tw_73, ⟨by decide +kernel, by decide +kernel, by decide +kernel⟩, by decide⟩
set_option maxRecDepth 20000 in
set_option maxHeartbeats 2000000 in
theorem m_X4_mayBeFenced {X : gX} {ad : Nat → Nat} {p0 : Nat} {x1 : Int32} {ν : gN} {r : Int32 × gN} (hp0 : isP p0) (h : f_X4_mayBeFenced p0 x1 ν = some r) : h_ct X ad yX4_mayBeFenced cX4_mayBeFenced 2 ((Option.some .boolean)) 2 [.ref (ad p0), .int x1] ν (some (.int r.1), r.2) := by
  rw [f_X4_mayBeFenced] at h
  refine h_ct_of (l := [(0, .ref (ad p0)), (1, .int x1)]) (by decide) (Nat.le_of_ble_eq_true rfl) rfl ?_
  refine go_iload_n rfl 1 rfl dX4_mayBeFenced_0 ?_
  obtain ⟨r_1, h_2, h⟩ := q_b h
  refine h_callSNi (st := []) [.int x1] (m_X8_isSquare h_2) me_X8_isSquare tw_434 tw_435 (hdd_of (by decide)) ⟨Nat.zero_le _, Nat.zero_le _⟩ rfl rfl (Nat.le_of_ble_eq_true rfl) dX4_mayBeFenced_1 ?_
  refine go_if_eq (tgt := 25) dX4_mayBeFenced_4 rfl (fun hc => ?_) (fun hc => ?_)
  · replace h := q_t h hc
    refine go_iconst kz_iconst_0 dX4_mayBeFenced_25 ?_
    exact h_zret rfl h dX4_mayBeFenced_26 rfl
  · replace h := q_f h hc
    refine go_iload_n rfl 1 rfl dX4_mayBeFenced_7 ?_
    refine go_bipush kz_bipush_24 dX4_mayBeFenced_8 ?_
    refine go_icmp_eq (tgt := 25) dX4_mayBeFenced_10 rfl (fun hc => ?_) (fun hc => ?_)
    · replace h := q_t h hc
      refine go_iconst kz_iconst_0 dX4_mayBeFenced_25 ?_
      exact h_zret rfl h dX4_mayBeFenced_26 rfl
    · replace h := q_f h hc
      refine go_aload_n rfl 0 rfl dX4_mayBeFenced_13 ?_
      refine go_iload_n rfl 1 rfl dX4_mayBeFenced_14 ?_
      obtain ⟨r_3, h_4, h⟩ := q_b h
      refine h_callVi (st := []) [.int x1] (m_X4_peopleAt hp0 h_4) me_X4_peopleAt (g_recv cl2.1 (shP hp0)) tw_458 tw_459 tw_460 (hdd_of (by decide)) ⟨Nat.zero_le _, Nat.zero_le _⟩ rfl rfl (Nat.le_of_ble_eq_true rfl) dX4_mayBeFenced_15 ?_
      refine go_if_ne (tgt := 25) dX4_mayBeFenced_18 rfl (fun hc => ?_) (fun hc => ?_)
      · replace h := q_f h hc
        refine go_iconst kz_iconst_0 dX4_mayBeFenced_25 ?_
        exact h_zret rfl h dX4_mayBeFenced_26 rfl
      · replace h := q_t h hc
        refine go_iconst kz_iconst_1 dX4_mayBeFenced_21 ?_
        refine go_goto (tgt := 26) dX4_mayBeFenced_22 rfl ?_
        exact h_zret rfl h dX4_mayBeFenced_26 rfl
noncomputable def f_X4_putFence (p0 : Nat) (x1 : Int32) (x2 : Int32) (ν : gN) : Option (gN) :=
  if x2 = 0 then
    qL (nWL ν p0 7 ((ν.2 p0 7) &&& ((j_lshl 1 x1) ^^^ (-1)))) (fun ν_1 =>
      some ν_1)
  else
    qL (nWL ν p0 7 ((ν.2 p0 7) ||| (j_lshl 1 x1))) (fun ν_3 =>
      some ν_3)
theorem me_X4_putFence : g_me yX4_putFence cX4_putFence 3 (none) 2 := ⟨tw_466, tw_73, ⟨by decide +kernel, by decide +kernel, by decide +kernel⟩, by decide⟩
set_option maxRecDepth 20000 in
set_option maxHeartbeats 2000000 in
theorem m_X4_putFence {X : gX} {ad : Nat → Nat} {p0 : Nat} {x1 : Int32} {x2 : Int32} {ν : gN} {r : gN} (hp0 : isP p0) (h : f_X4_putFence p0 x1 x2 ν = some r) : h_ct X ad yX4_putFence cX4_putFence 3 (none) 1 [.ref (ad p0), .int x1, .int x2] ν (none, r) := by
  rw [f_X4_putFence] at h
  refine h_ct_of (l := [(0, .ref (ad p0)), (1, .int x1), (2, .int x2)]) (by decide) (Nat.le_of_ble_eq_true rfl) rfl ?_
  refine go_aload_n rfl 0 rfl dX4_putFence_0 ?_
  refine go_iload_n rfl 2 rfl dX4_putFence_1 ?_
  refine go_if_eq (tgt := 16) dX4_putFence_2 rfl (fun hc => ?_) (fun hc => ?_)
  · replace h := q_t h hc
    refine go_aload_n rfl 0 rfl dX4_putFence_16 ?_
    refine h_getl 7 cl2 (shP hp0) (by decide) tw_126 rfl dX4_putFence_17 ?_
    refine go_lconst (v := 1) rfl dX4_putFence_20 ?_
    refine go_iload_n rfl 1 rfl dX4_putFence_21 ?_
    refine h_lshl dX4_putFence_22 ?_
    refine go_ldc2 (v := (-1)) tw_467 dX4_putFence_23 ?_
    refine go_lxor dX4_putFence_26 ?_
    refine go_land dX4_putFence_27 ?_
    obtain ⟨ν_1, e_2, h⟩ := q_l h
    refine h_putl 7 cl2 (shP hp0) (by decide) tw_126 rfl rfl e_2 dX4_putFence_28 ?_
    exact h_vret h dX4_putFence_31 rfl
  · replace h := q_f h hc
    refine go_aload_n rfl 0 rfl dX4_putFence_5 ?_
    refine h_getl 7 cl2 (shP hp0) (by decide) tw_126 rfl dX4_putFence_6 ?_
    refine go_lconst (v := 1) rfl dX4_putFence_9 ?_
    refine go_iload_n rfl 1 rfl dX4_putFence_10 ?_
    refine h_lshl dX4_putFence_11 ?_
    refine go_lor dX4_putFence_12 ?_
    refine go_goto (tgt := 28) dX4_putFence_13 rfl ?_
    obtain ⟨ν_3, e_4, h⟩ := q_l h
    refine h_putl 7 cl2 (shP hp0) (by decide) tw_126 rfl rfl e_4 dX4_putFence_28 ?_
    exact h_vret h dX4_putFence_31 rfl
noncomputable def f_X4_satTogether_L4 (y0 : Nat) (k27 : Int32 → gN → Option (Int32 × gN)) : Nat → Int32 → Int32 → gN → Option (Int32 × gN)
  | 0, _, _, _ => none
  | n + 1, y1, y2, ν =>
    if (ν.1 y0 6) ≤ y2 then
      k27 y1 ν
    else
      if inb y2 7 = true then
        f_X4_satTogether_L4 y0 k27 n (y1 + (ν.1 (y0 + 6) y2.toNatClampNeg)) (y2 + 1) ν
      else none
noncomputable def f_X4_satTogether (p0 : Nat) (ν : gN) : Option (Int32 × gN) :=
  f_X4_satTogether_L4 p0 (fun z1_2 ν_3 =>
    some (z1_2, ν_3)) FU 0 0 ν
theorem me_X4_satTogether : g_me yX4_satTogether cX4_satTogether 3 ((Option.some .int)) 0 := ⟨tw_905, tw_73, ⟨by decide +kernel, by decide +kernel, by decide +kernel⟩, by decide⟩
set_option maxRecDepth 20000 in
set_option maxHeartbeats 2000000 in
theorem m_X4_satTogether_L4 {X : gX} {ad : Nat → Nat} {y0 : Nat} {k27 : Int32 → gN → Option (Int32 × gN)} (hy0 : isP y0) : ∀ (n : Nat) (y1 : Int32) (y2 : Int32) (ν : gN) (r : Int32 × gN), f_X4_satTogether_L4 y0 k27 n y1 y2 ν = some r → (∀ (z1 : Int32) (ν1 : gN), k27 z1 ν1 = some r → h_go X ad RX4 "satTogether" cX4_satTogether 3 ((Option.some .int)) 1 (some (.int r.1), r.2) 27 [(1, .int z1)] [] ν1) → h_go X ad RX4 "satTogether" cX4_satTogether 3 ((Option.some .int)) 1 (some (.int r.1), r.2) 4 [(0, .ref (ad y0)), (1, .int y1), (2, .int y2)] [] ν := by
  intro n
  induction n with
  | zero => intro y1 y2 ν r h hk27; rw [f_X4_satTogether_L4] at h; exact q_n h
  | succ n ih =>
    intro y1 y2 ν r h hk27
    rw [f_X4_satTogether_L4] at h
    refine go_iload_n rfl 2 rfl dX4_satTogether_4 ?_
    refine go_aload_n rfl 0 rfl dX4_satTogether_5 ?_
    refine h_geti 6 cl2 (shP hy0) (by decide) tw_122 rfl dX4_satTogether_6 ?_
    refine go_icmp_ge (tgt := 27) dX4_satTogether_9 rfl (fun hc => ?_) (fun hc => ?_)
    · replace h := q_t h hc
      refine go_sub (l' := [(1, .int y1)]) [1] rfl ?_
      exact hk27 _ _ h
    · replace h := q_f h hc
      refine go_iload_n rfl 1 rfl dX4_satTogether_12 ?_
      refine go_aload_n rfl 0 rfl dX4_satTogether_13 ?_
      refine h_getr 5 cl2 (shP hy0) (by decide) tw_120 (y0 + 6) (fvP5 hy0) dX4_satTogether_14 ?_
      refine go_iload_n rfl 2 rfl dX4_satTogether_17 ?_
      obtain ⟨hg_1, h⟩ := q_g h
      refine h_iald 7 (shP6 hy0) hg_1 dX4_satTogether_18 ?_
      refine go_iadd dX4_satTogether_19 ?_
      refine go_istore_n (l' := [(1, .int (y1 + (ν.1 (y0 + 6) y2.toNatClampNeg))), (0, .ref (ad y0)), (2, .int y2)]) dX4_satTogether_20 rfl (by decide) rfl ?_
      refine h_iinc (l' := [(2, .int (y2 + 1)), (1, .int (y1 + (ν.1 (y0 + 6) y2.toNatClampNeg))), (0, .ref (ad y0))]) dX4_satTogether_21 2 rfl kz_iconst_1 (by decide) rfl ?_
      refine go_goto (tgt := 4) dX4_satTogether_24 rfl ?_
      refine go_sub (l' := [(0, .ref (ad y0)), (1, .int (y1 + (ν.1 (y0 + 6) y2.toNatClampNeg))), (2, .int (y2 + 1))]) [2, 1, 0] rfl ?_
      exact ih _ _ _ _ h hk27
set_option maxRecDepth 20000 in
set_option maxHeartbeats 2000000 in
theorem m_X4_satTogether {X : gX} {ad : Nat → Nat} {p0 : Nat} {ν : gN} {r : Int32 × gN} (hp0 : isP p0) (h : f_X4_satTogether p0 ν = some r) : h_ct X ad yX4_satTogether cX4_satTogether 3 ((Option.some .int)) 1 [.ref (ad p0)] ν (some (.int r.1), r.2) := by
  rw [f_X4_satTogether] at h
  refine h_ct_of (l := [(0, .ref (ad p0))]) (by decide) (Nat.le_of_ble_eq_true rfl) rfl ?_
  refine go_iconst kz_iconst_0 dX4_satTogether_0 ?_
  refine go_istore_n (l' := [(1, .int 0), (0, .ref (ad p0))]) dX4_satTogether_1 rfl (by decide) rfl ?_
  refine go_iconst kz_iconst_0 dX4_satTogether_2 ?_
  refine go_istore_n (l' := [(2, .int 0), (1, .int 0), (0, .ref (ad p0))]) dX4_satTogether_3 rfl (by decide) rfl ?_
  refine go_sub (l' := [(0, .ref (ad p0)), (1, .int 0), (2, .int 0)]) [2, 1, 0] rfl ?_
  refine m_X4_satTogether_L4 hp0 FU _ _ _ _ h (fun z1_2 ν_3 h => ?_)
  refine go_iload_n rfl 0 rfl dX4_satTogether_27 ?_
  exact h_iret h dX4_satTogether_28 rfl
noncomputable def f_X4_takeFrom (p0 : Nat) (p1 : Nat) (ν : gN) : Option (gN) :=
  if cpk 0 0 7 7 7 = true then
    qL (nCI ν (p1 + 1) (p0 + 1) (0 : Int32).toNatClampNeg (0 : Int32).toNatClampNeg (7 : Int32).toNatClampNeg) (fun ν_2 =>
      if cpk 0 0 7 7 7 = true then
        qL (nCI ν_2 (p1 + 2) (p0 + 2) (0 : Int32).toNatClampNeg (0 : Int32).toNatClampNeg (7 : Int32).toNatClampNeg) (fun ν_5 =>
          if cpk 0 0 7 7 7 = true then
            qL (nCI ν_5 (p1 + 3) (p0 + 3) (0 : Int32).toNatClampNeg (0 : Int32).toNatClampNeg (7 : Int32).toNatClampNeg) (fun ν_8 =>
              if cpk 0 0 7 7 7 = true then
                qL (nCI ν_8 (p1 + 4) (p0 + 4) (0 : Int32).toNatClampNeg (0 : Int32).toNatClampNeg (7 : Int32).toNatClampNeg) (fun ν_11 =>
                  if cpk 0 0 7 7 7 = true then
                    qL (nCI ν_11 (p1 + 5) (p0 + 5) (0 : Int32).toNatClampNeg (0 : Int32).toNatClampNeg (7 : Int32).toNatClampNeg) (fun ν_14 =>
                      if cpk 0 0 7 7 7 = true then
                        qL (nCI ν_14 (p1 + 6) (p0 + 6) (0 : Int32).toNatClampNeg (0 : Int32).toNatClampNeg (7 : Int32).toNatClampNeg) (fun ν_17 =>
                          qL (nWI ν_17 p0 6 (ν_17.1 p1 6)) (fun ν_19 =>
                            qL (nWL ν_19 p0 7 (ν_19.2 p1 7)) (fun ν_21 =>
                              qL (nWI ν_21 p0 8 (ν_21.1 p1 8)) (fun ν_23 =>
                                qL (nWI ν_23 p0 9 (ν_23.1 p1 9)) (fun ν_25 =>
                                  qL (nWI ν_25 p0 10 (ν_25.1 p1 10)) (fun ν_27 =>
                                    qL (nWI ν_27 p0 11 (ν_27.1 p1 11)) (fun ν_29 =>
                                      qL (nWI ν_29 p0 12 (ν_29.1 p1 12)) (fun ν_31 =>
                                        some ν_31))))))))
                      else none)
                  else none)
              else none)
          else none)
      else none)
  else none
theorem me_X4_takeFrom : g_me yX4_takeFrom cX4_takeFrom 2 (none) 1 := ⟨tw_508, tw_73, ⟨by decide +kernel, by decide +kernel, by decide +kernel⟩, by decide⟩
set_option maxRecDepth 20000 in
set_option maxHeartbeats 2000000 in
theorem m_X4_takeFrom {X : gX} {ad : Nat → Nat} {p0 : Nat} {p1 : Nat} {ν : gN} {r : gN} (hp0 : isP p0) (hp1 : isP p1) (h : f_X4_takeFrom p0 p1 ν = some r) : h_ct X ad yX4_takeFrom cX4_takeFrom 2 (none) 1 [.ref (ad p0), .ref (ad p1)] ν (none, r) := by
  rw [f_X4_takeFrom] at h
  refine h_ct_of (l := [(0, .ref (ad p0)), (1, .ref (ad p1))]) (by decide) (Nat.le_of_ble_eq_true rfl) rfl ?_
  refine go_aload_n rfl 1 rfl dX4_takeFrom_0 ?_
  refine h_getr 0 cl2 (shP hp1) (by decide) tw_105 (p1 + 1) (fvP0 hp1) dX4_takeFrom_1 ?_
  refine go_iconst kz_iconst_0 dX4_takeFrom_4 ?_
  refine go_aload_n rfl 0 rfl dX4_takeFrom_5 ?_
  refine h_getr 0 cl2 (shP hp0) (by decide) tw_105 (p0 + 1) (fvP0 hp0) dX4_takeFrom_6 ?_
  refine go_iconst kz_iconst_0 dX4_takeFrom_9 ?_
  refine go_bipush kz_bipush_7 dX4_takeFrom_10 ?_
  obtain ⟨hg_1, h⟩ := q_g h
  obtain ⟨ν_2, e_3, h⟩ := q_l h
  refine h_copyi 7 7 (shP1 hp1) (shP1 hp0) tw_509 hg_1 (by decide) e_3 dX4_takeFrom_12 ?_
  refine go_aload_n rfl 1 rfl dX4_takeFrom_15 ?_
  refine h_getr 1 cl2 (shP hp1) (by decide) tw_108 (p1 + 2) (fvP1 hp1) dX4_takeFrom_16 ?_
  refine go_iconst kz_iconst_0 dX4_takeFrom_19 ?_
  refine go_aload_n rfl 0 rfl dX4_takeFrom_20 ?_
  refine h_getr 1 cl2 (shP hp0) (by decide) tw_108 (p0 + 2) (fvP1 hp0) dX4_takeFrom_21 ?_
  refine go_iconst kz_iconst_0 dX4_takeFrom_24 ?_
  refine go_bipush kz_bipush_7 dX4_takeFrom_25 ?_
  obtain ⟨hg_4, h⟩ := q_g h
  obtain ⟨ν_5, e_6, h⟩ := q_l h
  refine h_copyi 7 7 (shP2 hp1) (shP2 hp0) tw_509 hg_4 (by decide) e_6 dX4_takeFrom_27 ?_
  refine go_aload_n rfl 1 rfl dX4_takeFrom_30 ?_
  refine h_getr 2 cl2 (shP hp1) (by decide) tw_112 (p1 + 3) (fvP2 hp1) dX4_takeFrom_31 ?_
  refine go_iconst kz_iconst_0 dX4_takeFrom_34 ?_
  refine go_aload_n rfl 0 rfl dX4_takeFrom_35 ?_
  refine h_getr 2 cl2 (shP hp0) (by decide) tw_112 (p0 + 3) (fvP2 hp0) dX4_takeFrom_36 ?_
  refine go_iconst kz_iconst_0 dX4_takeFrom_39 ?_
  refine go_bipush kz_bipush_7 dX4_takeFrom_40 ?_
  obtain ⟨hg_7, h⟩ := q_g h
  obtain ⟨ν_8, e_9, h⟩ := q_l h
  refine h_copyi 7 7 (shP3 hp1) (shP3 hp0) tw_509 hg_7 (by decide) e_9 dX4_takeFrom_42 ?_
  refine go_aload_n rfl 1 rfl dX4_takeFrom_45 ?_
  refine h_getr 3 cl2 (shP hp1) (by decide) tw_115 (p1 + 4) (fvP3 hp1) dX4_takeFrom_46 ?_
  refine go_iconst kz_iconst_0 dX4_takeFrom_49 ?_
  refine go_aload_n rfl 0 rfl dX4_takeFrom_50 ?_
  refine h_getr 3 cl2 (shP hp0) (by decide) tw_115 (p0 + 4) (fvP3 hp0) dX4_takeFrom_51 ?_
  refine go_iconst kz_iconst_0 dX4_takeFrom_54 ?_
  refine go_bipush kz_bipush_7 dX4_takeFrom_55 ?_
  obtain ⟨hg_10, h⟩ := q_g h
  obtain ⟨ν_11, e_12, h⟩ := q_l h
  refine h_copyi 7 7 (shP4 hp1) (shP4 hp0) tw_509 hg_10 (by decide) e_12 dX4_takeFrom_57 ?_
  refine go_aload_n rfl 1 rfl dX4_takeFrom_60 ?_
  refine h_getr 4 cl2 (shP hp1) (by decide) tw_117 (p1 + 5) (fvP4 hp1) dX4_takeFrom_61 ?_
  refine go_iconst kz_iconst_0 dX4_takeFrom_64 ?_
  refine go_aload_n rfl 0 rfl dX4_takeFrom_65 ?_
  refine h_getr 4 cl2 (shP hp0) (by decide) tw_117 (p0 + 5) (fvP4 hp0) dX4_takeFrom_66 ?_
  refine go_iconst kz_iconst_0 dX4_takeFrom_69 ?_
  refine go_bipush kz_bipush_7 dX4_takeFrom_70 ?_
  obtain ⟨hg_13, h⟩ := q_g h
  obtain ⟨ν_14, e_15, h⟩ := q_l h
  refine h_copyi 7 7 (shP5 hp1) (shP5 hp0) tw_509 hg_13 (by decide) e_15 dX4_takeFrom_72 ?_
  refine go_aload_n rfl 1 rfl dX4_takeFrom_75 ?_
  refine h_getr 5 cl2 (shP hp1) (by decide) tw_120 (p1 + 6) (fvP5 hp1) dX4_takeFrom_76 ?_
  refine go_iconst kz_iconst_0 dX4_takeFrom_79 ?_
  refine go_aload_n rfl 0 rfl dX4_takeFrom_80 ?_
  refine h_getr 5 cl2 (shP hp0) (by decide) tw_120 (p0 + 6) (fvP5 hp0) dX4_takeFrom_81 ?_
  refine go_iconst kz_iconst_0 dX4_takeFrom_84 ?_
  refine go_bipush kz_bipush_7 dX4_takeFrom_85 ?_
  obtain ⟨hg_16, h⟩ := q_g h
  obtain ⟨ν_17, e_18, h⟩ := q_l h
  refine h_copyi 7 7 (shP6 hp1) (shP6 hp0) tw_509 hg_16 (by decide) e_18 dX4_takeFrom_87 ?_
  refine go_aload_n rfl 0 rfl dX4_takeFrom_90 ?_
  refine go_aload_n rfl 1 rfl dX4_takeFrom_91 ?_
  refine h_geti 6 cl2 (shP hp1) (by decide) tw_122 rfl dX4_takeFrom_92 ?_
  obtain ⟨ν_19, e_20, h⟩ := q_l h
  refine h_puti 6 cl2 (shP hp0) (by decide) tw_122 rfl rfl e_20 dX4_takeFrom_95 ?_
  refine go_aload_n rfl 0 rfl dX4_takeFrom_98 ?_
  refine go_aload_n rfl 1 rfl dX4_takeFrom_99 ?_
  refine h_getl 7 cl2 (shP hp1) (by decide) tw_126 rfl dX4_takeFrom_100 ?_
  obtain ⟨ν_21, e_22, h⟩ := q_l h
  refine h_putl 7 cl2 (shP hp0) (by decide) tw_126 rfl rfl e_22 dX4_takeFrom_103 ?_
  refine go_aload_n rfl 0 rfl dX4_takeFrom_106 ?_
  refine go_aload_n rfl 1 rfl dX4_takeFrom_107 ?_
  refine h_geti 8 cl2 (shP hp1) (by decide) tw_128 rfl dX4_takeFrom_108 ?_
  obtain ⟨ν_23, e_24, h⟩ := q_l h
  refine h_puti 8 cl2 (shP hp0) (by decide) tw_128 rfl rfl e_24 dX4_takeFrom_111 ?_
  refine go_aload_n rfl 0 rfl dX4_takeFrom_114 ?_
  refine go_aload_n rfl 1 rfl dX4_takeFrom_115 ?_
  refine h_geti 9 cl2 (shP hp1) (by decide) tw_132 rfl dX4_takeFrom_116 ?_
  obtain ⟨ν_25, e_26, h⟩ := q_l h
  refine h_puti 9 cl2 (shP hp0) (by decide) tw_132 rfl rfl e_26 dX4_takeFrom_119 ?_
  refine go_aload_n rfl 0 rfl dX4_takeFrom_122 ?_
  refine go_aload_n rfl 1 rfl dX4_takeFrom_123 ?_
  refine h_geti 10 cl2 (shP hp1) (by decide) tw_136 rfl dX4_takeFrom_124 ?_
  obtain ⟨ν_27, e_28, h⟩ := q_l h
  refine h_puti 10 cl2 (shP hp0) (by decide) tw_136 rfl rfl e_28 dX4_takeFrom_127 ?_
  refine go_aload_n rfl 0 rfl dX4_takeFrom_130 ?_
  refine go_aload_n rfl 1 rfl dX4_takeFrom_131 ?_
  refine h_geti 11 cl2 (shP hp1) (by decide) tw_139 rfl dX4_takeFrom_132 ?_
  obtain ⟨ν_29, e_30, h⟩ := q_l h
  refine h_puti 11 cl2 (shP hp0) (by decide) tw_139 rfl rfl e_30 dX4_takeFrom_135 ?_
  refine go_aload_n rfl 0 rfl dX4_takeFrom_138 ?_
  refine go_aload_n rfl 1 rfl dX4_takeFrom_139 ?_
  refine h_geti 12 cl2 (shP hp1) (by decide) tw_141 rfl dX4_takeFrom_140 ?_
  obtain ⟨ν_31, e_32, h⟩ := q_l h
  refine h_puti 12 cl2 (shP hp0) (by decide) tw_141 rfl rfl e_32 dX4_takeFrom_143 ?_
  exact h_vret h dX4_takeFrom_146 rfl
noncomputable def f_X5_isDigitNext  (ν : gN) : Option (Int32 × gN) :=
  if (ν.1 33 1) ≤ (ν.1 33 2) then
    some (0, ν)
  else
    if inb (ν.1 33 2) 160 = true then
      if (ν.1 34 (ν.1 33 2).toNatClampNeg) < 48 then
        some (0, ν)
      else
        if inb (ν.1 33 2) 160 = true then
          if 57 < (ν.1 34 (ν.1 33 2).toNatClampNeg) then
            some (0, ν)
          else
            some (1, ν)
        else none
    else none
theorem me_X5_isDigitNext : g_me yX5_isDigitNext cX5_isDigitNext 1 ((Option.some .boolean)) 0 := ⟨tw_610, tw_76, ⟨by decide +kernel, by decide +kernel, by decide +kernel⟩, by decide⟩
set_option maxRecDepth 20000 in
set_option maxHeartbeats 2000000 in
theorem m_X5_isDigitNext {X : gX} {ad : Nat → Nat}  {ν : gN} {r : Int32 × gN}  (h : f_X5_isDigitNext  ν = some r) : h_ct X ad yX5_isDigitNext cX5_isDigitNext 1 ((Option.some .boolean)) 1 [.ref (ad 33)] ν (some (.int r.1), r.2) := by
  rw [f_X5_isDigitNext] at h
  refine h_ct_of (l := [(0, .ref (ad 33))]) (by decide) (Nat.le_of_ble_eq_true rfl) rfl ?_
  refine go_aload_n rfl 0 rfl dX5_isDigitNext_0 ?_
  refine h_geti 2 cl3 rfl (by decide) tw_222 rfl dX5_isDigitNext_1 ?_
  refine go_aload_n rfl 0 rfl dX5_isDigitNext_4 ?_
  refine h_geti 1 cl3 rfl (by decide) tw_221 rfl dX5_isDigitNext_5 ?_
  refine go_icmp_ge (tgt := 43) dX5_isDigitNext_8 rfl (fun hc => ?_) (fun hc => ?_)
  · replace h := q_t h hc
    refine go_iconst kz_iconst_0 dX5_isDigitNext_43 ?_
    exact h_zret rfl h dX5_isDigitNext_44 rfl
  · replace h := q_f h hc
    refine go_aload_n rfl 0 rfl dX5_isDigitNext_11 ?_
    refine h_getr 0 cl3 rfl (by decide) tw_220 34 rfl dX5_isDigitNext_12 ?_
    refine go_aload_n rfl 0 rfl dX5_isDigitNext_15 ?_
    refine h_geti 2 cl3 rfl (by decide) tw_222 rfl dX5_isDigitNext_16 ?_
    obtain ⟨hg_1, h⟩ := q_g h
    refine h_iald 160 rfl hg_1 dX5_isDigitNext_19 ?_
    refine go_bipush kz_bipush_48 dX5_isDigitNext_20 ?_
    refine go_icmp_lt (tgt := 43) dX5_isDigitNext_22 rfl (fun hc => ?_) (fun hc => ?_)
    · replace h := q_t h hc
      refine go_iconst kz_iconst_0 dX5_isDigitNext_43 ?_
      exact h_zret rfl h dX5_isDigitNext_44 rfl
    · replace h := q_f h hc
      refine go_aload_n rfl 0 rfl dX5_isDigitNext_25 ?_
      refine h_getr 0 cl3 rfl (by decide) tw_220 34 rfl dX5_isDigitNext_26 ?_
      refine go_aload_n rfl 0 rfl dX5_isDigitNext_29 ?_
      refine h_geti 2 cl3 rfl (by decide) tw_222 rfl dX5_isDigitNext_30 ?_
      obtain ⟨hg_2, h⟩ := q_g h
      refine h_iald 160 rfl hg_2 dX5_isDigitNext_33 ?_
      refine go_bipush kz_bipush_57 dX5_isDigitNext_34 ?_
      refine go_icmp_gt (tgt := 43) dX5_isDigitNext_36 rfl (fun hc => ?_) (fun hc => ?_)
      · replace h := q_t h hc
        refine go_iconst kz_iconst_0 dX5_isDigitNext_43 ?_
        exact h_zret rfl h dX5_isDigitNext_44 rfl
      · replace h := q_f h hc
        refine go_iconst kz_iconst_1 dX5_isDigitNext_39 ?_
        refine go_goto (tgt := 44) dX5_isDigitNext_40 rfl ?_
        exact h_zret rfl h dX5_isDigitNext_44 rfl
noncomputable def f_X5_isSign (x1 : Int32) (x2 : Int32) (ν : gN) : Option (Int32 × gN) :=
  if (ν.1 33 1) ≤ x1 then
    some (0, ν)
  else
    if inb x1 160 = true then
      if (ν.1 34 x1.toNatClampNeg) = x2 then
        some (1, ν)
      else
        some (0, ν)
    else none
theorem me_X5_isSign : g_me yX5_isSign cX5_isSign 3 ((Option.some .boolean)) 2 := ⟨tw_590, tw_76, ⟨by decide +kernel, by decide +kernel, by decide +kernel⟩, by decide⟩
set_option maxRecDepth 20000 in
set_option maxHeartbeats 2000000 in
theorem m_X5_isSign {X : gX} {ad : Nat → Nat} {x1 : Int32} {x2 : Int32} {ν : gN} {r : Int32 × gN}  (h : f_X5_isSign x1 x2 ν = some r) : h_ct X ad yX5_isSign cX5_isSign 3 ((Option.some .boolean)) 1 [.ref (ad 33), .int x1, .int x2] ν (some (.int r.1), r.2) := by
  rw [f_X5_isSign] at h
  refine h_ct_of (l := [(0, .ref (ad 33)), (1, .int x1), (2, .int x2)]) (by decide) (Nat.le_of_ble_eq_true rfl) rfl ?_
  refine go_iload_n rfl 1 rfl dX5_isSign_0 ?_
  refine go_aload_n rfl 0 rfl dX5_isSign_1 ?_
  refine h_geti 1 cl3 rfl (by decide) tw_221 rfl dX5_isSign_2 ?_
  refine go_icmp_ge (tgt := 22) dX5_isSign_5 rfl (fun hc => ?_) (fun hc => ?_)
  · replace h := q_t h hc
    refine go_iconst kz_iconst_0 dX5_isSign_22 ?_
    exact h_zret rfl h dX5_isSign_23 rfl
  · replace h := q_f h hc
    refine go_aload_n rfl 0 rfl dX5_isSign_8 ?_
    refine h_getr 0 cl3 rfl (by decide) tw_220 34 rfl dX5_isSign_9 ?_
    refine go_iload_n rfl 1 rfl dX5_isSign_12 ?_
    obtain ⟨hg_1, h⟩ := q_g h
    refine h_iald 160 rfl hg_1 dX5_isSign_13 ?_
    refine go_iload_n rfl 2 rfl dX5_isSign_14 ?_
    refine go_icmp_ne (tgt := 22) dX5_isSign_15 rfl (fun hc => ?_) (fun hc => ?_)
    · replace h := q_f h hc
      refine go_iconst kz_iconst_0 dX5_isSign_22 ?_
      exact h_zret rfl h dX5_isSign_23 rfl
    · replace h := q_t h hc
      refine go_iconst kz_iconst_1 dX5_isSign_18 ?_
      refine go_goto (tgt := 23) dX5_isSign_19 rfl ?_
      exact h_zret rfl h dX5_isSign_23 rfl
noncomputable def f_X5_lettersAlike_L2 (y1 : Nat) (k36 : gN → Option (Int32 × gN)) : Nat → Int32 → gN → Option (Int32 × gN)
  | 0, _, _ => none
  | n + 1, y2, ν =>
    (f_J0_length_8abf5 y1 ν).bind (fun r_1 =>
      if r_1.1 ≤ y2 then
        k36  r_1.2
      else
        (f_J0_charAt_5068e y1 y2 r_1.2).bind (fun r_3 =>
          (f_X5_isSign ((r_1.2.1 33 2) + y2) r_3.1 r_3.2).bind (fun r_5 =>
            if r_5.1 = 0 then
              some (y2, r_5.2)
            else
              f_X5_lettersAlike_L2 y1 k36 n (y2 + 1) r_5.2)))
noncomputable def f_X5_lettersAlike (w1 : Nat) (ν : gN) : Option (Int32 × gN) :=
  f_X5_lettersAlike_L2 w1 (fun ν_7 =>
    (f_J0_length_8abf5 w1 ν_7).bind (fun r_8 =>
      some (r_8.1, r_8.2))) FU 0 ν
theorem me_X5_lettersAlike : g_me yX5_lettersAlike cX5_lettersAlike 3 ((Option.some .int)) 1 := ⟨tw_538, tw_76, ⟨by decide +kernel, by decide +kernel, by decide +kernel⟩, by decide⟩
set_option maxRecDepth 20000 in
set_option maxHeartbeats 2000000 in
theorem m_X5_lettersAlike_L2 {X : gX} {ad : Nat → Nat} {y1 : Nat} {k36 : gN → Option (Int32 × gN)} (hy1 : y1 < 7) : ∀ (n : Nat) (y2 : Int32) (ν : gN) (r : Int32 × gN), f_X5_lettersAlike_L2 y1 k36 n y2 ν = some r → (∀ (ν1 : gN), k36 ν1 = some r → h_go X ad RX5 "lettersAlike" cX5_lettersAlike 3 ((Option.some .int)) 5 (some (.int r.1), r.2) 36 [(1, .ref (X.2.2.2.1 (10 + y1)))] [] ν1) → h_go X ad RX5 "lettersAlike" cX5_lettersAlike 3 ((Option.some .int)) 5 (some (.int r.1), r.2) 2 [(0, .ref (ad 33)), (1, .ref (X.2.2.2.1 (10 + y1))), (2, .int y2)] [] ν := by
  intro n
  induction n with
  | zero => intro y2 ν r h hk36; rw [f_X5_lettersAlike_L2] at h; exact q_n h
  | succ n ih =>
    intro y2 ν r h hk36
    rw [f_X5_lettersAlike_L2] at h
    refine go_iload_n rfl 2 rfl dX5_lettersAlike_2 ?_
    refine go_aload_n rfl 1 rfl dX5_lettersAlike_3 ?_
    obtain ⟨r_1, h_2, h⟩ := q_b h
    refine h_callVi (st := [.int y2]) [] (m_J0_length_8abf5 hy1 h_2) me_J0_length_8abf5 (g_recvS hy1) tw_539 tw_540 tw_541 (hdd_of (by decide)) ⟨Nat.zero_le _, Nat.zero_le _⟩ rfl rfl (Nat.le_of_ble_eq_true rfl) dX5_lettersAlike_4 ?_
    refine go_icmp_ge (tgt := 36) dX5_lettersAlike_7 rfl (fun hc => ?_) (fun hc => ?_)
    · replace h := q_t h hc
      refine go_sub (l' := [(1, .ref (X.2.2.2.1 (10 + y1)))]) [1] rfl ?_
      exact hk36  _ h
    · replace h := q_f h hc
      refine go_aload_n rfl 0 rfl dX5_lettersAlike_10 ?_
      refine go_aload_n rfl 0 rfl dX5_lettersAlike_11 ?_
      refine h_geti 2 cl3 rfl (by decide) tw_222 rfl dX5_lettersAlike_12 ?_
      refine go_iload_n rfl 2 rfl dX5_lettersAlike_15 ?_
      refine go_iadd dX5_lettersAlike_16 ?_
      refine go_aload_n rfl 1 rfl dX5_lettersAlike_17 ?_
      refine go_iload_n rfl 2 rfl dX5_lettersAlike_18 ?_
      obtain ⟨r_3, h_4, h⟩ := q_b h
      refine h_callVi (st := [.int ((r_1.2.1 33 2) + y2), .ref (ad 33)]) [.int y2] (m_J0_charAt_5068e hy1 h_4) me_J0_charAt_5068e (g_recvS hy1) tw_549 tw_550 tw_551 (hdd_of (by decide)) ⟨Nat.zero_le _, Nat.zero_le _⟩ rfl rfl (Nat.le_of_ble_eq_true rfl) dX5_lettersAlike_19 ?_
      obtain ⟨r_5, h_6, h⟩ := q_b h
      refine h_callVi (st := []) [.int ((r_1.2.1 33 2) + y2), .int r_3.1] (m_X5_isSign h_6) me_X5_isSign (g_recv cl3.1 rfl) tw_587 tw_589 tw_6 (hdd_of (by decide)) ⟨Nat.zero_le _, Nat.zero_le _⟩ rfl rfl (Nat.le_of_ble_eq_true rfl) dX5_lettersAlike_22 ?_
      refine go_if_ne (tgt := 30) dX5_lettersAlike_25 rfl (fun hc => ?_) (fun hc => ?_)
      · replace h := q_f h hc
        refine h_iinc (l' := [(2, .int (y2 + 1)), (0, .ref (ad 33)), (1, .ref (X.2.2.2.1 (10 + y1)))]) dX5_lettersAlike_30 2 rfl kz_iconst_1 (by decide) rfl ?_
        refine go_goto (tgt := 2) dX5_lettersAlike_33 rfl ?_
        refine go_sub (l' := [(0, .ref (ad 33)), (1, .ref (X.2.2.2.1 (10 + y1))), (2, .int (y2 + 1))]) [1, 2, 0] rfl ?_
        exact ih _ _ _ h hk36
      · replace h := q_t h hc
        refine go_iload_n rfl 2 rfl dX5_lettersAlike_28 ?_
        exact h_iret h dX5_lettersAlike_29 rfl
set_option maxRecDepth 20000 in
set_option maxHeartbeats 2000000 in
theorem m_X5_lettersAlike {X : gX} {ad : Nat → Nat} {w1 : Nat} {ν : gN} {r : Int32 × gN} (hw1 : w1 < 7) (h : f_X5_lettersAlike w1 ν = some r) : h_ct X ad yX5_lettersAlike cX5_lettersAlike 3 ((Option.some .int)) 5 [.ref (ad 33), .ref (X.2.2.2.1 (10 + w1))] ν (some (.int r.1), r.2) := by
  rw [f_X5_lettersAlike] at h
  refine h_ct_of (l := [(0, .ref (ad 33)), (1, .ref (X.2.2.2.1 (10 + w1)))]) (by decide) (Nat.le_of_ble_eq_true rfl) rfl ?_
  refine go_iconst kz_iconst_0 dX5_lettersAlike_0 ?_
  refine go_istore_n (l' := [(2, .int 0), (0, .ref (ad 33)), (1, .ref (X.2.2.2.1 (10 + w1)))]) dX5_lettersAlike_1 rfl (by decide) rfl ?_
  refine go_sub (l' := [(0, .ref (ad 33)), (1, .ref (X.2.2.2.1 (10 + w1))), (2, .int 0)]) [1, 2, 0] rfl ?_
  refine m_X5_lettersAlike_L2 hw1 FU _ _ _ h (fun ν_7 h => ?_)
  refine go_aload_n rfl 0 rfl dX5_lettersAlike_36 ?_
  obtain ⟨r_8, h_9, h⟩ := q_b h
  refine h_callVi (st := []) [] (m_J0_length_8abf5 hw1 h_9) me_J0_length_8abf5 (g_recvS hw1) tw_539 tw_540 tw_541 (hdd_of (by decide)) ⟨Nat.zero_le _, Nat.zero_le _⟩ rfl rfl (Nat.le_of_ble_eq_true rfl) dX5_lettersAlike_37 ?_
  exact h_iret h dX5_lettersAlike_40 rfl
noncomputable def f_X5_lettersOf (x0 : Int32) (ν : gN) : Option (Nat × gN) :=
  if x0 = 0 then
    some (0, ν)
  else
  if x0 = 1 then
    some (1, ν)
  else
  if x0 = 2 then
    some (2, ν)
  else
  if x0 = 3 then
    some (3, ν)
  else
  some (4, ν)
theorem me_X5_lettersOf : g_me yX5_lettersOf cX5_lettersOf 1 ((Option.some (.object RJ0))) 1 := ⟨tw_529, tw_76, ⟨by decide +kernel, by decide +kernel, by decide +kernel⟩, by decide⟩
set_option maxRecDepth 20000 in
set_option maxHeartbeats 2000000 in
theorem m_X5_lettersOf {X : gX} {ad : Nat → Nat} {x0 : Int32} {ν : gN} {r : Nat × gN}  (h : f_X5_lettersOf x0 ν = some r) : h_ct X ad yX5_lettersOf cX5_lettersOf 1 ((Option.some (.object RJ0))) 1 [.int x0] ν (some (.ref (X.2.2.2.1 (10 + r.1))), r.2) := by
  rw [f_X5_lettersOf] at h
  refine h_ct_of (l := [(0, .int x0)]) (by decide) (Nat.le_of_ble_eq_true rfl) rfl ?_
  refine go_iload_n rfl 0 rfl dX5_lettersOf_0 ?_
  by_cases hk_1 : x0 = 0
  · replace h := q_t h hk_1
    refine h_tbT (tgt := 32) (off := 31) hk_1 dX5_lettersOf_1 (by decide) (by decide) rfl rfl ?_
    refine h_ldcSRX5106 dX5_lettersOf_32 ?_
    exact h_sret h dX5_lettersOf_34 rfl
  replace h := q_f h hk_1
  by_cases hk_2 : x0 = 1
  · replace h := q_t h hk_2
    refine h_tbT (tgt := 35) (off := 34) hk_2 dX5_lettersOf_1 (by decide) (by decide) rfl rfl ?_
    refine h_ldcSRX5108 dX5_lettersOf_35 ?_
    exact h_sret h dX5_lettersOf_37 rfl
  replace h := q_f h hk_2
  by_cases hk_3 : x0 = 2
  · replace h := q_t h hk_3
    refine h_tbT (tgt := 38) (off := 37) hk_3 dX5_lettersOf_1 (by decide) (by decide) rfl rfl ?_
    refine h_ldcSRX5110 dX5_lettersOf_38 ?_
    exact h_sret h dX5_lettersOf_40 rfl
  replace h := q_f h hk_3
  by_cases hk_4 : x0 = 3
  · replace h := q_t h hk_4
    refine h_tbT (tgt := 41) (off := 40) hk_4 dX5_lettersOf_1 (by decide) (by decide) rfl rfl ?_
    refine h_ldcSRX5112 dX5_lettersOf_41 ?_
    exact h_sret h dX5_lettersOf_43 rfl
  replace h := q_f h hk_4
  have hk_1 := h_nT hk_1 (a := 0) (by decide)
  have hk_2 := h_nT hk_2 (a := 1) (by decide)
  have hk_3 := h_nT hk_3 (a := 2) (by decide)
  have hk_4 := h_nT hk_4 (a := 3) (by decide)
  refine go_tableOut (tgt := 44) dX5_lettersOf_1 (by omega) rfl ?_
  refine h_ldcSRX5113 dX5_lettersOf_44 ?_
  exact h_sret h dX5_lettersOf_46 rfl
noncomputable def f_X5_readSign (x1 : Int32) (ν : gN) : Option (gN) :=
  (f_X5_isSign (ν.1 33 2) x1 ν).bind (fun r_1 =>
    if r_1.1 = 0 then
      qL (nWI r_1.2 33 4 (r_1.2.1 33 2)) (fun ν_3 =>
        some ν_3)
    else
      qL (nWI r_1.2 33 2 ((r_1.2.1 33 2) + 1)) (fun ν_5 =>
        some ν_5))
theorem me_X5_readSign : g_me yX5_readSign cX5_readSign 2 (none) 1 := ⟨tw_606, tw_76, ⟨by decide +kernel, by decide +kernel, by decide +kernel⟩, by decide⟩
set_option maxRecDepth 20000 in
set_option maxHeartbeats 2000000 in
theorem m_X5_readSign {X : gX} {ad : Nat → Nat} {x1 : Int32} {ν : gN} {r : gN}  (h : f_X5_readSign x1 ν = some r) : h_ct X ad yX5_readSign cX5_readSign 2 (none) 2 [.ref (ad 33), .int x1] ν (none, r) := by
  rw [f_X5_readSign] at h
  refine h_ct_of (l := [(0, .ref (ad 33)), (1, .int x1)]) (by decide) (Nat.le_of_ble_eq_true rfl) rfl ?_
  refine go_aload_n rfl 0 rfl dX5_readSign_0 ?_
  refine go_aload_n rfl 0 rfl dX5_readSign_1 ?_
  refine h_geti 2 cl3 rfl (by decide) tw_222 rfl dX5_readSign_2 ?_
  refine go_iload_n rfl 1 rfl dX5_readSign_5 ?_
  obtain ⟨r_1, h_2, h⟩ := q_b h
  refine h_callVi (st := []) [.int (ν.1 33 2), .int x1] (m_X5_isSign h_2) me_X5_isSign (g_recv cl3.1 rfl) tw_587 tw_589 tw_6 (hdd_of (by decide)) ⟨Nat.zero_le _, Nat.zero_le _⟩ rfl rfl (Nat.le_of_ble_eq_true rfl) dX5_readSign_6 ?_
  refine go_if_eq (tgt := 25) dX5_readSign_9 rfl (fun hc => ?_) (fun hc => ?_)
  · replace h := q_t h hc
    refine go_aload_n rfl 0 rfl dX5_readSign_25 ?_
    refine go_aload_n rfl 0 rfl dX5_readSign_26 ?_
    refine h_geti 2 cl3 rfl (by decide) tw_222 rfl dX5_readSign_27 ?_
    obtain ⟨ν_3, e_4, h⟩ := q_l h
    refine h_puti 4 cl3 rfl (by decide) tw_224 rfl rfl e_4 dX5_readSign_30 ?_
    exact h_vret h dX5_readSign_33 rfl
  · replace h := q_f h hc
    refine go_aload_n rfl 0 rfl dX5_readSign_12 ?_
    refine go_dup rfl dX5_readSign_13 ?_
    refine h_geti 2 cl3 rfl (by decide) tw_222 rfl dX5_readSign_14 ?_
    refine go_iconst kz_iconst_1 dX5_readSign_17 ?_
    refine go_iadd dX5_readSign_18 ?_
    obtain ⟨ν_5, e_6, h⟩ := q_l h
    refine h_puti 2 cl3 rfl (by decide) tw_222 rfl rfl e_6 dX5_readSign_19 ?_
    refine go_goto (tgt := 33) dX5_readSign_22 rfl ?_
    exact h_vret h dX5_readSign_33 rfl
noncomputable def f_X5_readNumber_L37 (y1 : Int32) (y2 : Int32) (k84 : Int32 → gN → Option (Int32 × gN)) : Nat → Int32 → Int32 → gN → Option (Int32 × gN)
  | 0, _, _, _ => none
  | n + 1, y3, y4, ν =>
    if 2 ≤ y4 then
      k84 y3 ν
    else
      (f_X5_isDigitNext  ν).bind (fun r_3 =>
        if r_3.1 = 0 then
          k84 y3 r_3.2
        else
          if inb (r_3.2.1 33 2) 160 = true then
            qL (nWI r_3.2 33 2 ((r_3.2.1 33 2) + 1)) (fun ν_6 =>
              f_X5_readNumber_L37 y1 y2 k84 n (((10 * y3) + (r_3.2.1 34 (r_3.2.1 33 2).toNatClampNeg)) - 48) (y4 + 1) ν_6)
          else none)
noncomputable def f_X5_readNumber (x1 : Int32) (x2 : Int32) (ν : gN) : Option (Int32 × gN) :=
  if (ν.1 33 4) = (-1) then
    (f_X5_readSign 32 ν).bind (fun r_16 =>
      if (r_16.1 33 4) = (-1) then
        qL (nWI r_16 33 3 (r_16.1 33 2)) (fun ν_18 =>
          f_X5_readNumber_L37 x1 x2 (fun z3_20 ν_21 =>
            if (ν_21.1 33 2) = (ν_21.1 33 3) then
              qL (nWI ν_21 33 4 (ν_21.1 33 3)) (fun ν_22 =>
                some (z3_20, ν_22))
            else
              if z3_20 < x1 then
                qL (nWI ν_21 33 4 (ν_21.1 33 3)) (fun ν_24 =>
                  some (z3_20, ν_24))
              else
                if z3_20 ≤ x2 then
                  some (z3_20, ν_21)
                else
                  qL (nWI ν_21 33 4 (ν_21.1 33 3)) (fun ν_26 =>
                    some (z3_20, ν_26))) FU 0 0 ν_18)
      else
        some (0, r_16))
  else
    if (ν.1 33 4) = (-1) then
      qL (nWI ν 33 3 (ν.1 33 2)) (fun ν_1 =>
        f_X5_readNumber_L37 x1 x2 (fun z3_8 ν_9 =>
          if (ν_9.1 33 2) = (ν_9.1 33 3) then
            qL (nWI ν_9 33 4 (ν_9.1 33 3)) (fun ν_10 =>
              some (z3_8, ν_10))
          else
            if z3_8 < x1 then
              qL (nWI ν_9 33 4 (ν_9.1 33 3)) (fun ν_12 =>
                some (z3_8, ν_12))
            else
              if z3_8 ≤ x2 then
                some (z3_8, ν_9)
              else
                qL (nWI ν_9 33 4 (ν_9.1 33 3)) (fun ν_14 =>
                  some (z3_8, ν_14))) FU 0 0 ν_1)
    else
      some (0, ν)
theorem me_X5_readNumber : g_me yX5_readNumber cX5_readNumber 5 ((Option.some .int)) 2 := ⟨tw_602, tw_76, ⟨by decide +kernel, by decide +kernel, by decide +kernel⟩, by decide⟩
set_option maxRecDepth 20000 in
set_option maxHeartbeats 2000000 in
theorem m_X5_readNumber_L37 {X : gX} {ad : Nat → Nat} {y1 : Int32} {y2 : Int32} {k84 : Int32 → gN → Option (Int32 × gN)}  : ∀ (n : Nat) (y3 : Int32) (y4 : Int32) (ν : gN) (r : Int32 × gN), f_X5_readNumber_L37 y1 y2 k84 n y3 y4 ν = some r → (∀ (z3 : Int32) (ν1 : gN), k84 z3 ν1 = some r → h_go X ad RX5 "readNumber" cX5_readNumber 5 ((Option.some .int)) 3 (some (.int r.1), r.2) 84 [(0, .ref (ad 33)), (1, .int y1), (2, .int y2), (3, .int z3)] [] ν1) → h_go X ad RX5 "readNumber" cX5_readNumber 5 ((Option.some .int)) 3 (some (.int r.1), r.2) 37 [(0, .ref (ad 33)), (1, .int y1), (2, .int y2), (3, .int y3), (4, .int y4)] [] ν := by
  intro n
  induction n with
  | zero => intro y3 y4 ν r h hk84; rw [f_X5_readNumber_L37] at h; exact q_n h
  | succ n ih =>
    intro y3 y4 ν r h hk84
    rw [f_X5_readNumber_L37] at h
    refine go_iload 4 rfl dX5_readNumber_37 ?_
    refine go_iconst kz_iconst_2 dX5_readNumber_39 ?_
    refine go_icmp_ge (tgt := 84) dX5_readNumber_40 rfl (fun hc => ?_) (fun hc => ?_)
    · replace h := q_t h hc
      refine go_sub (l' := [(0, .ref (ad 33)), (1, .int y1), (2, .int y2), (3, .int y3)]) [0, 1, 2, 3] rfl ?_
      exact hk84 _ _ h
    · replace h := q_f h hc
      refine go_aload_n rfl 0 rfl dX5_readNumber_43 ?_
      obtain ⟨r_3, h_4, h⟩ := q_b h
      refine h_callVi (st := []) [] (m_X5_isDigitNext h_4) me_X5_isDigitNext (g_recv cl3.1 rfl) tw_607 tw_609 tw_10 (hdd_of (by decide)) ⟨Nat.zero_le _, Nat.zero_le _⟩ rfl rfl (Nat.le_of_ble_eq_true rfl) dX5_readNumber_44 ?_
      refine go_if_eq (tgt := 84) dX5_readNumber_47 rfl (fun hc => ?_) (fun hc => ?_)
      · replace h := q_t h hc
        refine go_sub (l' := [(0, .ref (ad 33)), (1, .int y1), (2, .int y2), (3, .int y3)]) [0, 1, 2, 3] rfl ?_
        exact hk84 _ _ h
      · replace h := q_f h hc
        refine go_bipush kz_bipush_10 dX5_readNumber_50 ?_
        refine go_iload_n rfl 3 rfl dX5_readNumber_52 ?_
        refine go_imul dX5_readNumber_53 ?_
        refine go_aload_n rfl 0 rfl dX5_readNumber_54 ?_
        refine h_getr 0 cl3 rfl (by decide) tw_220 34 rfl dX5_readNumber_55 ?_
        refine go_aload_n rfl 0 rfl dX5_readNumber_58 ?_
        refine h_geti 2 cl3 rfl (by decide) tw_222 rfl dX5_readNumber_59 ?_
        obtain ⟨hg_5, h⟩ := q_g h
        refine h_iald 160 rfl hg_5 dX5_readNumber_62 ?_
        refine go_iadd dX5_readNumber_63 ?_
        refine go_bipush kz_bipush_48 dX5_readNumber_64 ?_
        refine go_isub dX5_readNumber_66 ?_
        refine go_istore_n (l' := [(3, .int (((10 * y3) + (r_3.2.1 34 (r_3.2.1 33 2).toNatClampNeg)) - 48)), (0, .ref (ad 33)), (1, .int y1), (2, .int y2), (4, .int y4)]) dX5_readNumber_67 rfl (by decide) rfl ?_
        refine go_aload_n rfl 1 rfl dX5_readNumber_68 ?_
        refine go_dup rfl dX5_readNumber_69 ?_
        refine h_geti 2 cl3 rfl (by decide) tw_222 rfl dX5_readNumber_70 ?_
        refine go_iconst kz_iconst_1 dX5_readNumber_73 ?_
        refine go_iadd dX5_readNumber_74 ?_
        obtain ⟨ν_6, e_7, h⟩ := q_l h
        refine h_puti 2 cl3 rfl (by decide) tw_222 rfl rfl e_7 dX5_readNumber_75 ?_
        refine h_iinc (l' := [(4, .int (y4 + 1)), (3, .int (((10 * y3) + (r_3.2.1 34 (r_3.2.1 33 2).toNatClampNeg)) - 48)), (0, .ref (ad 33)), (1, .int y1), (2, .int y2)]) dX5_readNumber_78 4 rfl kz_iconst_1 (by decide) rfl ?_
        refine go_goto (tgt := 37) dX5_readNumber_81 rfl ?_
        refine go_sub (l' := [(0, .ref (ad 33)), (1, .int y1), (2, .int y2), (3, .int (((10 * y3) + (r_3.2.1 34 (r_3.2.1 33 2).toNatClampNeg)) - 48)), (4, .int (y4 + 1))]) [2, 3, 4, 1, 0] rfl ?_
        exact ih _ _ _ _ h hk84
set_option maxRecDepth 20000 in
set_option maxHeartbeats 2000000 in
theorem m_X5_readNumber {X : gX} {ad : Nat → Nat} {x1 : Int32} {x2 : Int32} {ν : gN} {r : Int32 × gN}  (h : f_X5_readNumber x1 x2 ν = some r) : h_ct X ad yX5_readNumber cX5_readNumber 5 ((Option.some .int)) 3 [.ref (ad 33), .int x1, .int x2] ν (some (.int r.1), r.2) := by
  rw [f_X5_readNumber] at h
  refine h_ct_of (l := [(0, .ref (ad 33)), (1, .int x1), (2, .int x2)]) (by decide) (Nat.le_of_ble_eq_true rfl) rfl ?_
  refine go_aload_n rfl 0 rfl dX5_readNumber_0 ?_
  refine h_geti 4 cl3 rfl (by decide) tw_224 rfl dX5_readNumber_1 ?_
  refine go_iconst kz_iconst_m1 dX5_readNumber_4 ?_
  refine go_icmp_ne (tgt := 14) dX5_readNumber_5 rfl (fun hc => ?_) (fun hc => ?_)
  · replace h := q_f h hc
    refine go_aload_n rfl 0 rfl dX5_readNumber_14 ?_
    refine h_geti 4 cl3 rfl (by decide) tw_224 rfl dX5_readNumber_15 ?_
    refine go_iconst kz_iconst_m1 dX5_readNumber_18 ?_
    refine go_icmp_eq (tgt := 24) dX5_readNumber_19 rfl (fun hc => ?_) (fun hc => ?_)
    · replace h := q_t h hc
      refine go_aload_n rfl 0 rfl dX5_readNumber_24 ?_
      refine go_aload_n rfl 0 rfl dX5_readNumber_25 ?_
      refine h_geti 2 cl3 rfl (by decide) tw_222 rfl dX5_readNumber_26 ?_
      obtain ⟨ν_1, e_2, h⟩ := q_l h
      refine h_puti 3 cl3 rfl (by decide) tw_223 rfl rfl e_2 dX5_readNumber_29 ?_
      refine go_iconst kz_iconst_0 dX5_readNumber_32 ?_
      refine go_istore_n (l' := [(3, .int 0), (0, .ref (ad 33)), (1, .int x1), (2, .int x2)]) dX5_readNumber_33 rfl (by decide) rfl ?_
      refine go_iconst kz_iconst_0 dX5_readNumber_34 ?_
      refine go_istore (l' := [(4, .int 0), (3, .int 0), (0, .ref (ad 33)), (1, .int x1), (2, .int x2)]) dX5_readNumber_35 (by decide) rfl ?_
      refine go_sub (l' := [(0, .ref (ad 33)), (1, .int x1), (2, .int x2), (3, .int 0), (4, .int 0)]) [2, 3, 4, 1, 0] rfl ?_
      refine m_X5_readNumber_L37  FU _ _ _ _ h (fun z3_8 ν_9 h => ?_)
      refine go_aload_n rfl 0 rfl dX5_readNumber_84 ?_
      refine h_geti 2 cl3 rfl (by decide) tw_222 rfl dX5_readNumber_85 ?_
      refine go_aload_n rfl 0 rfl dX5_readNumber_88 ?_
      refine h_geti 3 cl3 rfl (by decide) tw_223 rfl dX5_readNumber_89 ?_
      refine go_icmp_eq (tgt := 105) dX5_readNumber_92 rfl (fun hc => ?_) (fun hc => ?_)
      · replace h := q_t h hc
        refine go_aload_n rfl 0 rfl dX5_readNumber_105 ?_
        refine go_aload_n rfl 0 rfl dX5_readNumber_106 ?_
        refine h_geti 3 cl3 rfl (by decide) tw_223 rfl dX5_readNumber_107 ?_
        obtain ⟨ν_10, e_11, h⟩ := q_l h
        refine h_puti 4 cl3 rfl (by decide) tw_224 rfl rfl e_11 dX5_readNumber_110 ?_
        refine go_iload_n rfl 3 rfl dX5_readNumber_113 ?_
        exact h_iret h dX5_readNumber_114 rfl
      · replace h := q_f h hc
        refine go_iload_n rfl 3 rfl dX5_readNumber_95 ?_
        refine go_iload_n rfl 1 rfl dX5_readNumber_96 ?_
        refine go_icmp_lt (tgt := 105) dX5_readNumber_97 rfl (fun hc => ?_) (fun hc => ?_)
        · replace h := q_t h hc
          refine go_aload_n rfl 0 rfl dX5_readNumber_105 ?_
          refine go_aload_n rfl 0 rfl dX5_readNumber_106 ?_
          refine h_geti 3 cl3 rfl (by decide) tw_223 rfl dX5_readNumber_107 ?_
          obtain ⟨ν_12, e_13, h⟩ := q_l h
          refine h_puti 4 cl3 rfl (by decide) tw_224 rfl rfl e_13 dX5_readNumber_110 ?_
          refine go_iload_n rfl 3 rfl dX5_readNumber_113 ?_
          exact h_iret h dX5_readNumber_114 rfl
        · replace h := q_f h hc
          refine go_iload_n rfl 3 rfl dX5_readNumber_100 ?_
          refine go_iload_n rfl 2 rfl dX5_readNumber_101 ?_
          refine go_icmp_le (tgt := 113) dX5_readNumber_102 rfl (fun hc => ?_) (fun hc => ?_)
          · replace h := q_t h hc
            refine go_iload_n rfl 3 rfl dX5_readNumber_113 ?_
            exact h_iret h dX5_readNumber_114 rfl
          · replace h := q_f h hc
            refine go_aload_n rfl 0 rfl dX5_readNumber_105 ?_
            refine go_aload_n rfl 0 rfl dX5_readNumber_106 ?_
            refine h_geti 3 cl3 rfl (by decide) tw_223 rfl dX5_readNumber_107 ?_
            obtain ⟨ν_14, e_15, h⟩ := q_l h
            refine h_puti 4 cl3 rfl (by decide) tw_224 rfl rfl e_15 dX5_readNumber_110 ?_
            refine go_iload_n rfl 3 rfl dX5_readNumber_113 ?_
            exact h_iret h dX5_readNumber_114 rfl
    · replace h := q_f h hc
      refine go_iconst kz_iconst_0 dX5_readNumber_22 ?_
      exact h_iret h dX5_readNumber_23 rfl
  · replace h := q_t h hc
    refine go_aload_n rfl 0 rfl dX5_readNumber_8 ?_
    refine go_bipush kz_bipush_32 dX5_readNumber_9 ?_
    obtain ⟨r_16, h_17, h⟩ := q_b h
    refine h_callVv (st := []) [.int 32] (m_X5_readSign h_17) me_X5_readSign (g_recv cl3.1 rfl) tw_603 tw_605 tw_9 (hdd_of (by decide)) ⟨Nat.zero_le _, Nat.zero_le _⟩ rfl rfl (Nat.le_of_ble_eq_true rfl) dX5_readNumber_11 ?_
    refine go_aload_n rfl 0 rfl dX5_readNumber_14 ?_
    refine h_geti 4 cl3 rfl (by decide) tw_224 rfl dX5_readNumber_15 ?_
    refine go_iconst kz_iconst_m1 dX5_readNumber_18 ?_
    refine go_icmp_eq (tgt := 24) dX5_readNumber_19 rfl (fun hc => ?_) (fun hc => ?_)
    · replace h := q_t h hc
      refine go_aload_n rfl 0 rfl dX5_readNumber_24 ?_
      refine go_aload_n rfl 0 rfl dX5_readNumber_25 ?_
      refine h_geti 2 cl3 rfl (by decide) tw_222 rfl dX5_readNumber_26 ?_
      obtain ⟨ν_18, e_19, h⟩ := q_l h
      refine h_puti 3 cl3 rfl (by decide) tw_223 rfl rfl e_19 dX5_readNumber_29 ?_
      refine go_iconst kz_iconst_0 dX5_readNumber_32 ?_
      refine go_istore_n (l' := [(3, .int 0), (0, .ref (ad 33)), (1, .int x1), (2, .int x2)]) dX5_readNumber_33 rfl (by decide) rfl ?_
      refine go_iconst kz_iconst_0 dX5_readNumber_34 ?_
      refine go_istore (l' := [(4, .int 0), (3, .int 0), (0, .ref (ad 33)), (1, .int x1), (2, .int x2)]) dX5_readNumber_35 (by decide) rfl ?_
      refine go_sub (l' := [(0, .ref (ad 33)), (1, .int x1), (2, .int x2), (3, .int 0), (4, .int 0)]) [2, 3, 4, 1, 0] rfl ?_
      refine m_X5_readNumber_L37  FU _ _ _ _ h (fun z3_20 ν_21 h => ?_)
      refine go_aload_n rfl 0 rfl dX5_readNumber_84 ?_
      refine h_geti 2 cl3 rfl (by decide) tw_222 rfl dX5_readNumber_85 ?_
      refine go_aload_n rfl 0 rfl dX5_readNumber_88 ?_
      refine h_geti 3 cl3 rfl (by decide) tw_223 rfl dX5_readNumber_89 ?_
      refine go_icmp_eq (tgt := 105) dX5_readNumber_92 rfl (fun hc => ?_) (fun hc => ?_)
      · replace h := q_t h hc
        refine go_aload_n rfl 0 rfl dX5_readNumber_105 ?_
        refine go_aload_n rfl 0 rfl dX5_readNumber_106 ?_
        refine h_geti 3 cl3 rfl (by decide) tw_223 rfl dX5_readNumber_107 ?_
        obtain ⟨ν_22, e_23, h⟩ := q_l h
        refine h_puti 4 cl3 rfl (by decide) tw_224 rfl rfl e_23 dX5_readNumber_110 ?_
        refine go_iload_n rfl 3 rfl dX5_readNumber_113 ?_
        exact h_iret h dX5_readNumber_114 rfl
      · replace h := q_f h hc
        refine go_iload_n rfl 3 rfl dX5_readNumber_95 ?_
        refine go_iload_n rfl 1 rfl dX5_readNumber_96 ?_
        refine go_icmp_lt (tgt := 105) dX5_readNumber_97 rfl (fun hc => ?_) (fun hc => ?_)
        · replace h := q_t h hc
          refine go_aload_n rfl 0 rfl dX5_readNumber_105 ?_
          refine go_aload_n rfl 0 rfl dX5_readNumber_106 ?_
          refine h_geti 3 cl3 rfl (by decide) tw_223 rfl dX5_readNumber_107 ?_
          obtain ⟨ν_24, e_25, h⟩ := q_l h
          refine h_puti 4 cl3 rfl (by decide) tw_224 rfl rfl e_25 dX5_readNumber_110 ?_
          refine go_iload_n rfl 3 rfl dX5_readNumber_113 ?_
          exact h_iret h dX5_readNumber_114 rfl
        · replace h := q_f h hc
          refine go_iload_n rfl 3 rfl dX5_readNumber_100 ?_
          refine go_iload_n rfl 2 rfl dX5_readNumber_101 ?_
          refine go_icmp_le (tgt := 113) dX5_readNumber_102 rfl (fun hc => ?_) (fun hc => ?_)
          · replace h := q_t h hc
            refine go_iload_n rfl 3 rfl dX5_readNumber_113 ?_
            exact h_iret h dX5_readNumber_114 rfl
          · replace h := q_f h hc
            refine go_aload_n rfl 0 rfl dX5_readNumber_105 ?_
            refine go_aload_n rfl 0 rfl dX5_readNumber_106 ?_
            refine h_geti 3 cl3 rfl (by decide) tw_223 rfl dX5_readNumber_107 ?_
            obtain ⟨ν_26, e_27, h⟩ := q_l h
            refine h_puti 4 cl3 rfl (by decide) tw_224 rfl rfl e_27 dX5_readNumber_110 ?_
            refine go_iload_n rfl 3 rfl dX5_readNumber_113 ?_
            exact h_iret h dX5_readNumber_114 rfl
    · replace h := q_f h hc
      refine go_iconst kz_iconst_0 dX5_readNumber_22 ?_
      exact h_iret h dX5_readNumber_23 rfl
noncomputable def f_X5_readFence (p1 : Nat) (ν : gN) : Option (gN) :=
  (f_X5_readNumber 0 48 ν).bind (fun r_1 =>
    if (r_1.2.1 33 4) = (-1) then
      (f_X4_mayBeFenced p1 r_1.1 r_1.2).bind (fun r_5 =>
        if r_5.1 = 0 then
          qL (nWI r_5.2 33 4 (r_5.2.1 33 3)) (fun ν_9 =>
            if (ν_9.1 33 4) = (-1) then
              (f_X4_putFence p1 r_1.1 1 ν_9).bind (fun r_11 =>
                some r_11)
            else
              some ν_9)
        else
          if (r_5.2.1 33 4) = (-1) then
            (f_X4_putFence p1 r_1.1 1 r_5.2).bind (fun r_7 =>
              some r_7)
          else
            some r_5.2)
    else
      if (r_1.2.1 33 4) = (-1) then
        (f_X4_putFence p1 r_1.1 1 r_1.2).bind (fun r_3 =>
          some r_3)
      else
        some r_1.2)
theorem me_X5_readFence : g_me yX5_readFence cX5_readFence 3 (none) 1 := ⟨tw_598, tw_76, ⟨by decide +kernel, by decide +kernel, by decide +kernel⟩, by decide⟩
set_option maxRecDepth 20000 in
set_option maxHeartbeats 2000000 in
theorem m_X5_readFence {X : gX} {ad : Nat → Nat} {p1 : Nat} {ν : gN} {r : gN} (hp1 : isP p1) (h : f_X5_readFence p1 ν = some r) : h_ct X ad yX5_readFence cX5_readFence 3 (none) 4 [.ref (ad 33), .ref (ad p1)] ν (none, r) := by
  rw [f_X5_readFence] at h
  refine h_ct_of (l := [(0, .ref (ad 33)), (1, .ref (ad p1))]) (by decide) (Nat.le_of_ble_eq_true rfl) rfl ?_
  refine go_aload_n rfl 0 rfl dX5_readFence_0 ?_
  refine go_iconst kz_iconst_0 dX5_readFence_1 ?_
  refine go_bipush kz_bipush_48 dX5_readFence_2 ?_
  obtain ⟨r_1, h_2, h⟩ := q_b h
  refine h_callVi (st := []) [.int 0, .int 48] (m_X5_readNumber h_2) me_X5_readNumber (g_recv cl3.1 rfl) tw_599 tw_601 tw_8 (hdd_of (by decide)) ⟨Nat.zero_le _, Nat.zero_le _⟩ rfl rfl (Nat.le_of_ble_eq_true rfl) dX5_readFence_4 ?_
  refine go_istore_n (l' := [(2, .int r_1.1), (0, .ref (ad 33)), (1, .ref (ad p1))]) dX5_readFence_7 rfl (by decide) rfl ?_
  refine go_aload_n rfl 1 rfl dX5_readFence_8 ?_
  refine h_geti 4 cl3 rfl (by decide) tw_224 rfl dX5_readFence_9 ?_
  refine go_iconst kz_iconst_m1 dX5_readFence_12 ?_
  refine go_icmp_ne (tgt := 32) dX5_readFence_13 rfl (fun hc => ?_) (fun hc => ?_)
  · replace h := q_f h hc
    refine go_aload_n rfl 1 rfl dX5_readFence_32 ?_
    refine h_geti 4 cl3 rfl (by decide) tw_224 rfl dX5_readFence_33 ?_
    refine go_iconst kz_iconst_m1 dX5_readFence_36 ?_
    refine go_icmp_ne (tgt := 46) dX5_readFence_37 rfl (fun hc => ?_) (fun hc => ?_)
    · replace h := q_f h hc
      exact h_vret h dX5_readFence_46 rfl
    · replace h := q_t h hc
      refine go_aload_n rfl 2 rfl dX5_readFence_40 ?_
      refine go_iload_n rfl 0 rfl dX5_readFence_41 ?_
      refine go_iconst kz_iconst_1 dX5_readFence_42 ?_
      obtain ⟨r_3, h_4, h⟩ := q_b h
      refine h_callVv (st := []) [.int r_1.1, .int 1] (m_X4_putFence hp1 h_4) me_X4_putFence (g_recv cl2.1 (shP hp1)) tw_612 tw_464 tw_465 (hdd_of (by decide)) ⟨Nat.zero_le _, Nat.zero_le _⟩ rfl rfl (Nat.le_of_ble_eq_true rfl) dX5_readFence_43 ?_
      exact h_vret h dX5_readFence_46 rfl
  · replace h := q_t h hc
    refine go_aload_n rfl 2 rfl dX5_readFence_16 ?_
    refine go_iload_n rfl 0 rfl dX5_readFence_17 ?_
    obtain ⟨r_5, h_6, h⟩ := q_b h
    refine h_callVi (st := []) [.int r_1.1] (m_X4_mayBeFenced hp1 h_6) me_X4_mayBeFenced (g_recv cl2.1 (shP hp1)) tw_611 tw_455 tw_456 (hdd_of (by decide)) ⟨Nat.zero_le _, Nat.zero_le _⟩ rfl rfl (Nat.le_of_ble_eq_true rfl) dX5_readFence_18 ?_
    refine go_if_ne (tgt := 32) dX5_readFence_21 rfl (fun hc => ?_) (fun hc => ?_)
    · replace h := q_f h hc
      refine go_aload_n rfl 1 rfl dX5_readFence_32 ?_
      refine h_geti 4 cl3 rfl (by decide) tw_224 rfl dX5_readFence_33 ?_
      refine go_iconst kz_iconst_m1 dX5_readFence_36 ?_
      refine go_icmp_ne (tgt := 46) dX5_readFence_37 rfl (fun hc => ?_) (fun hc => ?_)
      · replace h := q_f h hc
        exact h_vret h dX5_readFence_46 rfl
      · replace h := q_t h hc
        refine go_aload_n rfl 2 rfl dX5_readFence_40 ?_
        refine go_iload_n rfl 0 rfl dX5_readFence_41 ?_
        refine go_iconst kz_iconst_1 dX5_readFence_42 ?_
        obtain ⟨r_7, h_8, h⟩ := q_b h
        refine h_callVv (st := []) [.int r_1.1, .int 1] (m_X4_putFence hp1 h_8) me_X4_putFence (g_recv cl2.1 (shP hp1)) tw_612 tw_464 tw_465 (hdd_of (by decide)) ⟨Nat.zero_le _, Nat.zero_le _⟩ rfl rfl (Nat.le_of_ble_eq_true rfl) dX5_readFence_43 ?_
        exact h_vret h dX5_readFence_46 rfl
    · replace h := q_t h hc
      refine go_aload_n rfl 1 rfl dX5_readFence_24 ?_
      refine go_aload_n rfl 1 rfl dX5_readFence_25 ?_
      refine h_geti 3 cl3 rfl (by decide) tw_223 rfl dX5_readFence_26 ?_
      obtain ⟨ν_9, e_10, h⟩ := q_l h
      refine h_puti 4 cl3 rfl (by decide) tw_224 rfl rfl e_10 dX5_readFence_29 ?_
      refine go_aload_n rfl 1 rfl dX5_readFence_32 ?_
      refine h_geti 4 cl3 rfl (by decide) tw_224 rfl dX5_readFence_33 ?_
      refine go_iconst kz_iconst_m1 dX5_readFence_36 ?_
      refine go_icmp_ne (tgt := 46) dX5_readFence_37 rfl (fun hc => ?_) (fun hc => ?_)
      · replace h := q_f h hc
        exact h_vret h dX5_readFence_46 rfl
      · replace h := q_t h hc
        refine go_aload_n rfl 2 rfl dX5_readFence_40 ?_
        refine go_iload_n rfl 0 rfl dX5_readFence_41 ?_
        refine go_iconst kz_iconst_1 dX5_readFence_42 ?_
        obtain ⟨r_11, h_12, h⟩ := q_b h
        refine h_callVv (st := []) [.int r_1.1, .int 1] (m_X4_putFence hp1 h_12) me_X4_putFence (g_recv cl2.1 (shP hp1)) tw_612 tw_464 tw_465 (hdd_of (by decide)) ⟨Nat.zero_le _, Nat.zero_le _⟩ rfl rfl (Nat.le_of_ble_eq_true rfl) dX5_readFence_43 ?_
        exact h_vret h dX5_readFence_46 rfl
noncomputable def f_X5_readOpen (p1 : Nat) (ν : gN) : Option (gN) :=
  (f_X5_readNumber 0 48 ν).bind (fun r_1 =>
    if (r_1.2.1 33 4) = (-1) then
      (f_X4_putFence p1 r_1.1 0 r_1.2).bind (fun r_3 =>
        some r_3)
    else
      some r_1.2)
theorem me_X5_readOpen : g_me yX5_readOpen cX5_readOpen 3 (none) 1 := ⟨tw_616, tw_76, ⟨by decide +kernel, by decide +kernel, by decide +kernel⟩, by decide⟩
set_option maxRecDepth 20000 in
set_option maxHeartbeats 2000000 in
theorem m_X5_readOpen {X : gX} {ad : Nat → Nat} {p1 : Nat} {ν : gN} {r : gN} (hp1 : isP p1) (h : f_X5_readOpen p1 ν = some r) : h_ct X ad yX5_readOpen cX5_readOpen 3 (none) 4 [.ref (ad 33), .ref (ad p1)] ν (none, r) := by
  rw [f_X5_readOpen] at h
  refine h_ct_of (l := [(0, .ref (ad 33)), (1, .ref (ad p1))]) (by decide) (Nat.le_of_ble_eq_true rfl) rfl ?_
  refine go_aload_n rfl 0 rfl dX5_readOpen_0 ?_
  refine go_iconst kz_iconst_0 dX5_readOpen_1 ?_
  refine go_bipush kz_bipush_48 dX5_readOpen_2 ?_
  obtain ⟨r_1, h_2, h⟩ := q_b h
  refine h_callVi (st := []) [.int 0, .int 48] (m_X5_readNumber h_2) me_X5_readNumber (g_recv cl3.1 rfl) tw_599 tw_601 tw_8 (hdd_of (by decide)) ⟨Nat.zero_le _, Nat.zero_le _⟩ rfl rfl (Nat.le_of_ble_eq_true rfl) dX5_readOpen_4 ?_
  refine go_istore_n (l' := [(2, .int r_1.1), (0, .ref (ad 33)), (1, .ref (ad p1))]) dX5_readOpen_7 rfl (by decide) rfl ?_
  refine go_aload_n rfl 1 rfl dX5_readOpen_8 ?_
  refine h_geti 4 cl3 rfl (by decide) tw_224 rfl dX5_readOpen_9 ?_
  refine go_iconst kz_iconst_m1 dX5_readOpen_12 ?_
  refine go_icmp_ne (tgt := 22) dX5_readOpen_13 rfl (fun hc => ?_) (fun hc => ?_)
  · replace h := q_f h hc
    exact h_vret h dX5_readOpen_22 rfl
  · replace h := q_t h hc
    refine go_aload_n rfl 2 rfl dX5_readOpen_16 ?_
    refine go_iload_n rfl 0 rfl dX5_readOpen_17 ?_
    refine go_iconst kz_iconst_0 dX5_readOpen_18 ?_
    obtain ⟨r_3, h_4, h⟩ := q_b h
    refine h_callVv (st := []) [.int r_1.1, .int 0] (m_X4_putFence hp1 h_4) me_X4_putFence (g_recv cl2.1 (shP hp1)) tw_612 tw_464 tw_465 (hdd_of (by decide)) ⟨Nat.zero_le _, Nat.zero_le _⟩ rfl rfl (Nat.le_of_ble_eq_true rfl) dX5_readOpen_19 ?_
    exact h_vret h dX5_readOpen_22 rfl
noncomputable def f_X5_readPerson (p1 : Nat) (ν : gN) : Option (gN) :=
  (f_X5_readNumber 0 6 ν).bind (fun r_1 =>
    (f_X5_readNumber 0 9 r_1.2).bind (fun r_3 =>
      (f_X5_readNumber 0 20 r_3.2).bind (fun r_5 =>
        (f_X5_readNumber 1 4 r_5.2).bind (fun r_7 =>
          (f_X5_readNumber 0 48 r_7.2).bind (fun r_9 =>
            if (r_9.2.1 33 4) = (-1) then
              (f_X4_isOpen p1 r_9.1 r_9.2).bind (fun r_13 =>
                if r_13.1 = 0 then
                  qL (nWI r_13.2 33 4 (r_13.2.1 33 3)) (fun ν_17 =>
                    if (ν_17.1 33 4) = (-1) then
                      (f_X4_addPerson p1 r_1.1 r_3.1 r_5.1 r_7.1 r_9.1 ν_17).bind (fun r_19 =>
                        some r_19.2)
                    else
                      some ν_17)
                else
                  if (r_13.2.1 33 4) = (-1) then
                    (f_X4_addPerson p1 r_1.1 r_3.1 r_5.1 r_7.1 r_9.1 r_13.2).bind (fun r_15 =>
                      some r_15.2)
                  else
                    some r_13.2)
            else
              if (r_9.2.1 33 4) = (-1) then
                (f_X4_addPerson p1 r_1.1 r_3.1 r_5.1 r_7.1 r_9.1 r_9.2).bind (fun r_11 =>
                  some r_11.2)
              else
                some r_9.2)))))
theorem me_X5_readPerson : g_me yX5_readPerson cX5_readPerson 7 (none) 1 := ⟨tw_620, tw_76, ⟨by decide +kernel, by decide +kernel, by decide +kernel⟩, by decide⟩
set_option maxRecDepth 20000 in
set_option maxHeartbeats 2000000 in
theorem m_X5_readPerson {X : gX} {ad : Nat → Nat} {p1 : Nat} {ν : gN} {r : gN} (hp1 : isP p1) (h : f_X5_readPerson p1 ν = some r) : h_ct X ad yX5_readPerson cX5_readPerson 7 (none) 4 [.ref (ad 33), .ref (ad p1)] ν (none, r) := by
  rw [f_X5_readPerson] at h
  refine h_ct_of (l := [(0, .ref (ad 33)), (1, .ref (ad p1))]) (by decide) (Nat.le_of_ble_eq_true rfl) rfl ?_
  refine go_aload_n rfl 0 rfl dX5_readPerson_0 ?_
  refine go_iconst kz_iconst_0 dX5_readPerson_1 ?_
  refine go_bipush kz_bipush_6 dX5_readPerson_2 ?_
  obtain ⟨r_1, h_2, h⟩ := q_b h
  refine h_callVi (st := []) [.int 0, .int 6] (m_X5_readNumber h_2) me_X5_readNumber (g_recv cl3.1 rfl) tw_599 tw_601 tw_8 (hdd_of (by decide)) ⟨Nat.zero_le _, Nat.zero_le _⟩ rfl rfl (Nat.le_of_ble_eq_true rfl) dX5_readPerson_4 ?_
  refine go_istore_n (l' := [(2, .int r_1.1), (0, .ref (ad 33)), (1, .ref (ad p1))]) dX5_readPerson_7 rfl (by decide) rfl ?_
  refine go_aload_n rfl 1 rfl dX5_readPerson_8 ?_
  refine go_iconst kz_iconst_0 dX5_readPerson_9 ?_
  refine go_bipush kz_bipush_9 dX5_readPerson_10 ?_
  obtain ⟨r_3, h_4, h⟩ := q_b h
  refine h_callVi (st := []) [.int 0, .int 9] (m_X5_readNumber h_4) me_X5_readNumber (g_recv cl3.1 rfl) tw_599 tw_601 tw_8 (hdd_of (by decide)) ⟨Nat.zero_le _, Nat.zero_le _⟩ rfl rfl (Nat.le_of_ble_eq_true rfl) dX5_readPerson_12 ?_
  refine go_istore_n (l' := [(3, .int r_3.1), (2, .int r_1.1), (0, .ref (ad 33)), (1, .ref (ad p1))]) dX5_readPerson_15 rfl (by decide) rfl ?_
  refine go_aload_n rfl 2 rfl dX5_readPerson_16 ?_
  refine go_iconst kz_iconst_0 dX5_readPerson_17 ?_
  refine go_bipush kz_bipush_20 dX5_readPerson_18 ?_
  obtain ⟨r_5, h_6, h⟩ := q_b h
  refine h_callVi (st := []) [.int 0, .int 20] (m_X5_readNumber h_6) me_X5_readNumber (g_recv cl3.1 rfl) tw_599 tw_601 tw_8 (hdd_of (by decide)) ⟨Nat.zero_le _, Nat.zero_le _⟩ rfl rfl (Nat.le_of_ble_eq_true rfl) dX5_readPerson_20 ?_
  refine go_istore (l' := [(4, .int r_5.1), (3, .int r_3.1), (2, .int r_1.1), (0, .ref (ad 33)), (1, .ref (ad p1))]) dX5_readPerson_23 (by decide) rfl ?_
  refine go_aload_n rfl 3 rfl dX5_readPerson_25 ?_
  refine go_iconst kz_iconst_1 dX5_readPerson_26 ?_
  refine go_iconst kz_iconst_4 dX5_readPerson_27 ?_
  obtain ⟨r_7, h_8, h⟩ := q_b h
  refine h_callVi (st := []) [.int 1, .int 4] (m_X5_readNumber h_8) me_X5_readNumber (g_recv cl3.1 rfl) tw_599 tw_601 tw_8 (hdd_of (by decide)) ⟨Nat.zero_le _, Nat.zero_le _⟩ rfl rfl (Nat.le_of_ble_eq_true rfl) dX5_readPerson_28 ?_
  refine go_istore (l' := [(5, .int r_7.1), (4, .int r_5.1), (3, .int r_3.1), (2, .int r_1.1), (0, .ref (ad 33)), (1, .ref (ad p1))]) dX5_readPerson_31 (by decide) rfl ?_
  refine go_aload_n rfl 4 rfl dX5_readPerson_33 ?_
  refine go_iconst kz_iconst_0 dX5_readPerson_34 ?_
  refine go_bipush kz_bipush_48 dX5_readPerson_35 ?_
  obtain ⟨r_9, h_10, h⟩ := q_b h
  refine h_callVi (st := []) [.int 0, .int 48] (m_X5_readNumber h_10) me_X5_readNumber (g_recv cl3.1 rfl) tw_599 tw_601 tw_8 (hdd_of (by decide)) ⟨Nat.zero_le _, Nat.zero_le _⟩ rfl rfl (Nat.le_of_ble_eq_true rfl) dX5_readPerson_37 ?_
  refine go_istore (l' := [(6, .int r_9.1), (5, .int r_7.1), (4, .int r_5.1), (3, .int r_3.1), (2, .int r_1.1), (0, .ref (ad 33)), (1, .ref (ad p1))]) dX5_readPerson_40 (by decide) rfl ?_
  refine go_aload_n rfl 5 rfl dX5_readPerson_42 ?_
  refine h_geti 4 cl3 rfl (by decide) tw_224 rfl dX5_readPerson_43 ?_
  refine go_iconst kz_iconst_m1 dX5_readPerson_46 ?_
  refine go_icmp_ne (tgt := 67) dX5_readPerson_47 rfl (fun hc => ?_) (fun hc => ?_)
  · replace h := q_f h hc
    refine go_aload_n rfl 5 rfl dX5_readPerson_67 ?_
    refine h_geti 4 cl3 rfl (by decide) tw_224 rfl dX5_readPerson_68 ?_
    refine go_iconst kz_iconst_m1 dX5_readPerson_71 ?_
    refine go_icmp_ne (tgt := 88) dX5_readPerson_72 rfl (fun hc => ?_) (fun hc => ?_)
    · replace h := q_f h hc
      exact h_vret h dX5_readPerson_88 rfl
    · replace h := q_t h hc
      refine go_aload_n rfl 6 rfl dX5_readPerson_75 ?_
      refine go_iload_n rfl 4 rfl dX5_readPerson_76 ?_
      refine go_iload_n rfl 3 rfl dX5_readPerson_77 ?_
      refine go_iload 2 rfl dX5_readPerson_78 ?_
      refine go_iload 1 rfl dX5_readPerson_80 ?_
      refine go_iload 0 rfl dX5_readPerson_82 ?_
      obtain ⟨r_11, h_12, h⟩ := q_b h
      refine h_callVi (st := []) [.int r_1.1, .int r_3.1, .int r_5.1, .int r_7.1, .int r_9.1] (m_X4_addPerson hp1 h_12) me_X4_addPerson (g_recv cl2.1 (shP hp1)) tw_622 tw_446 tw_447 (hdd_of (by decide)) ⟨Nat.zero_le _, Nat.zero_le _⟩ rfl rfl (Nat.le_of_ble_eq_true rfl) dX5_readPerson_84 ?_
      refine go_pop rfl dX5_readPerson_87 ?_
      exact h_vret h dX5_readPerson_88 rfl
  · replace h := q_t h hc
    refine go_aload_n rfl 6 rfl dX5_readPerson_50 ?_
    refine go_iload 0 rfl dX5_readPerson_51 ?_
    obtain ⟨r_13, h_14, h⟩ := q_b h
    refine h_callVi (st := []) [.int r_9.1] (m_X4_isOpen hp1 h_14) me_X4_isOpen (g_recv cl2.1 (shP hp1)) tw_621 tw_431 tw_432 (hdd_of (by decide)) ⟨Nat.zero_le _, Nat.zero_le _⟩ rfl rfl (Nat.le_of_ble_eq_true rfl) dX5_readPerson_53 ?_
    refine go_if_ne (tgt := 67) dX5_readPerson_56 rfl (fun hc => ?_) (fun hc => ?_)
    · replace h := q_f h hc
      refine go_aload_n rfl 5 rfl dX5_readPerson_67 ?_
      refine h_geti 4 cl3 rfl (by decide) tw_224 rfl dX5_readPerson_68 ?_
      refine go_iconst kz_iconst_m1 dX5_readPerson_71 ?_
      refine go_icmp_ne (tgt := 88) dX5_readPerson_72 rfl (fun hc => ?_) (fun hc => ?_)
      · replace h := q_f h hc
        exact h_vret h dX5_readPerson_88 rfl
      · replace h := q_t h hc
        refine go_aload_n rfl 6 rfl dX5_readPerson_75 ?_
        refine go_iload_n rfl 4 rfl dX5_readPerson_76 ?_
        refine go_iload_n rfl 3 rfl dX5_readPerson_77 ?_
        refine go_iload 2 rfl dX5_readPerson_78 ?_
        refine go_iload 1 rfl dX5_readPerson_80 ?_
        refine go_iload 0 rfl dX5_readPerson_82 ?_
        obtain ⟨r_15, h_16, h⟩ := q_b h
        refine h_callVi (st := []) [.int r_1.1, .int r_3.1, .int r_5.1, .int r_7.1, .int r_9.1] (m_X4_addPerson hp1 h_16) me_X4_addPerson (g_recv cl2.1 (shP hp1)) tw_622 tw_446 tw_447 (hdd_of (by decide)) ⟨Nat.zero_le _, Nat.zero_le _⟩ rfl rfl (Nat.le_of_ble_eq_true rfl) dX5_readPerson_84 ?_
        refine go_pop rfl dX5_readPerson_87 ?_
        exact h_vret h dX5_readPerson_88 rfl
    · replace h := q_t h hc
      refine go_aload_n rfl 5 rfl dX5_readPerson_59 ?_
      refine go_aload_n rfl 5 rfl dX5_readPerson_60 ?_
      refine h_geti 3 cl3 rfl (by decide) tw_223 rfl dX5_readPerson_61 ?_
      obtain ⟨ν_17, e_18, h⟩ := q_l h
      refine h_puti 4 cl3 rfl (by decide) tw_224 rfl rfl e_18 dX5_readPerson_64 ?_
      refine go_aload_n rfl 5 rfl dX5_readPerson_67 ?_
      refine h_geti 4 cl3 rfl (by decide) tw_224 rfl dX5_readPerson_68 ?_
      refine go_iconst kz_iconst_m1 dX5_readPerson_71 ?_
      refine go_icmp_ne (tgt := 88) dX5_readPerson_72 rfl (fun hc => ?_) (fun hc => ?_)
      · replace h := q_f h hc
        exact h_vret h dX5_readPerson_88 rfl
      · replace h := q_t h hc
        refine go_aload_n rfl 6 rfl dX5_readPerson_75 ?_
        refine go_iload_n rfl 4 rfl dX5_readPerson_76 ?_
        refine go_iload_n rfl 3 rfl dX5_readPerson_77 ?_
        refine go_iload 2 rfl dX5_readPerson_78 ?_
        refine go_iload 1 rfl dX5_readPerson_80 ?_
        refine go_iload 0 rfl dX5_readPerson_82 ?_
        obtain ⟨r_19, h_20, h⟩ := q_b h
        refine h_callVi (st := []) [.int r_1.1, .int r_3.1, .int r_5.1, .int r_7.1, .int r_9.1] (m_X4_addPerson hp1 h_20) me_X4_addPerson (g_recv cl2.1 (shP hp1)) tw_622 tw_446 tw_447 (hdd_of (by decide)) ⟨Nat.zero_le _, Nat.zero_le _⟩ rfl rfl (Nat.le_of_ble_eq_true rfl) dX5_readPerson_84 ?_
        refine go_pop rfl dX5_readPerson_87 ?_
        exact h_vret h dX5_readPerson_88 rfl
noncomputable def f_X5_readWord_L4  (k56 : Int32 → gN → Option (Int32 × gN)) : Nat → Int32 → Int32 → gN → Option (Int32 × gN)
  | 0, _, _, _ => none
  | n + 1, y1, y2, ν =>
    if 5 ≤ y2 then
      k56 y1 ν
    else
      (f_X5_lettersOf y2 ν).bind (fun r_1 =>
        if r_1.1 < 7 then
          (f_X5_lettersAlike r_1.1 r_1.2).bind (fun r_4 =>
            (f_J0_length_8abf5 r_1.1 r_4.2).bind (fun r_6 =>
              if r_4.1 = r_6.1 then
                qL (nWI r_6.2 33 2 ((r_6.2.1 33 2) + r_4.1)) (fun ν_8 =>
                  some (y2, ν_8))
              else
                f_X5_readWord_L4 k56 n (j_max y1 r_4.1) (y2 + 1) r_6.2))
        else none)
noncomputable def f_X5_readWord  (ν : gN) : Option (Int32 × gN) :=
  f_X5_readWord_L4  (fun z1_10 ν_11 =>
    qL (nWI ν_11 33 4 ((ν_11.1 33 2) + z1_10)) (fun ν_12 =>
      some ((-1), ν_12))) FU 0 0 ν
theorem me_X5_readWord : g_me yX5_readWord cX5_readWord 5 ((Option.some .int)) 0 := ⟨tw_526, tw_76, ⟨by decide +kernel, by decide +kernel, by decide +kernel⟩, by decide⟩
set_option maxRecDepth 20000 in
set_option maxHeartbeats 2000000 in
theorem m_X5_readWord_L4 {X : gX} {ad : Nat → Nat}  {k56 : Int32 → gN → Option (Int32 × gN)}  : ∀ (n : Nat) (y1 : Int32) (y2 : Int32) (ν : gN) (r : Int32 × gN), f_X5_readWord_L4 k56 n y1 y2 ν = some r → (∀ (z1 : Int32) (ν1 : gN), k56 z1 ν1 = some r → h_go X ad RX5 "readWord" cX5_readWord 5 ((Option.some .int)) 6 (some (.int r.1), r.2) 56 [(0, .ref (ad 33)), (1, .int z1)] [] ν1) → h_go X ad RX5 "readWord" cX5_readWord 5 ((Option.some .int)) 6 (some (.int r.1), r.2) 4 [(0, .ref (ad 33)), (1, .int y1), (2, .int y2)] [] ν := by
  intro n
  induction n with
  | zero => intro y1 y2 ν r h hk56; rw [f_X5_readWord_L4] at h; exact q_n h
  | succ n ih =>
    intro y1 y2 ν r h hk56
    rw [f_X5_readWord_L4] at h
    refine go_iload_n rfl 2 rfl dX5_readWord_4 ?_
    refine go_iconst kz_iconst_5 dX5_readWord_5 ?_
    refine go_icmp_ge (tgt := 56) dX5_readWord_6 rfl (fun hc => ?_) (fun hc => ?_)
    · replace h := q_t h hc
      refine go_sub (l' := [(0, .ref (ad 33)), (1, .int y1)]) [0, 1] rfl ?_
      exact hk56 _ _ h
    · replace h := q_f h hc
      refine go_iload_n rfl 2 rfl dX5_readWord_9 ?_
      obtain ⟨r_1, h_2, h⟩ := q_b h
      refine h_callSs (st := []) [.int y2] (m_X5_lettersOf h_2) me_X5_lettersOf tw_527 tw_528 (hdd_of (by decide)) ⟨Nat.zero_le _, Nat.zero_le _⟩ rfl rfl (Nat.le_of_ble_eq_true rfl) dX5_readWord_10 ?_
      obtain ⟨hg_3, h⟩ := q_g h
      refine go_astore_n (l' := [(3, .ref (X.2.2.2.1 (10 + r_1.1))), (0, .ref (ad 33)), (1, .int y1), (2, .int y2)]) dX5_readWord_13 rfl (by decide) rfl ?_
      refine go_aload_n rfl 1 rfl dX5_readWord_14 ?_
      refine go_aload_n rfl 0 rfl dX5_readWord_15 ?_
      obtain ⟨r_4, h_5, h⟩ := q_b h
      refine h_callVi (st := []) [.ref (X.2.2.2.1 (10 + r_1.1))] (m_X5_lettersAlike hg_3 h_5) me_X5_lettersAlike (g_recv cl3.1 rfl) tw_535 tw_537 tw_5 (hdd_of (by decide)) ⟨Nat.zero_le _, Nat.zero_le _⟩ rfl rfl (Nat.le_of_ble_eq_true rfl) dX5_readWord_16 ?_
      refine go_istore (l' := [(4, .int r_4.1), (3, .ref (X.2.2.2.1 (10 + r_1.1))), (0, .ref (ad 33)), (1, .int y1), (2, .int y2)]) dX5_readWord_19 (by decide) rfl ?_
      refine go_iload 0 rfl dX5_readWord_21 ?_
      refine go_aload_n rfl 1 rfl dX5_readWord_23 ?_
      obtain ⟨r_6, h_7, h⟩ := q_b h
      refine h_callVi (st := [.int r_4.1]) [] (m_J0_length_8abf5 hg_3 h_7) me_J0_length_8abf5 (g_recvS hg_3) tw_539 tw_540 tw_541 (hdd_of (by decide)) ⟨Nat.zero_le _, Nat.zero_le _⟩ rfl rfl (Nat.le_of_ble_eq_true rfl) dX5_readWord_24 ?_
      refine go_icmp_ne (tgt := 43) dX5_readWord_27 rfl (fun hc => ?_) (fun hc => ?_)
      · replace h := q_f h hc
        refine go_iload_n rfl 3 rfl dX5_readWord_43 ?_
        refine go_iload 0 rfl dX5_readWord_44 ?_
        refine h_mmax (by decide) ⟨Nat.zero_le _, Nat.zero_le _⟩ (Nat.le_of_ble_eq_true rfl) dX5_readWord_46 ?_
        refine go_istore_n (l' := [(1, .int (j_max y1 r_4.1)), (4, .int r_4.1), (3, .ref (X.2.2.2.1 (10 + r_1.1))), (0, .ref (ad 33)), (2, .int y2)]) dX5_readWord_49 rfl (by decide) rfl ?_
        refine h_iinc (l' := [(2, .int (y2 + 1)), (1, .int (j_max y1 r_4.1)), (4, .int r_4.1), (3, .ref (X.2.2.2.1 (10 + r_1.1))), (0, .ref (ad 33))]) dX5_readWord_50 4 rfl kz_iconst_1 (by decide) rfl ?_
        refine go_goto (tgt := 4) dX5_readWord_53 rfl ?_
        refine go_sub (l' := [(0, .ref (ad 33)), (1, .int (j_max y1 r_4.1)), (2, .int (y2 + 1))]) [4, 1, 0] rfl ?_
        exact ih _ _ _ _ h hk56
      · replace h := q_t h hc
        refine go_aload_n rfl 2 rfl dX5_readWord_30 ?_
        refine go_dup rfl dX5_readWord_31 ?_
        refine h_geti 2 cl3 rfl (by decide) tw_222 rfl dX5_readWord_32 ?_
        refine go_iload 0 rfl dX5_readWord_35 ?_
        refine go_iadd dX5_readWord_37 ?_
        obtain ⟨ν_8, e_9, h⟩ := q_l h
        refine h_puti 2 cl3 rfl (by decide) tw_222 rfl rfl e_9 dX5_readWord_38 ?_
        refine go_iload_n rfl 4 rfl dX5_readWord_41 ?_
        exact h_iret h dX5_readWord_42 rfl
set_option maxRecDepth 20000 in
set_option maxHeartbeats 2000000 in
theorem m_X5_readWord {X : gX} {ad : Nat → Nat}  {ν : gN} {r : Int32 × gN}  (h : f_X5_readWord  ν = some r) : h_ct X ad yX5_readWord cX5_readWord 5 ((Option.some .int)) 6 [.ref (ad 33)] ν (some (.int r.1), r.2) := by
  rw [f_X5_readWord] at h
  refine h_ct_of (l := [(0, .ref (ad 33))]) (by decide) (Nat.le_of_ble_eq_true rfl) rfl ?_
  refine go_iconst kz_iconst_0 dX5_readWord_0 ?_
  refine go_istore_n (l' := [(1, .int 0), (0, .ref (ad 33))]) dX5_readWord_1 rfl (by decide) rfl ?_
  refine go_iconst kz_iconst_0 dX5_readWord_2 ?_
  refine go_istore_n (l' := [(2, .int 0), (1, .int 0), (0, .ref (ad 33))]) dX5_readWord_3 rfl (by decide) rfl ?_
  refine go_sub (l' := [(0, .ref (ad 33)), (1, .int 0), (2, .int 0)]) [2, 1, 0] rfl ?_
  refine m_X5_readWord_L4  FU _ _ _ _ h (fun z1_10 ν_11 h => ?_)
  refine go_aload_n rfl 0 rfl dX5_readWord_56 ?_
  refine go_aload_n rfl 0 rfl dX5_readWord_57 ?_
  refine h_geti 2 cl3 rfl (by decide) tw_222 rfl dX5_readWord_58 ?_
  refine go_iload_n rfl 1 rfl dX5_readWord_61 ?_
  refine go_iadd dX5_readWord_62 ?_
  obtain ⟨ν_12, e_13, h⟩ := q_l h
  refine h_puti 4 cl3 rfl (by decide) tw_224 rfl rfl e_13 dX5_readWord_63 ?_
  refine go_iconst kz_iconst_m1 dX5_readWord_66 ?_
  exact h_iret h dX5_readWord_67 rfl
noncomputable def f_X5_readItem (p1 : Nat) (ν : gN) : Option (gN) :=
  (f_X5_readWord  ν).bind (fun r_1 =>
    if r_1.1 = 2 then
      (f_X4_hasRoom p1 r_1.2).bind (fun r_21 =>
        if r_21.1 = 0 then
          qL (nWI r_21.2 33 4 (ν.1 33 2)) (fun ν_41 =>
            if (ν_41.1 33 4) = (-1) then
              if r_1.1 = 0 then
                (f_X5_readFence p1 ν_41).bind (fun r_44 =>
                  some r_44)
              else
              if r_1.1 = 1 then
                (f_X5_readOpen p1 ν_41).bind (fun r_47 =>
                  some r_47)
              else
              if r_1.1 = 2 then
                (f_X5_readPerson p1 ν_41).bind (fun r_50 =>
                  some r_50)
              else
              if r_1.1 = 3 then
                (f_X5_readNumber 1 4 ν_41).bind (fun r_53 =>
                  qL (nWI r_53.2 p1 8 r_53.1) (fun ν_55 =>
                    some ν_55))
              else
              (f_X5_readNumber 0 40 ν_41).bind (fun r_57 =>
                qL (nWI r_57.2 p1 9 r_57.1) (fun ν_59 =>
                  some ν_59))
            else
              some ν_41)
        else
          if (r_21.2.1 33 4) = (-1) then
            if r_1.1 = 0 then
              (f_X5_readFence p1 r_21.2).bind (fun r_24 =>
                some r_24)
            else
            if r_1.1 = 1 then
              (f_X5_readOpen p1 r_21.2).bind (fun r_27 =>
                some r_27)
            else
            if r_1.1 = 2 then
              (f_X5_readPerson p1 r_21.2).bind (fun r_30 =>
                some r_30)
            else
            if r_1.1 = 3 then
              (f_X5_readNumber 1 4 r_21.2).bind (fun r_33 =>
                qL (nWI r_33.2 p1 8 r_33.1) (fun ν_35 =>
                  some ν_35))
            else
            (f_X5_readNumber 0 40 r_21.2).bind (fun r_37 =>
              qL (nWI r_37.2 p1 9 r_37.1) (fun ν_39 =>
                some ν_39))
          else
            some r_21.2)
    else
      if (r_1.2.1 33 4) = (-1) then
        if r_1.1 = 0 then
          (f_X5_readFence p1 r_1.2).bind (fun r_4 =>
            some r_4)
        else
        if r_1.1 = 1 then
          (f_X5_readOpen p1 r_1.2).bind (fun r_7 =>
            some r_7)
        else
        if r_1.1 = 2 then
          (f_X5_readPerson p1 r_1.2).bind (fun r_10 =>
            some r_10)
        else
        if r_1.1 = 3 then
          (f_X5_readNumber 1 4 r_1.2).bind (fun r_13 =>
            qL (nWI r_13.2 p1 8 r_13.1) (fun ν_15 =>
              some ν_15))
        else
        (f_X5_readNumber 0 40 r_1.2).bind (fun r_17 =>
          qL (nWI r_17.2 p1 9 r_17.1) (fun ν_19 =>
            some ν_19))
      else
        some r_1.2)
theorem me_X5_readItem : g_me yX5_readItem cX5_readItem 4 (none) 1 := ⟨tw_522, tw_76, ⟨by decide +kernel, by decide +kernel, by decide +kernel⟩, by decide⟩
set_option maxRecDepth 20000 in
set_option maxHeartbeats 2000000 in
theorem m_X5_readItem {X : gX} {ad : Nat → Nat} {p1 : Nat} {ν : gN} {r : gN} (hp1 : isP p1) (h : f_X5_readItem p1 ν = some r) : h_ct X ad yX5_readItem cX5_readItem 4 (none) 7 [.ref (ad 33), .ref (ad p1)] ν (none, r) := by
  rw [f_X5_readItem] at h
  refine h_ct_of (l := [(0, .ref (ad 33)), (1, .ref (ad p1))]) (by decide) (Nat.le_of_ble_eq_true rfl) rfl ?_
  refine go_aload_n rfl 0 rfl dX5_readItem_0 ?_
  refine h_geti 2 cl3 rfl (by decide) tw_222 rfl dX5_readItem_1 ?_
  refine go_istore_n (l' := [(2, .int (ν.1 33 2)), (0, .ref (ad 33)), (1, .ref (ad p1))]) dX5_readItem_4 rfl (by decide) rfl ?_
  refine go_aload_n rfl 1 rfl dX5_readItem_5 ?_
  obtain ⟨r_1, h_2, h⟩ := q_b h
  refine h_callVi (st := []) [] (m_X5_readWord h_2) me_X5_readWord (g_recv cl3.1 rfl) tw_523 tw_525 tw_4 (hdd_of (by decide)) ⟨Nat.zero_le _, Nat.zero_le _⟩ rfl rfl (Nat.le_of_ble_eq_true rfl) dX5_readItem_6 ?_
  refine go_istore_n (l' := [(3, .int r_1.1), (2, .int (ν.1 33 2)), (0, .ref (ad 33)), (1, .ref (ad p1))]) dX5_readItem_9 rfl (by decide) rfl ?_
  refine go_iload_n rfl 0 rfl dX5_readItem_10 ?_
  refine go_iconst kz_iconst_2 dX5_readItem_11 ?_
  refine go_icmp_ne (tgt := 27) dX5_readItem_12 rfl (fun hc => ?_) (fun hc => ?_)
  · replace h := q_f h hc
    refine go_aload_n rfl 2 rfl dX5_readItem_27 ?_
    refine h_geti 4 cl3 rfl (by decide) tw_224 rfl dX5_readItem_28 ?_
    refine go_iconst kz_iconst_m1 dX5_readItem_31 ?_
    refine go_icmp_eq (tgt := 36) dX5_readItem_32 rfl (fun hc => ?_) (fun hc => ?_)
    · replace h := q_t h hc
      refine go_iload_n rfl 0 rfl dX5_readItem_36 ?_
      by_cases hk_3 : r_1.1 = 0
      · replace h := q_t h hk_3
        refine h_tbT (tgt := 68) (off := 31) hk_3 dX5_readItem_37 (by decide) (by decide) rfl rfl ?_
        refine go_aload_n rfl 2 rfl dX5_readItem_68 ?_
        refine go_aload_n rfl 3 rfl dX5_readItem_69 ?_
        obtain ⟨r_4, h_5, h⟩ := q_b h
        refine h_callVv (st := []) [.ref (ad p1)] (m_X5_readFence hp1 h_5) me_X5_readFence (g_recv cl3.1 rfl) tw_595 tw_597 tw_7 (hdd_of (by decide)) ⟨Nat.zero_le _, Nat.zero_le _⟩ rfl rfl (Nat.le_of_ble_eq_true rfl) dX5_readItem_70 ?_
        refine go_goto (tgt := 116) dX5_readItem_73 rfl ?_
        exact h_vret h dX5_readItem_116 rfl
      replace h := q_f h hk_3
      by_cases hk_6 : r_1.1 = 1
      · replace h := q_t h hk_6
        refine h_tbT (tgt := 76) (off := 39) hk_6 dX5_readItem_37 (by decide) (by decide) rfl rfl ?_
        refine go_aload_n rfl 2 rfl dX5_readItem_76 ?_
        refine go_aload_n rfl 3 rfl dX5_readItem_77 ?_
        obtain ⟨r_7, h_8, h⟩ := q_b h
        refine h_callVv (st := []) [.ref (ad p1)] (m_X5_readOpen hp1 h_8) me_X5_readOpen (g_recv cl3.1 rfl) tw_613 tw_615 tw_11 (hdd_of (by decide)) ⟨Nat.zero_le _, Nat.zero_le _⟩ rfl rfl (Nat.le_of_ble_eq_true rfl) dX5_readItem_78 ?_
        refine go_goto (tgt := 116) dX5_readItem_81 rfl ?_
        exact h_vret h dX5_readItem_116 rfl
      replace h := q_f h hk_6
      by_cases hk_9 : r_1.1 = 2
      · replace h := q_t h hk_9
        refine h_tbT (tgt := 84) (off := 47) hk_9 dX5_readItem_37 (by decide) (by decide) rfl rfl ?_
        refine go_aload_n rfl 2 rfl dX5_readItem_84 ?_
        refine go_aload_n rfl 3 rfl dX5_readItem_85 ?_
        obtain ⟨r_10, h_11, h⟩ := q_b h
        refine h_callVv (st := []) [.ref (ad p1)] (m_X5_readPerson hp1 h_11) me_X5_readPerson (g_recv cl3.1 rfl) tw_617 tw_619 tw_12 (hdd_of (by decide)) ⟨Nat.zero_le _, Nat.zero_le _⟩ rfl rfl (Nat.le_of_ble_eq_true rfl) dX5_readItem_86 ?_
        refine go_goto (tgt := 116) dX5_readItem_89 rfl ?_
        exact h_vret h dX5_readItem_116 rfl
      replace h := q_f h hk_9
      by_cases hk_12 : r_1.1 = 3
      · replace h := q_t h hk_12
        refine h_tbT (tgt := 92) (off := 55) hk_12 dX5_readItem_37 (by decide) (by decide) rfl rfl ?_
        refine go_aload_n rfl 3 rfl dX5_readItem_92 ?_
        refine go_aload_n rfl 2 rfl dX5_readItem_93 ?_
        refine go_iconst kz_iconst_1 dX5_readItem_94 ?_
        refine go_iconst kz_iconst_4 dX5_readItem_95 ?_
        obtain ⟨r_13, h_14, h⟩ := q_b h
        refine h_callVi (st := [.ref (ad p1)]) [.int 1, .int 4] (m_X5_readNumber h_14) me_X5_readNumber (g_recv cl3.1 rfl) tw_599 tw_601 tw_8 (hdd_of (by decide)) ⟨Nat.zero_le _, Nat.zero_le _⟩ rfl rfl (Nat.le_of_ble_eq_true rfl) dX5_readItem_96 ?_
        obtain ⟨ν_15, e_16, h⟩ := q_l h
        refine h_putiN 8 cl2 (shP hp1) (by decide) tw_130 rfl rfl e_16 dX5_readItem_99 ?_
        refine go_goto (tgt := 116) dX5_readItem_102 rfl ?_
        exact h_vret h dX5_readItem_116 rfl
      replace h := q_f h hk_12
      have hk_3 := h_nT hk_3 (a := 0) (by decide)
      have hk_6 := h_nT hk_6 (a := 1) (by decide)
      have hk_9 := h_nT hk_9 (a := 2) (by decide)
      have hk_12 := h_nT hk_12 (a := 3) (by decide)
      refine go_tableOut (tgt := 105) dX5_readItem_37 (by omega) rfl ?_
      refine go_aload_n rfl 3 rfl dX5_readItem_105 ?_
      refine go_aload_n rfl 2 rfl dX5_readItem_106 ?_
      refine go_iconst kz_iconst_0 dX5_readItem_107 ?_
      refine go_bipush kz_bipush_40 dX5_readItem_108 ?_
      obtain ⟨r_17, h_18, h⟩ := q_b h
      refine h_callVi (st := [.ref (ad p1)]) [.int 0, .int 40] (m_X5_readNumber h_18) me_X5_readNumber (g_recv cl3.1 rfl) tw_599 tw_601 tw_8 (hdd_of (by decide)) ⟨Nat.zero_le _, Nat.zero_le _⟩ rfl rfl (Nat.le_of_ble_eq_true rfl) dX5_readItem_110 ?_
      obtain ⟨ν_19, e_20, h⟩ := q_l h
      refine h_putiN 9 cl2 (shP hp1) (by decide) tw_134 rfl rfl e_20 dX5_readItem_113 ?_
      exact h_vret h dX5_readItem_116 rfl
    · replace h := q_f h hc
      exact h_vret h dX5_readItem_35 rfl
  · replace h := q_t h hc
    refine go_aload_n rfl 3 rfl dX5_readItem_15 ?_
    obtain ⟨r_21, h_22, h⟩ := q_b h
    refine h_callVi (st := []) [] (m_X4_hasRoom hp1 h_22) me_X4_hasRoom (g_recv cl2.1 (shP hp1)) tw_594 tw_442 tw_443 (hdd_of (by decide)) ⟨Nat.zero_le _, Nat.zero_le _⟩ rfl rfl (Nat.le_of_ble_eq_true rfl) dX5_readItem_16 ?_
    refine go_if_ne (tgt := 27) dX5_readItem_19 rfl (fun hc => ?_) (fun hc => ?_)
    · replace h := q_f h hc
      refine go_aload_n rfl 2 rfl dX5_readItem_27 ?_
      refine h_geti 4 cl3 rfl (by decide) tw_224 rfl dX5_readItem_28 ?_
      refine go_iconst kz_iconst_m1 dX5_readItem_31 ?_
      refine go_icmp_eq (tgt := 36) dX5_readItem_32 rfl (fun hc => ?_) (fun hc => ?_)
      · replace h := q_t h hc
        refine go_iload_n rfl 0 rfl dX5_readItem_36 ?_
        by_cases hk_23 : r_1.1 = 0
        · replace h := q_t h hk_23
          refine h_tbT (tgt := 68) (off := 31) hk_23 dX5_readItem_37 (by decide) (by decide) rfl rfl ?_
          refine go_aload_n rfl 2 rfl dX5_readItem_68 ?_
          refine go_aload_n rfl 3 rfl dX5_readItem_69 ?_
          obtain ⟨r_24, h_25, h⟩ := q_b h
          refine h_callVv (st := []) [.ref (ad p1)] (m_X5_readFence hp1 h_25) me_X5_readFence (g_recv cl3.1 rfl) tw_595 tw_597 tw_7 (hdd_of (by decide)) ⟨Nat.zero_le _, Nat.zero_le _⟩ rfl rfl (Nat.le_of_ble_eq_true rfl) dX5_readItem_70 ?_
          refine go_goto (tgt := 116) dX5_readItem_73 rfl ?_
          exact h_vret h dX5_readItem_116 rfl
        replace h := q_f h hk_23
        by_cases hk_26 : r_1.1 = 1
        · replace h := q_t h hk_26
          refine h_tbT (tgt := 76) (off := 39) hk_26 dX5_readItem_37 (by decide) (by decide) rfl rfl ?_
          refine go_aload_n rfl 2 rfl dX5_readItem_76 ?_
          refine go_aload_n rfl 3 rfl dX5_readItem_77 ?_
          obtain ⟨r_27, h_28, h⟩ := q_b h
          refine h_callVv (st := []) [.ref (ad p1)] (m_X5_readOpen hp1 h_28) me_X5_readOpen (g_recv cl3.1 rfl) tw_613 tw_615 tw_11 (hdd_of (by decide)) ⟨Nat.zero_le _, Nat.zero_le _⟩ rfl rfl (Nat.le_of_ble_eq_true rfl) dX5_readItem_78 ?_
          refine go_goto (tgt := 116) dX5_readItem_81 rfl ?_
          exact h_vret h dX5_readItem_116 rfl
        replace h := q_f h hk_26
        by_cases hk_29 : r_1.1 = 2
        · replace h := q_t h hk_29
          refine h_tbT (tgt := 84) (off := 47) hk_29 dX5_readItem_37 (by decide) (by decide) rfl rfl ?_
          refine go_aload_n rfl 2 rfl dX5_readItem_84 ?_
          refine go_aload_n rfl 3 rfl dX5_readItem_85 ?_
          obtain ⟨r_30, h_31, h⟩ := q_b h
          refine h_callVv (st := []) [.ref (ad p1)] (m_X5_readPerson hp1 h_31) me_X5_readPerson (g_recv cl3.1 rfl) tw_617 tw_619 tw_12 (hdd_of (by decide)) ⟨Nat.zero_le _, Nat.zero_le _⟩ rfl rfl (Nat.le_of_ble_eq_true rfl) dX5_readItem_86 ?_
          refine go_goto (tgt := 116) dX5_readItem_89 rfl ?_
          exact h_vret h dX5_readItem_116 rfl
        replace h := q_f h hk_29
        by_cases hk_32 : r_1.1 = 3
        · replace h := q_t h hk_32
          refine h_tbT (tgt := 92) (off := 55) hk_32 dX5_readItem_37 (by decide) (by decide) rfl rfl ?_
          refine go_aload_n rfl 3 rfl dX5_readItem_92 ?_
          refine go_aload_n rfl 2 rfl dX5_readItem_93 ?_
          refine go_iconst kz_iconst_1 dX5_readItem_94 ?_
          refine go_iconst kz_iconst_4 dX5_readItem_95 ?_
          obtain ⟨r_33, h_34, h⟩ := q_b h
          refine h_callVi (st := [.ref (ad p1)]) [.int 1, .int 4] (m_X5_readNumber h_34) me_X5_readNumber (g_recv cl3.1 rfl) tw_599 tw_601 tw_8 (hdd_of (by decide)) ⟨Nat.zero_le _, Nat.zero_le _⟩ rfl rfl (Nat.le_of_ble_eq_true rfl) dX5_readItem_96 ?_
          obtain ⟨ν_35, e_36, h⟩ := q_l h
          refine h_putiN 8 cl2 (shP hp1) (by decide) tw_130 rfl rfl e_36 dX5_readItem_99 ?_
          refine go_goto (tgt := 116) dX5_readItem_102 rfl ?_
          exact h_vret h dX5_readItem_116 rfl
        replace h := q_f h hk_32
        have hk_23 := h_nT hk_23 (a := 0) (by decide)
        have hk_26 := h_nT hk_26 (a := 1) (by decide)
        have hk_29 := h_nT hk_29 (a := 2) (by decide)
        have hk_32 := h_nT hk_32 (a := 3) (by decide)
        refine go_tableOut (tgt := 105) dX5_readItem_37 (by omega) rfl ?_
        refine go_aload_n rfl 3 rfl dX5_readItem_105 ?_
        refine go_aload_n rfl 2 rfl dX5_readItem_106 ?_
        refine go_iconst kz_iconst_0 dX5_readItem_107 ?_
        refine go_bipush kz_bipush_40 dX5_readItem_108 ?_
        obtain ⟨r_37, h_38, h⟩ := q_b h
        refine h_callVi (st := [.ref (ad p1)]) [.int 0, .int 40] (m_X5_readNumber h_38) me_X5_readNumber (g_recv cl3.1 rfl) tw_599 tw_601 tw_8 (hdd_of (by decide)) ⟨Nat.zero_le _, Nat.zero_le _⟩ rfl rfl (Nat.le_of_ble_eq_true rfl) dX5_readItem_110 ?_
        obtain ⟨ν_39, e_40, h⟩ := q_l h
        refine h_putiN 9 cl2 (shP hp1) (by decide) tw_134 rfl rfl e_40 dX5_readItem_113 ?_
        exact h_vret h dX5_readItem_116 rfl
      · replace h := q_f h hc
        exact h_vret h dX5_readItem_35 rfl
    · replace h := q_t h hc
      refine go_aload_n rfl 2 rfl dX5_readItem_22 ?_
      refine go_iload_n rfl 1 rfl dX5_readItem_23 ?_
      obtain ⟨ν_41, e_42, h⟩ := q_l h
      refine h_puti 4 cl3 rfl (by decide) tw_224 rfl rfl e_42 dX5_readItem_24 ?_
      refine go_aload_n rfl 2 rfl dX5_readItem_27 ?_
      refine h_geti 4 cl3 rfl (by decide) tw_224 rfl dX5_readItem_28 ?_
      refine go_iconst kz_iconst_m1 dX5_readItem_31 ?_
      refine go_icmp_eq (tgt := 36) dX5_readItem_32 rfl (fun hc => ?_) (fun hc => ?_)
      · replace h := q_t h hc
        refine go_iload_n rfl 0 rfl dX5_readItem_36 ?_
        by_cases hk_43 : r_1.1 = 0
        · replace h := q_t h hk_43
          refine h_tbT (tgt := 68) (off := 31) hk_43 dX5_readItem_37 (by decide) (by decide) rfl rfl ?_
          refine go_aload_n rfl 2 rfl dX5_readItem_68 ?_
          refine go_aload_n rfl 3 rfl dX5_readItem_69 ?_
          obtain ⟨r_44, h_45, h⟩ := q_b h
          refine h_callVv (st := []) [.ref (ad p1)] (m_X5_readFence hp1 h_45) me_X5_readFence (g_recv cl3.1 rfl) tw_595 tw_597 tw_7 (hdd_of (by decide)) ⟨Nat.zero_le _, Nat.zero_le _⟩ rfl rfl (Nat.le_of_ble_eq_true rfl) dX5_readItem_70 ?_
          refine go_goto (tgt := 116) dX5_readItem_73 rfl ?_
          exact h_vret h dX5_readItem_116 rfl
        replace h := q_f h hk_43
        by_cases hk_46 : r_1.1 = 1
        · replace h := q_t h hk_46
          refine h_tbT (tgt := 76) (off := 39) hk_46 dX5_readItem_37 (by decide) (by decide) rfl rfl ?_
          refine go_aload_n rfl 2 rfl dX5_readItem_76 ?_
          refine go_aload_n rfl 3 rfl dX5_readItem_77 ?_
          obtain ⟨r_47, h_48, h⟩ := q_b h
          refine h_callVv (st := []) [.ref (ad p1)] (m_X5_readOpen hp1 h_48) me_X5_readOpen (g_recv cl3.1 rfl) tw_613 tw_615 tw_11 (hdd_of (by decide)) ⟨Nat.zero_le _, Nat.zero_le _⟩ rfl rfl (Nat.le_of_ble_eq_true rfl) dX5_readItem_78 ?_
          refine go_goto (tgt := 116) dX5_readItem_81 rfl ?_
          exact h_vret h dX5_readItem_116 rfl
        replace h := q_f h hk_46
        by_cases hk_49 : r_1.1 = 2
        · replace h := q_t h hk_49
          refine h_tbT (tgt := 84) (off := 47) hk_49 dX5_readItem_37 (by decide) (by decide) rfl rfl ?_
          refine go_aload_n rfl 2 rfl dX5_readItem_84 ?_
          refine go_aload_n rfl 3 rfl dX5_readItem_85 ?_
          obtain ⟨r_50, h_51, h⟩ := q_b h
          refine h_callVv (st := []) [.ref (ad p1)] (m_X5_readPerson hp1 h_51) me_X5_readPerson (g_recv cl3.1 rfl) tw_617 tw_619 tw_12 (hdd_of (by decide)) ⟨Nat.zero_le _, Nat.zero_le _⟩ rfl rfl (Nat.le_of_ble_eq_true rfl) dX5_readItem_86 ?_
          refine go_goto (tgt := 116) dX5_readItem_89 rfl ?_
          exact h_vret h dX5_readItem_116 rfl
        replace h := q_f h hk_49
        by_cases hk_52 : r_1.1 = 3
        · replace h := q_t h hk_52
          refine h_tbT (tgt := 92) (off := 55) hk_52 dX5_readItem_37 (by decide) (by decide) rfl rfl ?_
          refine go_aload_n rfl 3 rfl dX5_readItem_92 ?_
          refine go_aload_n rfl 2 rfl dX5_readItem_93 ?_
          refine go_iconst kz_iconst_1 dX5_readItem_94 ?_
          refine go_iconst kz_iconst_4 dX5_readItem_95 ?_
          obtain ⟨r_53, h_54, h⟩ := q_b h
          refine h_callVi (st := [.ref (ad p1)]) [.int 1, .int 4] (m_X5_readNumber h_54) me_X5_readNumber (g_recv cl3.1 rfl) tw_599 tw_601 tw_8 (hdd_of (by decide)) ⟨Nat.zero_le _, Nat.zero_le _⟩ rfl rfl (Nat.le_of_ble_eq_true rfl) dX5_readItem_96 ?_
          obtain ⟨ν_55, e_56, h⟩ := q_l h
          refine h_putiN 8 cl2 (shP hp1) (by decide) tw_130 rfl rfl e_56 dX5_readItem_99 ?_
          refine go_goto (tgt := 116) dX5_readItem_102 rfl ?_
          exact h_vret h dX5_readItem_116 rfl
        replace h := q_f h hk_52
        have hk_43 := h_nT hk_43 (a := 0) (by decide)
        have hk_46 := h_nT hk_46 (a := 1) (by decide)
        have hk_49 := h_nT hk_49 (a := 2) (by decide)
        have hk_52 := h_nT hk_52 (a := 3) (by decide)
        refine go_tableOut (tgt := 105) dX5_readItem_37 (by omega) rfl ?_
        refine go_aload_n rfl 3 rfl dX5_readItem_105 ?_
        refine go_aload_n rfl 2 rfl dX5_readItem_106 ?_
        refine go_iconst kz_iconst_0 dX5_readItem_107 ?_
        refine go_bipush kz_bipush_40 dX5_readItem_108 ?_
        obtain ⟨r_57, h_58, h⟩ := q_b h
        refine h_callVi (st := [.ref (ad p1)]) [.int 0, .int 40] (m_X5_readNumber h_58) me_X5_readNumber (g_recv cl3.1 rfl) tw_599 tw_601 tw_8 (hdd_of (by decide)) ⟨Nat.zero_le _, Nat.zero_le _⟩ rfl rfl (Nat.le_of_ble_eq_true rfl) dX5_readItem_110 ?_
        obtain ⟨ν_59, e_60, h⟩ := q_l h
        refine h_putiN 9 cl2 (shP hp1) (by decide) tw_134 rfl rfl e_60 dX5_readItem_113 ?_
        exact h_vret h dX5_readItem_116 rfl
      · replace h := q_f h hc
        exact h_vret h dX5_readItem_35 rfl
noncomputable def f_X6_hasRow (s0 : Nat) (ν : gN) : Option (Int32 × gN) :=
  if (ν.1 s0 1) < 100 then
    some (0, ν)
  else
    some (1, ν)
theorem me_X6_hasRow : g_me yX6_hasRow cX6_hasRow 1 ((Option.some .boolean)) 0 := ⟨tw_349, tw_78, ⟨by decide +kernel, by decide +kernel, by decide +kernel⟩, by decide⟩
set_option maxRecDepth 20000 in
set_option maxHeartbeats 2000000 in
theorem m_X6_hasRow {X : gX} {ad : Nat → Nat} {s0 : Nat} {ν : gN} {r : Int32 × gN} (hs0 : isS s0) (h : f_X6_hasRow s0 ν = some r) : h_ct X ad yX6_hasRow cX6_hasRow 1 ((Option.some .boolean)) 1 [.ref (ad s0)] ν (some (.int r.1), r.2) := by
  rw [f_X6_hasRow] at h
  refine h_ct_of (l := [(0, .ref (ad s0))]) (by decide) (Nat.le_of_ble_eq_true rfl) rfl ?_
  refine go_aload_n rfl 0 rfl dX6_hasRow_0 ?_
  refine h_geti 1 cl4 (shS hs0) (by decide) tw_267 rfl dX6_hasRow_1 ?_
  refine go_bipush kz_bipush_100 dX6_hasRow_4 ?_
  refine go_icmp_lt (tgt := 13) dX6_hasRow_6 rfl (fun hc => ?_) (fun hc => ?_)
  · replace h := q_t h hc
    refine go_iconst kz_iconst_0 dX6_hasRow_13 ?_
    exact h_zret rfl h dX6_hasRow_14 rfl
  · replace h := q_f h hc
    refine go_iconst kz_iconst_1 dX6_hasRow_9 ?_
    refine go_goto (tgt := 14) dX6_hasRow_10 rfl ?_
    exact h_zret rfl h dX6_hasRow_14 rfl
noncomputable def f_X6_hasElement (s0 : Nat) (x1 : Int32) (ν : gN) : Option (Int32 × gN) :=
  (f_X6_hasRow s0 ν).bind (fun r_1 =>
    if r_1.1 = 0 then
      some (0, r_1.2)
    else
      if x1 < 0 then
        some (0, r_1.2)
      else
        if (r_1.2.1 s0 2) ≤ x1 then
          some (0, r_1.2)
        else
          some (1, r_1.2))
theorem me_X6_hasElement : g_me yX6_hasElement cX6_hasElement 2 ((Option.some .boolean)) 1 := ⟨tw_353, tw_78, ⟨by decide +kernel, by decide +kernel, by decide +kernel⟩, by decide⟩
set_option maxRecDepth 20000 in
set_option maxHeartbeats 2000000 in
theorem m_X6_hasElement {X : gX} {ad : Nat → Nat} {s0 : Nat} {x1 : Int32} {ν : gN} {r : Int32 × gN} (hs0 : isS s0) (h : f_X6_hasElement s0 x1 ν = some r) : h_ct X ad yX6_hasElement cX6_hasElement 2 ((Option.some .boolean)) 2 [.ref (ad s0), .int x1] ν (some (.int r.1), r.2) := by
  rw [f_X6_hasElement] at h
  refine h_ct_of (l := [(0, .ref (ad s0)), (1, .int x1)]) (by decide) (Nat.le_of_ble_eq_true rfl) rfl ?_
  refine go_aload_n rfl 0 rfl dX6_hasElement_0 ?_
  obtain ⟨r_1, h_2, h⟩ := q_b h
  refine h_callVi (st := []) [] (m_X6_hasRow hs0 h_2) me_X6_hasRow (g_recv cl4.1 (shS hs0)) tw_354 tw_347 tw_348 (hdd_of (by decide)) ⟨Nat.zero_le _, Nat.zero_le _⟩ rfl rfl (Nat.le_of_ble_eq_true rfl) dX6_hasElement_1 ?_
  refine go_if_eq (tgt := 23) dX6_hasElement_4 rfl (fun hc => ?_) (fun hc => ?_)
  · replace h := q_t h hc
    refine go_iconst kz_iconst_0 dX6_hasElement_23 ?_
    exact h_zret rfl h dX6_hasElement_24 rfl
  · replace h := q_f h hc
    refine go_iload_n rfl 1 rfl dX6_hasElement_7 ?_
    refine go_if_lt (tgt := 23) dX6_hasElement_8 rfl (fun hc => ?_) (fun hc => ?_)
    · replace h := q_t h hc
      refine go_iconst kz_iconst_0 dX6_hasElement_23 ?_
      exact h_zret rfl h dX6_hasElement_24 rfl
    · replace h := q_f h hc
      refine go_iload_n rfl 1 rfl dX6_hasElement_11 ?_
      refine go_aload_n rfl 0 rfl dX6_hasElement_12 ?_
      refine h_geti 2 cl4 (shS hs0) (by decide) tw_269 rfl dX6_hasElement_13 ?_
      refine go_icmp_ge (tgt := 23) dX6_hasElement_16 rfl (fun hc => ?_) (fun hc => ?_)
      · replace h := q_t h hc
        refine go_iconst kz_iconst_0 dX6_hasElement_23 ?_
        exact h_zret rfl h dX6_hasElement_24 rfl
      · replace h := q_f h hc
        refine go_iconst kz_iconst_1 dX6_hasElement_19 ?_
        refine go_goto (tgt := 24) dX6_hasElement_20 rfl ?_
        exact h_zret rfl h dX6_hasElement_24 rfl
noncomputable def f_X6_elementAt (s0 : Nat) (x1 : Int32) (ν : gN) : Option (Int64 × gN) :=
  (f_X6_hasElement s0 x1 ν).bind (fun r_1 =>
    if r_1.1 = 0 then
      some (0, r_1.2)
    else
      if inb x1 160 = true then
        some (r_1.2.2 (s0 + 1) x1.toNatClampNeg, r_1.2)
      else none)
theorem me_X6_elementAt : g_me yX6_elementAt cX6_elementAt 2 ((Option.some .long)) 1 := ⟨tw_380, tw_78, ⟨by decide +kernel, by decide +kernel, by decide +kernel⟩, by decide⟩
set_option maxRecDepth 20000 in
set_option maxHeartbeats 2000000 in
theorem m_X6_elementAt {X : gX} {ad : Nat → Nat} {s0 : Nat} {x1 : Int32} {ν : gN} {r : Int64 × gN} (hs0 : isS s0) (h : f_X6_elementAt s0 x1 ν = some r) : h_ct X ad yX6_elementAt cX6_elementAt 2 ((Option.some .long)) 3 [.ref (ad s0), .int x1] ν (some (.long r.1), r.2) := by
  rw [f_X6_elementAt] at h
  refine h_ct_of (l := [(0, .ref (ad s0)), (1, .int x1)]) (by decide) (Nat.le_of_ble_eq_true rfl) rfl ?_
  refine go_aload_n rfl 0 rfl dX6_elementAt_0 ?_
  refine go_iload_n rfl 1 rfl dX6_elementAt_1 ?_
  obtain ⟨r_1, h_2, h⟩ := q_b h
  refine h_callVi (st := []) [.int x1] (m_X6_hasElement hs0 h_2) me_X6_hasElement (g_recv cl4.1 (shS hs0)) tw_381 tw_351 tw_352 (hdd_of (by decide)) ⟨Nat.zero_le _, Nat.zero_le _⟩ rfl rfl (Nat.le_of_ble_eq_true rfl) dX6_elementAt_2 ?_
  refine go_if_eq (tgt := 17) dX6_elementAt_5 rfl (fun hc => ?_) (fun hc => ?_)
  · replace h := q_t h hc
    refine go_lconst (v := 0) rfl dX6_elementAt_17 ?_
    exact h_lret h dX6_elementAt_18 rfl
  · replace h := q_f h hc
    refine go_aload_n rfl 0 rfl dX6_elementAt_8 ?_
    refine h_getr 0 cl4 (shS hs0) (by decide) tw_265 (s0 + 1) (fvS hs0) dX6_elementAt_9 ?_
    refine go_iload_n rfl 1 rfl dX6_elementAt_12 ?_
    obtain ⟨hg_3, h⟩ := q_g h
    refine h_lald 160 (shS1 hs0) hg_3 dX6_elementAt_13 ?_
    refine go_goto (tgt := 18) dX6_elementAt_14 rfl ?_
    exact h_lret h dX6_elementAt_18 rfl
noncomputable def f_X6_intAt (s0 : Nat) (x1 : Int32) (ν : gN) : Option (Int32 × gN) :=
  (f_X6_elementAt s0 x1 ν).bind (fun r_1 =>
    some (r_1.1.toInt32, r_1.2))
theorem me_X6_intAt : g_me yX6_intAt cX6_intAt 2 ((Option.some .int)) 1 := ⟨tw_517, tw_78, ⟨by decide +kernel, by decide +kernel, by decide +kernel⟩, by decide⟩
set_option maxRecDepth 20000 in
set_option maxHeartbeats 2000000 in
theorem m_X6_intAt {X : gX} {ad : Nat → Nat} {s0 : Nat} {x1 : Int32} {ν : gN} {r : Int32 × gN} (hs0 : isS s0) (h : f_X6_intAt s0 x1 ν = some r) : h_ct X ad yX6_intAt cX6_intAt 2 ((Option.some .int)) 4 [.ref (ad s0), .int x1] ν (some (.int r.1), r.2) := by
  rw [f_X6_intAt] at h
  refine h_ct_of (l := [(0, .ref (ad s0)), (1, .int x1)]) (by decide) (Nat.le_of_ble_eq_true rfl) rfl ?_
  refine go_aload_n rfl 0 rfl dX6_intAt_0 ?_
  refine go_iload_n rfl 1 rfl dX6_intAt_1 ?_
  obtain ⟨r_1, h_2, h⟩ := q_b h
  refine h_callVl (st := []) [.int x1] (m_X6_elementAt hs0 h_2) me_X6_elementAt (g_recv cl4.1 (shS hs0)) tw_518 tw_378 tw_379 (hdd_of (by decide)) ⟨Nat.zero_le _, Nat.zero_le _⟩ rfl rfl (Nat.le_of_ble_eq_true rfl) dX6_intAt_2 ?_
  refine go_l2i dX6_intAt_5 ?_
  exact h_iret h dX6_intAt_6 rfl
noncomputable def f_X5_read_L10 (y1 : Nat) (y2 : Nat) (k35 : gN → Option (Int32 × gN)) : Nat → Int32 → gN → Option (Int32 × gN)
  | 0, _, _ => none
  | n + 1, y3, ν =>
    if (ν.1 33 1) ≤ y3 then
      k35  ν
    else
      (f_X6_intAt y1 y3 ν).bind (fun r_3 =>
        if inb y3 160 = true then
          qL (nWI r_3.2 34 y3.toNatClampNeg r_3.1) (fun ν_6 =>
            f_X5_read_L10 y1 y2 k35 n (y3 + 1) ν_6)
        else none)
noncomputable def f_X5_read_L50 (y2 : Nat) (k126 : Int32 → gN → Option (Int32 × gN)) : Nat → Int32 → Int32 → gN → Option (Int32 × gN)
  | 0, _, _, _ => none
  | n + 1, y3, y4, ν =>
    if y4 = 0 then
      k126 y3 ν
    else
      if (ν.1 33 1) < y3 then
        k126 y3 ν
      else
        (f_X5_readItem y2 ν).bind (fun r_13 =>
          if (r_13.1 33 4) = (-1) then
            if (r_13.1 33 1) ≤ (r_13.1 33 2) then
              if (0 : Int32) = 0 then
                f_X5_read_L50 y2 k126 n (y3 + 1) 0 r_13
              else
                (f_X5_readSign 59 r_13).bind (fun r_17 =>
                  if (r_17.1 33 4) = (-1) then
                    f_X5_read_L50 y2 k126 n (y3 + 1) 1 r_17
                  else
                    f_X5_read_L50 y2 k126 n (y3 + 1) 0 r_17)
            else
              if (1 : Int32) = 0 then
                f_X5_read_L50 y2 k126 n (y3 + 1) 1 r_13
              else
                (f_X5_readSign 59 r_13).bind (fun r_19 =>
                  if (r_19.1 33 4) = (-1) then
                    f_X5_read_L50 y2 k126 n (y3 + 1) 1 r_19
                  else
                    f_X5_read_L50 y2 k126 n (y3 + 1) 0 r_19)
          else
            if (0 : Int32) = 0 then
              f_X5_read_L50 y2 k126 n (y3 + 1) 0 r_13
            else
              (f_X5_readSign 59 r_13).bind (fun r_15 =>
                if (r_15.1 33 4) = (-1) then
                  f_X5_read_L50 y2 k126 n (y3 + 1) 1 r_15
                else
                  f_X5_read_L50 y2 k126 n (y3 + 1) 0 r_15))
noncomputable def f_X5_read (s1 : Nat) (p2 : Nat) (ν : gN) : Option (Int32 × gN) :=
  qL (nWI ν 33 1 (ν.1 s1 2)) (fun ν_1 =>
    f_X5_read_L10 s1 p2 (fun ν_8 =>
      qL (nWI ν_8 33 2 0) (fun ν_9 =>
        qL (nWI ν_9 33 4 (-1)) (fun ν_11 =>
          f_X5_read_L50 p2 (fun z3_21 ν_22 =>
            some (z3_21, ν_22)) FU 0 1 ν_11))) FU 0 ν_1)
theorem me_X5_read : g_me yX5_read cX5_read 5 ((Option.some .int)) 2 := ⟨tw_513, tw_76, ⟨by decide +kernel, by decide +kernel, by decide +kernel⟩, by decide⟩
set_option maxRecDepth 20000 in
set_option maxHeartbeats 2000000 in
theorem m_X5_read_L10 {X : gX} {ad : Nat → Nat} {y1 : Nat} {y2 : Nat} {k35 : gN → Option (Int32 × gN)} (hy1 : isS y1) (hy2 : isP y2) : ∀ (n : Nat) (y3 : Int32) (ν : gN) (r : Int32 × gN), f_X5_read_L10 y1 y2 k35 n y3 ν = some r → (∀ (ν1 : gN), k35 ν1 = some r → h_go X ad RX5 "read" cX5_read 5 ((Option.some .int)) 8 (some (.int r.1), r.2) 35 [(0, .ref (ad 33)), (2, .ref (ad y2))] [] ν1) → h_go X ad RX5 "read" cX5_read 5 ((Option.some .int)) 8 (some (.int r.1), r.2) 10 [(0, .ref (ad 33)), (1, .ref (ad y1)), (2, .ref (ad y2)), (3, .int y3)] [] ν := by
  intro n
  induction n with
  | zero => intro y3 ν r h hk35; rw [f_X5_read_L10] at h; exact q_n h
  | succ n ih =>
    intro y3 ν r h hk35
    rw [f_X5_read_L10] at h
    refine go_iload_n rfl 3 rfl dX5_read_10 ?_
    refine go_aload_n rfl 0 rfl dX5_read_11 ?_
    refine h_geti 1 cl3 rfl (by decide) tw_221 rfl dX5_read_12 ?_
    refine go_icmp_ge (tgt := 35) dX5_read_15 rfl (fun hc => ?_) (fun hc => ?_)
    · replace h := q_t h hc
      refine go_sub (l' := [(0, .ref (ad 33)), (2, .ref (ad y2))]) [0, 2] rfl ?_
      exact hk35  _ h
    · replace h := q_f h hc
      refine go_aload_n rfl 0 rfl dX5_read_18 ?_
      refine h_getr 0 cl3 rfl (by decide) tw_220 34 rfl dX5_read_19 ?_
      refine go_iload_n rfl 3 rfl dX5_read_22 ?_
      refine go_aload_n rfl 1 rfl dX5_read_23 ?_
      refine go_iload_n rfl 3 rfl dX5_read_24 ?_
      obtain ⟨r_3, h_4, h⟩ := q_b h
      refine h_callVi (st := [.int y3, .ref (ad 34)]) [.int y3] (m_X6_intAt hy1 h_4) me_X6_intAt (g_recv cl4.1 (shS hy1)) tw_514 tw_515 tw_516 (hdd_of (by decide)) ⟨Nat.zero_le _, Nat.zero_le _⟩ rfl rfl (Nat.le_of_ble_eq_true rfl) dX5_read_25 ?_
      obtain ⟨hg_5, h⟩ := q_g h
      obtain ⟨ν_6, e_7, h⟩ := q_l h
      refine h_iast 160 rfl hg_5 e_7 dX5_read_28 ?_
      refine h_iinc (l' := [(3, .int (y3 + 1)), (0, .ref (ad 33)), (1, .ref (ad y1)), (2, .ref (ad y2))]) dX5_read_29 3 rfl kz_iconst_1 (by decide) rfl ?_
      refine go_goto (tgt := 10) dX5_read_32 rfl ?_
      refine go_sub (l' := [(0, .ref (ad 33)), (1, .ref (ad y1)), (2, .ref (ad y2)), (3, .int (y3 + 1))]) [1, 2, 3, 0] rfl ?_
      exact ih _ _ _ h hk35
set_option maxRecDepth 20000 in
set_option maxHeartbeats 2000000 in
theorem m_X5_read_L50 {X : gX} {ad : Nat → Nat} {y2 : Nat} {k126 : Int32 → gN → Option (Int32 × gN)} (hy2 : isP y2) : ∀ (n : Nat) (y3 : Int32) (y4 : Int32) (ν : gN) (r : Int32 × gN), f_X5_read_L50 y2 k126 n y3 y4 ν = some r → (∀ (z3 : Int32) (ν1 : gN), k126 z3 ν1 = some r → h_go X ad RX5 "read" cX5_read 5 ((Option.some .int)) 8 (some (.int r.1), r.2) 126 [(3, .int z3)] [] ν1) → h_go X ad RX5 "read" cX5_read 5 ((Option.some .int)) 8 (some (.int r.1), r.2) 50 [(0, .ref (ad 33)), (2, .ref (ad y2)), (3, .int y3), (4, .int y4)] [] ν := by
  intro n
  induction n with
  | zero => intro y3 y4 ν r h hk126; rw [f_X5_read_L50] at h; exact q_n h
  | succ n ih =>
    intro y3 y4 ν r h hk126
    rw [f_X5_read_L50] at h
    refine go_iload 3 rfl dX5_read_50 ?_
    refine go_if_eq (tgt := 126) dX5_read_52 rfl (fun hc => ?_) (fun hc => ?_)
    · replace h := q_t h hc
      refine go_sub (l' := [(3, .int y3)]) [2] rfl ?_
      exact hk126 _ _ h
    · replace h := q_f h hc
      refine go_iload_n rfl 2 rfl dX5_read_55 ?_
      refine go_aload_n rfl 0 rfl dX5_read_56 ?_
      refine h_geti 1 cl3 rfl (by decide) tw_221 rfl dX5_read_57 ?_
      refine go_icmp_gt (tgt := 126) dX5_read_60 rfl (fun hc => ?_) (fun hc => ?_)
      · replace h := q_t h hc
        refine go_sub (l' := [(3, .int y3)]) [2] rfl ?_
        exact hk126 _ _ h
      · replace h := q_f h hc
        refine go_aload_n rfl 0 rfl dX5_read_63 ?_
        refine go_aload_n rfl 1 rfl dX5_read_64 ?_
        obtain ⟨r_13, h_14, h⟩ := q_b h
        refine h_callVv (st := []) [.ref (ad y2)] (m_X5_readItem hy2 h_14) me_X5_readItem (g_recv cl3.1 rfl) tw_519 tw_521 tw_3 (hdd_of (by decide)) ⟨Nat.zero_le _, Nat.zero_le _⟩ rfl rfl (Nat.le_of_ble_eq_true rfl) dX5_read_65 ?_
        refine h_iinc (l' := [(3, .int (y3 + 1)), (0, .ref (ad 33)), (2, .ref (ad y2)), (4, .int y4)]) dX5_read_68 2 rfl kz_iconst_1 (by decide) rfl ?_
        refine go_aload_n rfl 1 rfl dX5_read_71 ?_
        refine h_geti 4 cl3 rfl (by decide) tw_224 rfl dX5_read_72 ?_
        refine go_iconst kz_iconst_m1 dX5_read_75 ?_
        refine go_icmp_ne (tgt := 94) dX5_read_76 rfl (fun hc => ?_) (fun hc => ?_)
        · replace h := q_f h hc
          refine go_iconst kz_iconst_0 dX5_read_94 ?_
          refine go_istore (l' := [(4, .int 0), (3, .int (y3 + 1)), (0, .ref (ad 33)), (2, .ref (ad y2))]) dX5_read_95 (by decide) rfl ?_
          refine go_iload 0 rfl dX5_read_97 ?_
          refine go_if_eq (tgt := 50) dX5_read_99 rfl (fun hc => ?_) (fun hc => ?_)
          · replace h := q_t h hc
            refine go_sub (l' := [(0, .ref (ad 33)), (2, .ref (ad y2)), (3, .int (y3 + 1)), (4, .int 0)]) [2, 3, 1, 0] rfl ?_
            exact ih _ _ _ _ h hk126
          · replace h := q_f h hc
            refine go_aload_n rfl 2 rfl dX5_read_102 ?_
            refine go_bipush kz_bipush_59 dX5_read_103 ?_
            obtain ⟨r_15, h_16, h⟩ := q_b h
            refine h_callVv (st := []) [.int 59] (m_X5_readSign h_16) me_X5_readSign (g_recv cl3.1 rfl) tw_603 tw_605 tw_9 (hdd_of (by decide)) ⟨Nat.zero_le _, Nat.zero_le _⟩ rfl rfl (Nat.le_of_ble_eq_true rfl) dX5_read_105 ?_
            refine go_aload_n rfl 2 rfl dX5_read_108 ?_
            refine h_geti 4 cl3 rfl (by decide) tw_224 rfl dX5_read_109 ?_
            refine go_iconst kz_iconst_m1 dX5_read_112 ?_
            refine go_icmp_ne (tgt := 120) dX5_read_113 rfl (fun hc => ?_) (fun hc => ?_)
            · replace h := q_f h hc
              refine go_iconst kz_iconst_0 dX5_read_120 ?_
              refine go_istore (l' := [(4, .int 0), (3, .int (y3 + 1)), (0, .ref (ad 33)), (2, .ref (ad y2))]) dX5_read_121 (by decide) rfl ?_
              refine go_goto (tgt := 50) dX5_read_123 rfl ?_
              refine go_sub (l' := [(0, .ref (ad 33)), (2, .ref (ad y2)), (3, .int (y3 + 1)), (4, .int 0)]) [2, 3, 1, 0] rfl ?_
              exact ih _ _ _ _ h hk126
            · replace h := q_t h hc
              refine go_iconst kz_iconst_1 dX5_read_116 ?_
              refine go_goto (tgt := 121) dX5_read_117 rfl ?_
              refine go_istore (l' := [(4, .int 1), (3, .int (y3 + 1)), (0, .ref (ad 33)), (2, .ref (ad y2))]) dX5_read_121 (by decide) rfl ?_
              refine go_goto (tgt := 50) dX5_read_123 rfl ?_
              refine go_sub (l' := [(0, .ref (ad 33)), (2, .ref (ad y2)), (3, .int (y3 + 1)), (4, .int 1)]) [2, 3, 1, 0] rfl ?_
              exact ih _ _ _ _ h hk126
        · replace h := q_t h hc
          refine go_aload_n rfl 1 rfl dX5_read_79 ?_
          refine h_geti 2 cl3 rfl (by decide) tw_222 rfl dX5_read_80 ?_
          refine go_aload_n rfl 1 rfl dX5_read_83 ?_
          refine h_geti 1 cl3 rfl (by decide) tw_221 rfl dX5_read_84 ?_
          refine go_icmp_ge (tgt := 94) dX5_read_87 rfl (fun hc => ?_) (fun hc => ?_)
          · replace h := q_t h hc
            refine go_iconst kz_iconst_0 dX5_read_94 ?_
            refine go_istore (l' := [(4, .int 0), (3, .int (y3 + 1)), (0, .ref (ad 33)), (2, .ref (ad y2))]) dX5_read_95 (by decide) rfl ?_
            refine go_iload 0 rfl dX5_read_97 ?_
            refine go_if_eq (tgt := 50) dX5_read_99 rfl (fun hc => ?_) (fun hc => ?_)
            · replace h := q_t h hc
              refine go_sub (l' := [(0, .ref (ad 33)), (2, .ref (ad y2)), (3, .int (y3 + 1)), (4, .int 0)]) [2, 3, 1, 0] rfl ?_
              exact ih _ _ _ _ h hk126
            · replace h := q_f h hc
              refine go_aload_n rfl 2 rfl dX5_read_102 ?_
              refine go_bipush kz_bipush_59 dX5_read_103 ?_
              obtain ⟨r_17, h_18, h⟩ := q_b h
              refine h_callVv (st := []) [.int 59] (m_X5_readSign h_18) me_X5_readSign (g_recv cl3.1 rfl) tw_603 tw_605 tw_9 (hdd_of (by decide)) ⟨Nat.zero_le _, Nat.zero_le _⟩ rfl rfl (Nat.le_of_ble_eq_true rfl) dX5_read_105 ?_
              refine go_aload_n rfl 2 rfl dX5_read_108 ?_
              refine h_geti 4 cl3 rfl (by decide) tw_224 rfl dX5_read_109 ?_
              refine go_iconst kz_iconst_m1 dX5_read_112 ?_
              refine go_icmp_ne (tgt := 120) dX5_read_113 rfl (fun hc => ?_) (fun hc => ?_)
              · replace h := q_f h hc
                refine go_iconst kz_iconst_0 dX5_read_120 ?_
                refine go_istore (l' := [(4, .int 0), (3, .int (y3 + 1)), (0, .ref (ad 33)), (2, .ref (ad y2))]) dX5_read_121 (by decide) rfl ?_
                refine go_goto (tgt := 50) dX5_read_123 rfl ?_
                refine go_sub (l' := [(0, .ref (ad 33)), (2, .ref (ad y2)), (3, .int (y3 + 1)), (4, .int 0)]) [2, 3, 1, 0] rfl ?_
                exact ih _ _ _ _ h hk126
              · replace h := q_t h hc
                refine go_iconst kz_iconst_1 dX5_read_116 ?_
                refine go_goto (tgt := 121) dX5_read_117 rfl ?_
                refine go_istore (l' := [(4, .int 1), (3, .int (y3 + 1)), (0, .ref (ad 33)), (2, .ref (ad y2))]) dX5_read_121 (by decide) rfl ?_
                refine go_goto (tgt := 50) dX5_read_123 rfl ?_
                refine go_sub (l' := [(0, .ref (ad 33)), (2, .ref (ad y2)), (3, .int (y3 + 1)), (4, .int 1)]) [2, 3, 1, 0] rfl ?_
                exact ih _ _ _ _ h hk126
          · replace h := q_f h hc
            refine go_iconst kz_iconst_1 dX5_read_90 ?_
            refine go_goto (tgt := 95) dX5_read_91 rfl ?_
            refine go_istore (l' := [(4, .int 1), (3, .int (y3 + 1)), (0, .ref (ad 33)), (2, .ref (ad y2))]) dX5_read_95 (by decide) rfl ?_
            refine go_iload 0 rfl dX5_read_97 ?_
            refine go_if_eq (tgt := 50) dX5_read_99 rfl (fun hc => ?_) (fun hc => ?_)
            · replace h := q_t h hc
              refine go_sub (l' := [(0, .ref (ad 33)), (2, .ref (ad y2)), (3, .int (y3 + 1)), (4, .int 1)]) [2, 3, 1, 0] rfl ?_
              exact ih _ _ _ _ h hk126
            · replace h := q_f h hc
              refine go_aload_n rfl 2 rfl dX5_read_102 ?_
              refine go_bipush kz_bipush_59 dX5_read_103 ?_
              obtain ⟨r_19, h_20, h⟩ := q_b h
              refine h_callVv (st := []) [.int 59] (m_X5_readSign h_20) me_X5_readSign (g_recv cl3.1 rfl) tw_603 tw_605 tw_9 (hdd_of (by decide)) ⟨Nat.zero_le _, Nat.zero_le _⟩ rfl rfl (Nat.le_of_ble_eq_true rfl) dX5_read_105 ?_
              refine go_aload_n rfl 2 rfl dX5_read_108 ?_
              refine h_geti 4 cl3 rfl (by decide) tw_224 rfl dX5_read_109 ?_
              refine go_iconst kz_iconst_m1 dX5_read_112 ?_
              refine go_icmp_ne (tgt := 120) dX5_read_113 rfl (fun hc => ?_) (fun hc => ?_)
              · replace h := q_f h hc
                refine go_iconst kz_iconst_0 dX5_read_120 ?_
                refine go_istore (l' := [(4, .int 0), (3, .int (y3 + 1)), (0, .ref (ad 33)), (2, .ref (ad y2))]) dX5_read_121 (by decide) rfl ?_
                refine go_goto (tgt := 50) dX5_read_123 rfl ?_
                refine go_sub (l' := [(0, .ref (ad 33)), (2, .ref (ad y2)), (3, .int (y3 + 1)), (4, .int 0)]) [2, 3, 1, 0] rfl ?_
                exact ih _ _ _ _ h hk126
              · replace h := q_t h hc
                refine go_iconst kz_iconst_1 dX5_read_116 ?_
                refine go_goto (tgt := 121) dX5_read_117 rfl ?_
                refine go_istore (l' := [(4, .int 1), (3, .int (y3 + 1)), (0, .ref (ad 33)), (2, .ref (ad y2))]) dX5_read_121 (by decide) rfl ?_
                refine go_goto (tgt := 50) dX5_read_123 rfl ?_
                refine go_sub (l' := [(0, .ref (ad 33)), (2, .ref (ad y2)), (3, .int (y3 + 1)), (4, .int 1)]) [2, 3, 1, 0] rfl ?_
                exact ih _ _ _ _ h hk126
set_option maxRecDepth 20000 in
set_option maxHeartbeats 2000000 in
theorem m_X5_read {X : gX} {ad : Nat → Nat} {s1 : Nat} {p2 : Nat} {ν : gN} {r : Int32 × gN} (hs1 : isS s1) (hp2 : isP p2) (h : f_X5_read s1 p2 ν = some r) : h_ct X ad yX5_read cX5_read 5 ((Option.some .int)) 8 [.ref (ad 33), .ref (ad s1), .ref (ad p2)] ν (some (.int r.1), r.2) := by
  rw [f_X5_read] at h
  refine h_ct_of (l := [(0, .ref (ad 33)), (1, .ref (ad s1)), (2, .ref (ad p2))]) (by decide) (Nat.le_of_ble_eq_true rfl) rfl ?_
  refine go_aload_n rfl 0 rfl dX5_read_0 ?_
  refine go_aload_n rfl 1 rfl dX5_read_1 ?_
  refine h_getiN 2 cl4 (shS hs1) (by decide) tw_270 rfl dX5_read_2 ?_
  obtain ⟨ν_1, e_2, h⟩ := q_l h
  refine h_puti 1 cl3 rfl (by decide) tw_221 rfl rfl e_2 dX5_read_5 ?_
  refine go_iconst kz_iconst_0 dX5_read_8 ?_
  refine go_istore_n (l' := [(3, .int 0), (0, .ref (ad 33)), (1, .ref (ad s1)), (2, .ref (ad p2))]) dX5_read_9 rfl (by decide) rfl ?_
  refine go_sub (l' := [(0, .ref (ad 33)), (1, .ref (ad s1)), (2, .ref (ad p2)), (3, .int 0)]) [1, 2, 3, 0] rfl ?_
  refine m_X5_read_L10 hs1 hp2 FU _ _ _ h (fun ν_8 h => ?_)
  refine go_aload_n rfl 0 rfl dX5_read_35 ?_
  refine go_iconst kz_iconst_0 dX5_read_36 ?_
  obtain ⟨ν_9, e_10, h⟩ := q_l h
  refine h_puti 2 cl3 rfl (by decide) tw_222 rfl rfl e_10 dX5_read_37 ?_
  refine go_aload_n rfl 0 rfl dX5_read_40 ?_
  refine go_iconst kz_iconst_m1 dX5_read_41 ?_
  obtain ⟨ν_11, e_12, h⟩ := q_l h
  refine h_puti 4 cl3 rfl (by decide) tw_224 rfl rfl e_12 dX5_read_42 ?_
  refine go_iconst kz_iconst_0 dX5_read_45 ?_
  refine go_istore_n (l' := [(3, .int 0), (0, .ref (ad 33)), (2, .ref (ad p2))]) dX5_read_46 rfl (by decide) rfl ?_
  refine go_iconst kz_iconst_1 dX5_read_47 ?_
  refine go_istore (l' := [(4, .int 1), (3, .int 0), (0, .ref (ad 33)), (2, .ref (ad p2))]) dX5_read_48 (by decide) rfl ?_
  refine go_sub (l' := [(0, .ref (ad 33)), (2, .ref (ad p2)), (3, .int 0), (4, .int 1)]) [2, 3, 1, 0] rfl ?_
  refine m_X5_read_L50 hp2 FU _ _ _ _ h (fun z3_21 ν_22 h => ?_)
  refine go_iload_n rfl 0 rfl dX5_read_126 ?_
  exact h_iret h dX5_read_127 rfl
noncomputable def f_X6_hasPerson (s0 : Nat) (ν : gN) : Option (Int32 × gN) :=
  if (ν.1 s0 1) < 0 then
    some (0, ν)
  else
    if 100 ≤ (ν.1 s0 1) then
      some (0, ν)
    else
      some (1, ν)
theorem me_X6_hasPerson : g_me yX6_hasPerson cX6_hasPerson 1 ((Option.some .boolean)) 0 := ⟨tw_345, tw_78, ⟨by decide +kernel, by decide +kernel, by decide +kernel⟩, by decide⟩
set_option maxRecDepth 20000 in
set_option maxHeartbeats 2000000 in
theorem m_X6_hasPerson {X : gX} {ad : Nat → Nat} {s0 : Nat} {ν : gN} {r : Int32 × gN} (hs0 : isS s0) (h : f_X6_hasPerson s0 ν = some r) : h_ct X ad yX6_hasPerson cX6_hasPerson 1 ((Option.some .boolean)) 1 [.ref (ad s0)] ν (some (.int r.1), r.2) := by
  rw [f_X6_hasPerson] at h
  refine h_ct_of (l := [(0, .ref (ad s0))]) (by decide) (Nat.le_of_ble_eq_true rfl) rfl ?_
  refine go_aload_n rfl 0 rfl dX6_hasPerson_0 ?_
  refine h_geti 1 cl4 (shS hs0) (by decide) tw_267 rfl dX6_hasPerson_1 ?_
  refine go_if_lt (tgt := 20) dX6_hasPerson_4 rfl (fun hc => ?_) (fun hc => ?_)
  · replace h := q_t h hc
    refine go_iconst kz_iconst_0 dX6_hasPerson_20 ?_
    exact h_zret rfl h dX6_hasPerson_21 rfl
  · replace h := q_f h hc
    refine go_aload_n rfl 0 rfl dX6_hasPerson_7 ?_
    refine h_geti 1 cl4 (shS hs0) (by decide) tw_267 rfl dX6_hasPerson_8 ?_
    refine go_bipush kz_bipush_100 dX6_hasPerson_11 ?_
    refine go_icmp_ge (tgt := 20) dX6_hasPerson_13 rfl (fun hc => ?_) (fun hc => ?_)
    · replace h := q_t h hc
      refine go_iconst kz_iconst_0 dX6_hasPerson_20 ?_
      exact h_zret rfl h dX6_hasPerson_21 rfl
    · replace h := q_f h hc
      refine go_iconst kz_iconst_1 dX6_hasPerson_16 ?_
      refine go_goto (tgt := 21) dX6_hasPerson_17 rfl ?_
      exact h_zret rfl h dX6_hasPerson_21 rfl
noncomputable def f_X6_hasStretch (s0 : Nat) (x1 : Int32) (x2 : Int32) (ν : gN) : Option (Int32 × gN) :=
  if x1 < 0 then
    some (0, ν)
  else
    if x2 < 0 then
      some (0, ν)
    else
      if ((ν.1 s0 2) - x2) < x1 then
        some (0, ν)
      else
        some (1, ν)
theorem me_X6_hasStretch : g_me yX6_hasStretch cX6_hasStretch 3 ((Option.some .boolean)) 2 := ⟨tw_369, tw_78, ⟨by decide +kernel, by decide +kernel, by decide +kernel⟩, by decide⟩
set_option maxRecDepth 20000 in
set_option maxHeartbeats 2000000 in
theorem m_X6_hasStretch {X : gX} {ad : Nat → Nat} {s0 : Nat} {x1 : Int32} {x2 : Int32} {ν : gN} {r : Int32 × gN} (hs0 : isS s0) (h : f_X6_hasStretch s0 x1 x2 ν = some r) : h_ct X ad yX6_hasStretch cX6_hasStretch 3 ((Option.some .boolean)) 1 [.ref (ad s0), .int x1, .int x2] ν (some (.int r.1), r.2) := by
  rw [f_X6_hasStretch] at h
  refine h_ct_of (l := [(0, .ref (ad s0)), (1, .int x1), (2, .int x2)]) (by decide) (Nat.le_of_ble_eq_true rfl) rfl ?_
  refine go_iload_n rfl 1 rfl dX6_hasStretch_0 ?_
  refine go_if_lt (tgt := 22) dX6_hasStretch_1 rfl (fun hc => ?_) (fun hc => ?_)
  · replace h := q_t h hc
    refine go_iconst kz_iconst_0 dX6_hasStretch_22 ?_
    exact h_zret rfl h dX6_hasStretch_23 rfl
  · replace h := q_f h hc
    refine go_iload_n rfl 2 rfl dX6_hasStretch_4 ?_
    refine go_if_lt (tgt := 22) dX6_hasStretch_5 rfl (fun hc => ?_) (fun hc => ?_)
    · replace h := q_t h hc
      refine go_iconst kz_iconst_0 dX6_hasStretch_22 ?_
      exact h_zret rfl h dX6_hasStretch_23 rfl
    · replace h := q_f h hc
      refine go_iload_n rfl 1 rfl dX6_hasStretch_8 ?_
      refine go_aload_n rfl 0 rfl dX6_hasStretch_9 ?_
      refine h_geti 2 cl4 (shS hs0) (by decide) tw_269 rfl dX6_hasStretch_10 ?_
      refine go_iload_n rfl 2 rfl dX6_hasStretch_13 ?_
      refine go_isub dX6_hasStretch_14 ?_
      refine go_icmp_gt (tgt := 22) dX6_hasStretch_15 rfl (fun hc => ?_) (fun hc => ?_)
      · replace h := q_t h hc
        refine go_iconst kz_iconst_0 dX6_hasStretch_22 ?_
        exact h_zret rfl h dX6_hasStretch_23 rfl
      · replace h := q_f h hc
        refine go_iconst kz_iconst_1 dX6_hasStretch_18 ?_
        refine go_goto (tgt := 23) dX6_hasStretch_19 rfl ?_
        exact h_zret rfl h dX6_hasStretch_23 rfl
noncomputable def f_X6_putElement (s0 : Nat) (x1 : Int32) (x2 : Int64) (ν : gN) : Option (gN) :=
  if ((ν.1 s0 1) - 100) = 0 then
    if inb x1 160 = true then
      qL (nWL ν (s0 + 1) x1.toNatClampNeg ((j_i2b x2.toInt32).toInt64)) (fun ν_3 =>
        some ν_3)
    else none
  else
  if ((ν.1 s0 1) - 100) = 1 then
    if inb x1 160 = true then
      qL (nWL ν (s0 + 1) x1.toNatClampNeg ((j_i2s x2.toInt32).toInt64)) (fun ν_7 =>
        some ν_7)
    else none
  else
  if ((ν.1 s0 1) - 100) = 2 then
    if inb x1 160 = true then
      qL (nWL ν (s0 + 1) x1.toNatClampNeg x2.toInt32.toInt64) (fun ν_11 =>
        some ν_11)
    else none
  else
  if inb x1 160 = true then
    qL (nWL ν (s0 + 1) x1.toNatClampNeg x2) (fun ν_14 =>
      some ν_14)
  else none
theorem me_X6_putElement : g_me yX6_putElement cX6_putElement 4 (none) 2 := ⟨tw_358, tw_78, ⟨by decide +kernel, by decide +kernel, by decide +kernel⟩, by decide⟩
set_option maxRecDepth 20000 in
set_option maxHeartbeats 2000000 in
theorem m_X6_putElement {X : gX} {ad : Nat → Nat} {s0 : Nat} {x1 : Int32} {x2 : Int64} {ν : gN} {r : gN} (hs0 : isS s0) (h : f_X6_putElement s0 x1 x2 ν = some r) : h_ct X ad yX6_putElement cX6_putElement 4 (none) 1 [.ref (ad s0), .int x1, .long x2] ν (none, r) := by
  rw [f_X6_putElement] at h
  refine h_ct_of (l := [(0, .ref (ad s0)), (1, .int x1), (2, .long x2)]) (by decide) (Nat.le_of_ble_eq_true rfl) rfl ?_
  refine go_aload_n rfl 0 rfl dX6_putElement_0 ?_
  refine h_geti 1 cl4 (shS hs0) (by decide) tw_267 rfl dX6_putElement_1 ?_
  refine go_bipush kz_bipush_100 dX6_putElement_4 ?_
  refine go_isub dX6_putElement_6 ?_
  by_cases hk_1 : ((ν.1 s0 1) - 100) = 0
  · replace h := q_t h hk_1
    refine h_tbT (tgt := 32) (off := 25) hk_1 dX6_putElement_7 (by decide) (by decide) rfl rfl ?_
    refine go_aload_n rfl 0 rfl dX6_putElement_32 ?_
    refine h_getr 0 cl4 (shS hs0) (by decide) tw_265 (s0 + 1) (fvS hs0) dX6_putElement_33 ?_
    refine go_iload_n rfl 1 rfl dX6_putElement_36 ?_
    refine go_lload_n rfl 2 rfl dX6_putElement_37 ?_
    refine go_l2i dX6_putElement_38 ?_
    refine h_i2b dX6_putElement_39 ?_
    refine go_i2l dX6_putElement_40 ?_
    obtain ⟨hg_2, h⟩ := q_g h
    obtain ⟨ν_3, e_4, h⟩ := q_l h
    refine h_last 160 (shS1 hs0) hg_2 e_4 dX6_putElement_41 ?_
    refine go_goto (tgt := 77) dX6_putElement_42 rfl ?_
    exact h_vret h dX6_putElement_77 rfl
  replace h := q_f h hk_1
  by_cases hk_5 : ((ν.1 s0 1) - 100) = 1
  · replace h := q_t h hk_5
    refine h_tbT (tgt := 45) (off := 38) hk_5 dX6_putElement_7 (by decide) (by decide) rfl rfl ?_
    refine go_aload_n rfl 0 rfl dX6_putElement_45 ?_
    refine h_getr 0 cl4 (shS hs0) (by decide) tw_265 (s0 + 1) (fvS hs0) dX6_putElement_46 ?_
    refine go_iload_n rfl 1 rfl dX6_putElement_49 ?_
    refine go_lload_n rfl 2 rfl dX6_putElement_50 ?_
    refine go_l2i dX6_putElement_51 ?_
    refine h_i2s dX6_putElement_52 ?_
    refine go_i2l dX6_putElement_53 ?_
    obtain ⟨hg_6, h⟩ := q_g h
    obtain ⟨ν_7, e_8, h⟩ := q_l h
    refine h_last 160 (shS1 hs0) hg_6 e_8 dX6_putElement_54 ?_
    refine go_goto (tgt := 77) dX6_putElement_55 rfl ?_
    exact h_vret h dX6_putElement_77 rfl
  replace h := q_f h hk_5
  by_cases hk_9 : ((ν.1 s0 1) - 100) = 2
  · replace h := q_t h hk_9
    refine h_tbT (tgt := 58) (off := 51) hk_9 dX6_putElement_7 (by decide) (by decide) rfl rfl ?_
    refine go_aload_n rfl 0 rfl dX6_putElement_58 ?_
    refine h_getr 0 cl4 (shS hs0) (by decide) tw_265 (s0 + 1) (fvS hs0) dX6_putElement_59 ?_
    refine go_iload_n rfl 1 rfl dX6_putElement_62 ?_
    refine go_lload_n rfl 2 rfl dX6_putElement_63 ?_
    refine go_l2i dX6_putElement_64 ?_
    refine go_i2l dX6_putElement_65 ?_
    obtain ⟨hg_10, h⟩ := q_g h
    obtain ⟨ν_11, e_12, h⟩ := q_l h
    refine h_last 160 (shS1 hs0) hg_10 e_12 dX6_putElement_66 ?_
    refine go_goto (tgt := 77) dX6_putElement_67 rfl ?_
    exact h_vret h dX6_putElement_77 rfl
  replace h := q_f h hk_9
  have hk_1 := h_nT hk_1 (a := 0) (by decide)
  have hk_5 := h_nT hk_5 (a := 1) (by decide)
  have hk_9 := h_nT hk_9 (a := 2) (by decide)
  refine go_tableOut (tgt := 70) dX6_putElement_7 (by omega) rfl ?_
  refine go_aload_n rfl 0 rfl dX6_putElement_70 ?_
  refine h_getr 0 cl4 (shS hs0) (by decide) tw_265 (s0 + 1) (fvS hs0) dX6_putElement_71 ?_
  refine go_iload_n rfl 1 rfl dX6_putElement_74 ?_
  refine go_lload_n rfl 2 rfl dX6_putElement_75 ?_
  obtain ⟨hg_13, h⟩ := q_g h
  obtain ⟨ν_14, e_15, h⟩ := q_l h
  refine h_last 160 (shS1 hs0) hg_13 e_15 dX6_putElement_76 ?_
  exact h_vret h dX6_putElement_77 rfl
noncomputable def f_X6_putPerson (s0 : Nat) (x1 : Int32) (ν : gN) : Option (gN) :=
  qL (nWI ν s0 1 x1) (fun ν_1 =>
    qL (nWI ν_1 s0 2 0) (fun ν_3 =>
      some ν_3))
theorem me_X6_putPerson : g_me yX6_putPerson cX6_putPerson 2 (none) 1 := ⟨tw_393, tw_78, ⟨by decide +kernel, by decide +kernel, by decide +kernel⟩, by decide⟩
set_option maxRecDepth 20000 in
set_option maxHeartbeats 2000000 in
theorem m_X6_putPerson {X : gX} {ad : Nat → Nat} {s0 : Nat} {x1 : Int32} {ν : gN} {r : gN} (hs0 : isS s0) (h : f_X6_putPerson s0 x1 ν = some r) : h_ct X ad yX6_putPerson cX6_putPerson 2 (none) 1 [.ref (ad s0), .int x1] ν (none, r) := by
  rw [f_X6_putPerson] at h
  refine h_ct_of (l := [(0, .ref (ad s0)), (1, .int x1)]) (by decide) (Nat.le_of_ble_eq_true rfl) rfl ?_
  refine go_aload_n rfl 0 rfl dX6_putPerson_0 ?_
  refine go_iload_n rfl 1 rfl dX6_putPerson_1 ?_
  obtain ⟨ν_1, e_2, h⟩ := q_l h
  refine h_puti 1 cl4 (shS hs0) (by decide) tw_267 rfl rfl e_2 dX6_putPerson_2 ?_
  refine go_aload_n rfl 0 rfl dX6_putPerson_5 ?_
  refine go_iconst kz_iconst_0 dX6_putPerson_6 ?_
  obtain ⟨ν_3, e_4, h⟩ := q_l h
  refine h_puti 2 cl4 (shS hs0) (by decide) tw_269 rfl rfl e_4 dX6_putPerson_7 ?_
  exact h_vret h dX6_putPerson_10 rfl
noncomputable def f_X6_putRow (s0 : Nat) (x1 : Int32) (x2 : Int32) (ν : gN) : Option (gN) :=
  qL (nWI ν s0 1 (100 + x1)) (fun ν_1 =>
    qL (nWI ν_1 s0 2 x2) (fun ν_3 =>
      (f_J7_fill_d0a16 (s0 + 1) 160 0 ν_3).bind (fun r_5 =>
        some r_5)))
theorem me_X6_putRow : g_me yX6_putRow cX6_putRow 3 (none) 2 := ⟨tw_330, tw_78, ⟨by decide +kernel, by decide +kernel, by decide +kernel⟩, by decide⟩
set_option maxRecDepth 20000 in
set_option maxHeartbeats 2000000 in
theorem m_X6_putRow {X : gX} {ad : Nat → Nat} {s0 : Nat} {x1 : Int32} {x2 : Int32} {ν : gN} {r : gN} (hs0 : isS s0) (h : f_X6_putRow s0 x1 x2 ν = some r) : h_ct X ad yX6_putRow cX6_putRow 3 (none) 2 [.ref (ad s0), .int x1, .int x2] ν (none, r) := by
  rw [f_X6_putRow] at h
  refine h_ct_of (l := [(0, .ref (ad s0)), (1, .int x1), (2, .int x2)]) (by decide) (Nat.le_of_ble_eq_true rfl) rfl ?_
  refine go_aload_n rfl 0 rfl dX6_putRow_0 ?_
  refine go_bipush kz_bipush_100 dX6_putRow_1 ?_
  refine go_iload_n rfl 1 rfl dX6_putRow_3 ?_
  refine go_iadd dX6_putRow_4 ?_
  obtain ⟨ν_1, e_2, h⟩ := q_l h
  refine h_puti 1 cl4 (shS hs0) (by decide) tw_267 rfl rfl e_2 dX6_putRow_5 ?_
  refine go_aload_n rfl 0 rfl dX6_putRow_8 ?_
  refine go_iload_n rfl 2 rfl dX6_putRow_9 ?_
  obtain ⟨ν_3, e_4, h⟩ := q_l h
  refine h_puti 2 cl4 (shS hs0) (by decide) tw_269 rfl rfl e_4 dX6_putRow_10 ?_
  refine go_aload_n rfl 0 rfl dX6_putRow_13 ?_
  refine h_getr 0 cl4 (shS hs0) (by decide) tw_265 (s0 + 1) (fvS hs0) dX6_putRow_14 ?_
  refine go_lconst (v := 0) rfl dX6_putRow_17 ?_
  obtain ⟨r_5, h_6, h⟩ := q_b h
  refine h_callSv (st := []) [.ref (ad (s0 + 1)), .long 0] (m_J7_fill_d0a16 (shS1 hs0) h_6) me_J7_fill_d0a16 tw_331 tw_332 (hdd_of (by decide)) ⟨Nat.zero_le _, Nat.zero_le _⟩ rfl rfl (Nat.le_of_ble_eq_true rfl) dX6_putRow_18 ?_
  exact h_vret h dX6_putRow_21 rfl
noncomputable def f_X7_beside (x0 : Int32) (x1 : Int32) (ν : gN) : Option (Int32 × gN) :=
  if x1 = 0 then
    if x0 < 7 then
      some ((-1), ν)
    else
      some (x0 - 7, ν)
  else
  if x1 = 1 then
    if (j_rem x0 7) ≤ 0 then
      some ((-1), ν)
    else
      some (x0 - 1, ν)
  else
  if x1 = 2 then
    if 6 ≤ (j_rem x0 7) then
      some ((-1), ν)
    else
      some (x0 + 1, ν)
  else
  if x1 = 3 then
    if 42 ≤ x0 then
      some ((-1), ν)
    else
      some (x0 + 7, ν)
  else
  some ((-1), ν)
theorem me_X7_beside : g_me yX7_beside cX7_beside 2 ((Option.some .int)) 2 := ⟨tw_645, tw_74, ⟨by decide +kernel, by decide +kernel, by decide +kernel⟩, by decide⟩
set_option maxRecDepth 20000 in
set_option maxHeartbeats 2000000 in
theorem m_X7_beside {X : gX} {ad : Nat → Nat} {x0 : Int32} {x1 : Int32} {ν : gN} {r : Int32 × gN}  (h : f_X7_beside x0 x1 ν = some r) : h_ct X ad yX7_beside cX7_beside 2 ((Option.some .int)) 1 [.int x0, .int x1] ν (some (.int r.1), r.2) := by
  rw [f_X7_beside] at h
  refine h_ct_of (l := [(0, .int x0), (1, .int x1)]) (by decide) (Nat.le_of_ble_eq_true rfl) rfl ?_
  refine go_iload_n rfl 1 rfl dX7_beside_0 ?_
  by_cases hk_1 : x1 = 0
  · replace h := q_t h hk_1
    refine h_tbT (tgt := 32) (off := 31) hk_1 dX7_beside_1 (by decide) (by decide) rfl rfl ?_
    refine go_iload_n rfl 0 rfl dX7_beside_32 ?_
    refine go_bipush kz_bipush_7 dX7_beside_33 ?_
    refine go_icmp_lt (tgt := 45) dX7_beside_35 rfl (fun hc => ?_) (fun hc => ?_)
    · replace h := q_t h hc
      refine go_iconst kz_iconst_m1 dX7_beside_45 ?_
      exact h_iret h dX7_beside_46 rfl
    · replace h := q_f h hc
      refine go_iload_n rfl 0 rfl dX7_beside_38 ?_
      refine go_bipush kz_bipush_7 dX7_beside_39 ?_
      refine go_isub dX7_beside_41 ?_
      refine go_goto (tgt := 46) dX7_beside_42 rfl ?_
      exact h_iret h dX7_beside_46 rfl
  replace h := q_f h hk_1
  by_cases hk_2 : x1 = 1
  · replace h := q_t h hk_2
    refine h_tbT (tgt := 47) (off := 46) hk_2 dX7_beside_1 (by decide) (by decide) rfl rfl ?_
    refine go_iload_n rfl 0 rfl dX7_beside_47 ?_
    refine go_bipush kz_bipush_7 dX7_beside_48 ?_
    refine h_irem (by decide) dX7_beside_50 ?_
    refine go_if_le (tgt := 60) dX7_beside_51 rfl (fun hc => ?_) (fun hc => ?_)
    · replace h := q_t h hc
      refine go_iconst kz_iconst_m1 dX7_beside_60 ?_
      exact h_iret h dX7_beside_61 rfl
    · replace h := q_f h hc
      refine go_iload_n rfl 0 rfl dX7_beside_54 ?_
      refine go_iconst kz_iconst_1 dX7_beside_55 ?_
      refine go_isub dX7_beside_56 ?_
      refine go_goto (tgt := 61) dX7_beside_57 rfl ?_
      exact h_iret h dX7_beside_61 rfl
  replace h := q_f h hk_2
  by_cases hk_3 : x1 = 2
  · replace h := q_t h hk_3
    refine h_tbT (tgt := 62) (off := 61) hk_3 dX7_beside_1 (by decide) (by decide) rfl rfl ?_
    refine go_iload_n rfl 0 rfl dX7_beside_62 ?_
    refine go_bipush kz_bipush_7 dX7_beside_63 ?_
    refine h_irem (by decide) dX7_beside_65 ?_
    refine go_bipush kz_bipush_6 dX7_beside_66 ?_
    refine go_icmp_ge (tgt := 77) dX7_beside_68 rfl (fun hc => ?_) (fun hc => ?_)
    · replace h := q_t h hc
      refine go_iconst kz_iconst_m1 dX7_beside_77 ?_
      exact h_iret h dX7_beside_78 rfl
    · replace h := q_f h hc
      refine go_iload_n rfl 0 rfl dX7_beside_71 ?_
      refine go_iconst kz_iconst_1 dX7_beside_72 ?_
      refine go_iadd dX7_beside_73 ?_
      refine go_goto (tgt := 78) dX7_beside_74 rfl ?_
      exact h_iret h dX7_beside_78 rfl
  replace h := q_f h hk_3
  by_cases hk_4 : x1 = 3
  · replace h := q_t h hk_4
    refine h_tbT (tgt := 79) (off := 78) hk_4 dX7_beside_1 (by decide) (by decide) rfl rfl ?_
    refine go_iload_n rfl 0 rfl dX7_beside_79 ?_
    refine go_bipush kz_bipush_42 dX7_beside_80 ?_
    refine go_icmp_ge (tgt := 92) dX7_beside_82 rfl (fun hc => ?_) (fun hc => ?_)
    · replace h := q_t h hc
      refine go_iconst kz_iconst_m1 dX7_beside_92 ?_
      exact h_iret h dX7_beside_93 rfl
    · replace h := q_f h hc
      refine go_iload_n rfl 0 rfl dX7_beside_85 ?_
      refine go_bipush kz_bipush_7 dX7_beside_86 ?_
      refine go_iadd dX7_beside_88 ?_
      refine go_goto (tgt := 93) dX7_beside_89 rfl ?_
      exact h_iret h dX7_beside_93 rfl
  replace h := q_f h hk_4
  have hk_1 := h_nT hk_1 (a := 0) (by decide)
  have hk_2 := h_nT hk_2 (a := 1) (by decide)
  have hk_3 := h_nT hk_3 (a := 2) (by decide)
  have hk_4 := h_nT hk_4 (a := 3) (by decide)
  refine go_tableOut (tgt := 94) dX7_beside_1 (by omega) rfl ?_
  refine go_iconst kz_iconst_m1 dX7_beside_94 ?_
  exact h_iret h dX7_beside_95 rfl
