/-! each method as a function of the memory (f_), and that the machine does it (m_); written by my own program out of the decoded rows -/
noncomputable def f_X9_thoseAt_L4 (y1 : Int32) (k34 : Int32 → gN → Option (Int32 × gN)) : Nat → Int32 → Int32 → gN → Option (Int32 × gN)
  | 0, _, _, _ => none
  | n + 1, y2, y3, ν =>
    if (ν.1 53 0) ≤ y3 then
      k34 y2 ν
    else
      if inb y3 7 = true then
        if (ν.1 58 y3.toNatClampNeg) = y1 then
          f_X9_thoseAt_L4 y1 k34 n (y2 ||| (j_shl 1 y3)) (y3 + 1) ν
        else
          f_X9_thoseAt_L4 y1 k34 n y2 (y3 + 1) ν
      else none
noncomputable def f_X9_thoseAt (x1 : Int32) (ν : gN) : Option (Int32 × gN) :=
  f_X9_thoseAt_L4 x1 (fun z2_2 ν_3 =>
    some (z2_2, ν_3)) FU 0 0 ν
theorem me_X9_thoseAt : g_me yX9_thoseAt cX9_thoseAt 4 ((Option.some .int)) 1 := ⟨tw_1084, tw_79, ⟨by decide +kernel, by decide +kernel, by decide +kernel⟩, by decide⟩
set_option maxRecDepth 20000 in
set_option maxHeartbeats 2000000 in
theorem m_X9_thoseAt_L4 {X : gX} {ad : Nat → Nat} {y1 : Int32} {k34 : Int32 → gN → Option (Int32 × gN)}  : ∀ (n : Nat) (y2 : Int32) (y3 : Int32) (ν : gN) (r : Int32 × gN), f_X9_thoseAt_L4 y1 k34 n y2 y3 ν = some r → (∀ (z2 : Int32) (ν1 : gN), k34 z2 ν1 = some r → h_go X ad RX9 "thoseAt" cX9_thoseAt 4 ((Option.some .int)) 1 (some (.int r.1), r.2) 34 [(2, .int z2)] [] ν1) → h_go X ad RX9 "thoseAt" cX9_thoseAt 4 ((Option.some .int)) 1 (some (.int r.1), r.2) 4 [(0, .ref (ad 53)), (1, .int y1), (2, .int y2), (3, .int y3)] [] ν := by
  intro n
  induction n with
  | zero => intro y2 y3 ν r h hk34; rw [f_X9_thoseAt_L4] at h; exact q_n h
  | succ n ih =>
    intro y2 y3 ν r h hk34
    rw [f_X9_thoseAt_L4] at h
    refine go_iload_n rfl 3 rfl dX9_thoseAt_4 ?_
    refine go_aload_n rfl 0 rfl dX9_thoseAt_5 ?_
    refine h_geti 0 cl7 rfl (by decide) tw_912 rfl dX9_thoseAt_6 ?_
    refine go_icmp_ge (tgt := 34) dX9_thoseAt_9 rfl (fun hc => ?_) (fun hc => ?_)
    · replace h := q_t h hc
      refine go_sub (l' := [(2, .int y2)]) [2] rfl ?_
      exact hk34 _ _ h
    · replace h := q_f h hc
      refine go_aload_n rfl 0 rfl dX9_thoseAt_12 ?_
      refine h_getr 5 cl7 rfl (by decide) tw_917 58 rfl dX9_thoseAt_13 ?_
      refine go_iload_n rfl 3 rfl dX9_thoseAt_16 ?_
      obtain ⟨hg_1, h⟩ := q_g h
      refine h_iald 7 rfl hg_1 dX9_thoseAt_17 ?_
      refine go_iload_n rfl 1 rfl dX9_thoseAt_18 ?_
      refine go_icmp_ne (tgt := 28) dX9_thoseAt_19 rfl (fun hc => ?_) (fun hc => ?_)
      · replace h := q_f h hc
        refine h_iinc (l' := [(3, .int (y3 + 1)), (0, .ref (ad 53)), (1, .int y1), (2, .int y2)]) dX9_thoseAt_28 3 rfl kz_iconst_1 (by decide) rfl ?_
        refine go_goto (tgt := 4) dX9_thoseAt_31 rfl ?_
        refine go_sub (l' := [(0, .ref (ad 53)), (1, .int y1), (2, .int y2), (3, .int (y3 + 1))]) [1, 2, 3, 0] rfl ?_
        exact ih _ _ _ _ h hk34
      · replace h := q_t h hc
        refine go_iload_n rfl 2 rfl dX9_thoseAt_22 ?_
        refine go_iconst kz_iconst_1 dX9_thoseAt_23 ?_
        refine go_iload_n rfl 3 rfl dX9_thoseAt_24 ?_
        refine h_ishl dX9_thoseAt_25 ?_
        refine go_ior dX9_thoseAt_26 ?_
        refine go_istore_n (l' := [(2, .int (y2 ||| (j_shl 1 y3))), (0, .ref (ad 53)), (1, .int y1), (3, .int y3)]) dX9_thoseAt_27 rfl (by decide) rfl ?_
        refine h_iinc (l' := [(3, .int (y3 + 1)), (2, .int (y2 ||| (j_shl 1 y3))), (0, .ref (ad 53)), (1, .int y1)]) dX9_thoseAt_28 3 rfl kz_iconst_1 (by decide) rfl ?_
        refine go_goto (tgt := 4) dX9_thoseAt_31 rfl ?_
        refine go_sub (l' := [(0, .ref (ad 53)), (1, .int y1), (2, .int (y2 ||| (j_shl 1 y3))), (3, .int (y3 + 1))]) [2, 3, 1, 0] rfl ?_
        exact ih _ _ _ _ h hk34
set_option maxRecDepth 20000 in
set_option maxHeartbeats 2000000 in
theorem m_X9_thoseAt {X : gX} {ad : Nat → Nat} {x1 : Int32} {ν : gN} {r : Int32 × gN}  (h : f_X9_thoseAt x1 ν = some r) : h_ct X ad yX9_thoseAt cX9_thoseAt 4 ((Option.some .int)) 1 [.ref (ad 53), .int x1] ν (some (.int r.1), r.2) := by
  rw [f_X9_thoseAt] at h
  refine h_ct_of (l := [(0, .ref (ad 53)), (1, .int x1)]) (by decide) (Nat.le_of_ble_eq_true rfl) rfl ?_
  refine go_iconst kz_iconst_0 dX9_thoseAt_0 ?_
  refine go_istore_n (l' := [(2, .int 0), (0, .ref (ad 53)), (1, .int x1)]) dX9_thoseAt_1 rfl (by decide) rfl ?_
  refine go_iconst kz_iconst_0 dX9_thoseAt_2 ?_
  refine go_istore_n (l' := [(3, .int 0), (2, .int 0), (0, .ref (ad 53)), (1, .int x1)]) dX9_thoseAt_3 rfl (by decide) rfl ?_
  refine go_sub (l' := [(0, .ref (ad 53)), (1, .int x1), (2, .int 0), (3, .int 0)]) [2, 3, 1, 0] rfl ?_
  refine m_X9_thoseAt_L4  FU _ _ _ _ h (fun z2_2 ν_3 h => ?_)
  refine go_iload_n rfl 0 rfl dX9_thoseAt_34 ?_
  exact h_iret h dX9_thoseAt_35 rfl
noncomputable def f_X9_crowded_L4  (k50 : Int32 → gN → Option (Int32 × gN)) : Nat → Int32 → Int32 → gN → Option (Int32 × gN)
  | 0, _, _, _ => none
  | n + 1, y1, y2, ν =>
    if 49 ≤ y2 then
      k50 y1 ν
    else
      (f_X9_thoseAt y2 ν).bind (fun r_1 =>
        if r_1.1 = 0 then
          f_X9_crowded_L4 k50 n y1 (y2 + 1) r_1.2
        else
          if y1 = (-1) then
            f_X9_crowded_L4 k50 n y2 (y2 + 1) r_1.2
          else
            (f_X9_thoseAt y2 r_1.2).bind (fun r_3 =>
              (f_J6_bitCount_0f7a4 r_3.1 r_3.2).bind (fun r_5 =>
                (f_X9_thoseAt y1 r_5.2).bind (fun r_7 =>
                  (f_J6_bitCount_0f7a4 r_7.1 r_7.2).bind (fun r_9 =>
                    if r_5.1 ≤ r_9.1 then
                      f_X9_crowded_L4 k50 n y1 (y2 + 1) r_9.2
                    else
                      f_X9_crowded_L4 k50 n y2 (y2 + 1) r_9.2)))))
noncomputable def f_X9_crowded  (ν : gN) : Option (Int32 × gN) :=
  f_X9_crowded_L4  (fun z1_11 ν_12 =>
    some (z1_11, ν_12)) FU (-1) 0 ν
theorem me_X9_crowded : g_me yX9_crowded cX9_crowded 3 ((Option.some .int)) 0 := ⟨tw_1311, tw_79, ⟨by decide +kernel, by decide +kernel, by decide +kernel⟩, by decide⟩
set_option maxRecDepth 20000 in
set_option maxHeartbeats 2000000 in
theorem m_X9_crowded_L4 {X : gX} {ad : Nat → Nat}  {k50 : Int32 → gN → Option (Int32 × gN)}  : ∀ (n : Nat) (y1 : Int32) (y2 : Int32) (ν : gN) (r : Int32 × gN), f_X9_crowded_L4 k50 n y1 y2 ν = some r → (∀ (z1 : Int32) (ν1 : gN), k50 z1 ν1 = some r → h_go X ad RX9 "crowded" cX9_crowded 3 ((Option.some .int)) 2 (some (.int r.1), r.2) 50 [(1, .int z1)] [] ν1) → h_go X ad RX9 "crowded" cX9_crowded 3 ((Option.some .int)) 2 (some (.int r.1), r.2) 4 [(0, .ref (ad 53)), (1, .int y1), (2, .int y2)] [] ν := by
  intro n
  induction n with
  | zero => intro y1 y2 ν r h hk50; rw [f_X9_crowded_L4] at h; exact q_n h
  | succ n ih =>
    intro y1 y2 ν r h hk50
    rw [f_X9_crowded_L4] at h
    refine go_iload_n rfl 2 rfl dX9_crowded_4 ?_
    refine go_bipush kz_bipush_49 dX9_crowded_5 ?_
    refine go_icmp_ge (tgt := 50) dX9_crowded_7 rfl (fun hc => ?_) (fun hc => ?_)
    · replace h := q_t h hc
      refine go_sub (l' := [(1, .int y1)]) [1] rfl ?_
      exact hk50 _ _ h
    · replace h := q_f h hc
      refine go_aload_n rfl 0 rfl dX9_crowded_10 ?_
      refine go_iload_n rfl 2 rfl dX9_crowded_11 ?_
      obtain ⟨r_1, h_2, h⟩ := q_b h
      refine h_callVi (st := []) [.int y2] (m_X9_thoseAt h_2) me_X9_thoseAt (g_recv cl7.1 rfl) tw_1081 tw_1083 tw_31 (hdd_of (by decide)) ⟨Nat.zero_le _, Nat.zero_le _⟩ rfl rfl (Nat.le_of_ble_eq_true rfl) dX9_crowded_12 ?_
      refine go_if_eq (tgt := 44) dX9_crowded_15 rfl (fun hc => ?_) (fun hc => ?_)
      · replace h := q_t h hc
        refine h_iinc (l' := [(2, .int (y2 + 1)), (0, .ref (ad 53)), (1, .int y1)]) dX9_crowded_44 2 rfl kz_iconst_1 (by decide) rfl ?_
        refine go_goto (tgt := 4) dX9_crowded_47 rfl ?_
        refine go_sub (l' := [(0, .ref (ad 53)), (1, .int y1), (2, .int (y2 + 1))]) [1, 2, 0] rfl ?_
        exact ih _ _ _ _ h hk50
      · replace h := q_f h hc
        refine go_iload_n rfl 1 rfl dX9_crowded_18 ?_
        refine go_iconst kz_iconst_m1 dX9_crowded_19 ?_
        refine go_icmp_eq (tgt := 42) dX9_crowded_20 rfl (fun hc => ?_) (fun hc => ?_)
        · replace h := q_t h hc
          refine go_iload_n rfl 2 rfl dX9_crowded_42 ?_
          refine go_istore_n (l' := [(1, .int y2), (0, .ref (ad 53)), (2, .int y2)]) dX9_crowded_43 rfl (by decide) rfl ?_
          refine h_iinc (l' := [(2, .int (y2 + 1)), (1, .int y2), (0, .ref (ad 53))]) dX9_crowded_44 2 rfl kz_iconst_1 (by decide) rfl ?_
          refine go_goto (tgt := 4) dX9_crowded_47 rfl ?_
          refine go_sub (l' := [(0, .ref (ad 53)), (1, .int y2), (2, .int (y2 + 1))]) [2, 1, 0] rfl ?_
          exact ih _ _ _ _ h hk50
        · replace h := q_f h hc
          refine go_aload_n rfl 0 rfl dX9_crowded_23 ?_
          refine go_iload_n rfl 2 rfl dX9_crowded_24 ?_
          obtain ⟨r_3, h_4, h⟩ := q_b h
          refine h_callVi (st := []) [.int y2] (m_X9_thoseAt h_4) me_X9_thoseAt (g_recv cl7.1 rfl) tw_1081 tw_1083 tw_31 (hdd_of (by decide)) ⟨Nat.zero_le _, Nat.zero_le _⟩ rfl rfl (Nat.le_of_ble_eq_true rfl) dX9_crowded_25 ?_
          obtain ⟨r_5, h_6, h⟩ := q_b h
          refine h_callSi (st := []) [.int r_3.1] (m_J6_bitCount_0f7a4 h_6) me_J6_bitCount_0f7a4 tw_1292 tw_795 (hdd_of (by decide)) ⟨Nat.zero_le _, Nat.zero_le _⟩ rfl rfl (Nat.le_of_ble_eq_true rfl) dX9_crowded_28 ?_
          refine go_aload_n rfl 0 rfl dX9_crowded_31 ?_
          refine go_iload_n rfl 1 rfl dX9_crowded_32 ?_
          obtain ⟨r_7, h_8, h⟩ := q_b h
          refine h_callVi (st := [.int r_5.1]) [.int y1] (m_X9_thoseAt h_8) me_X9_thoseAt (g_recv cl7.1 rfl) tw_1081 tw_1083 tw_31 (hdd_of (by decide)) ⟨Nat.zero_le _, Nat.zero_le _⟩ rfl rfl (Nat.le_of_ble_eq_true rfl) dX9_crowded_33 ?_
          obtain ⟨r_9, h_10, h⟩ := q_b h
          refine h_callSi (st := [.int r_5.1]) [.int r_7.1] (m_J6_bitCount_0f7a4 h_10) me_J6_bitCount_0f7a4 tw_1292 tw_795 (hdd_of (by decide)) ⟨Nat.zero_le _, Nat.zero_le _⟩ rfl rfl (Nat.le_of_ble_eq_true rfl) dX9_crowded_36 ?_
          refine go_icmp_le (tgt := 44) dX9_crowded_39 rfl (fun hc => ?_) (fun hc => ?_)
          · replace h := q_t h hc
            refine h_iinc (l' := [(2, .int (y2 + 1)), (0, .ref (ad 53)), (1, .int y1)]) dX9_crowded_44 2 rfl kz_iconst_1 (by decide) rfl ?_
            refine go_goto (tgt := 4) dX9_crowded_47 rfl ?_
            refine go_sub (l' := [(0, .ref (ad 53)), (1, .int y1), (2, .int (y2 + 1))]) [1, 2, 0] rfl ?_
            exact ih _ _ _ _ h hk50
          · replace h := q_f h hc
            refine go_iload_n rfl 2 rfl dX9_crowded_42 ?_
            refine go_istore_n (l' := [(1, .int y2), (0, .ref (ad 53)), (2, .int y2)]) dX9_crowded_43 rfl (by decide) rfl ?_
            refine h_iinc (l' := [(2, .int (y2 + 1)), (1, .int y2), (0, .ref (ad 53))]) dX9_crowded_44 2 rfl kz_iconst_1 (by decide) rfl ?_
            refine go_goto (tgt := 4) dX9_crowded_47 rfl ?_
            refine go_sub (l' := [(0, .ref (ad 53)), (1, .int y2), (2, .int (y2 + 1))]) [2, 1, 0] rfl ?_
            exact ih _ _ _ _ h hk50
set_option maxRecDepth 20000 in
set_option maxHeartbeats 2000000 in
theorem m_X9_crowded {X : gX} {ad : Nat → Nat}  {ν : gN} {r : Int32 × gN}  (h : f_X9_crowded  ν = some r) : h_ct X ad yX9_crowded cX9_crowded 3 ((Option.some .int)) 2 [.ref (ad 53)] ν (some (.int r.1), r.2) := by
  rw [f_X9_crowded] at h
  refine h_ct_of (l := [(0, .ref (ad 53))]) (by decide) (Nat.le_of_ble_eq_true rfl) rfl ?_
  refine go_iconst kz_iconst_m1 dX9_crowded_0 ?_
  refine go_istore_n (l' := [(1, .int (-1)), (0, .ref (ad 53))]) dX9_crowded_1 rfl (by decide) rfl ?_
  refine go_iconst kz_iconst_0 dX9_crowded_2 ?_
  refine go_istore_n (l' := [(2, .int 0), (1, .int (-1)), (0, .ref (ad 53))]) dX9_crowded_3 rfl (by decide) rfl ?_
  refine go_sub (l' := [(0, .ref (ad 53)), (1, .int (-1)), (2, .int 0)]) [2, 1, 0] rfl ?_
  refine m_X9_crowded_L4  FU _ _ _ _ h (fun z1_11 ν_12 h => ?_)
  refine go_iload_n rfl 0 rfl dX9_crowded_50 ?_
  exact h_iret h dX9_crowded_51 rfl
noncomputable def f_X9_lastOne_L4  (k39 : Int32 → gN → Option (Int32 × gN)) : Nat → Int32 → Int32 → gN → Option (Int32 × gN)
  | 0, _, _, _ => none
  | n + 1, y1, y2, ν =>
    if (ν.1 53 0) ≤ y2 then
      k39 y1 ν
    else
      if inb y2 7 = true then
        (f_X9_farOf (ν.1 58 y2.toNatClampNeg) ν).bind (fun r_2 =>
          if 99 ≤ r_2.1 then
            f_X9_lastOne_L4 k39 n y1 (y2 + 1) r_2.2
          else
            f_X9_lastOne_L4 k39 n (y1 ||| (j_shl 1 y2)) (y2 + 1) r_2.2)
      else none
noncomputable def f_X9_lastOne  (ν : gN) : Option (Int32 × gN) :=
  f_X9_lastOne_L4  (fun z1_4 ν_5 =>
    (f_X9_furthest z1_4 ν_5).bind (fun r_6 =>
      some (r_6.1, r_6.2))) FU 0 0 ν
theorem me_X9_lastOne : g_me yX9_lastOne cX9_lastOne 3 ((Option.some .int)) 0 := ⟨tw_1315, tw_79, ⟨by decide +kernel, by decide +kernel, by decide +kernel⟩, by decide⟩
set_option maxRecDepth 20000 in
set_option maxHeartbeats 2000000 in
theorem m_X9_lastOne_L4 {X : gX} {ad : Nat → Nat}  {k39 : Int32 → gN → Option (Int32 × gN)}  : ∀ (n : Nat) (y1 : Int32) (y2 : Int32) (ν : gN) (r : Int32 × gN), f_X9_lastOne_L4 k39 n y1 y2 ν = some r → (∀ (z1 : Int32) (ν1 : gN), k39 z1 ν1 = some r → h_go X ad RX9 "lastOne" cX9_lastOne 3 ((Option.some .int)) 8 (some (.int r.1), r.2) 39 [(0, .ref (ad 53)), (1, .int z1)] [] ν1) → h_go X ad RX9 "lastOne" cX9_lastOne 3 ((Option.some .int)) 8 (some (.int r.1), r.2) 4 [(0, .ref (ad 53)), (1, .int y1), (2, .int y2)] [] ν := by
  intro n
  induction n with
  | zero => intro y1 y2 ν r h hk39; rw [f_X9_lastOne_L4] at h; exact q_n h
  | succ n ih =>
    intro y1 y2 ν r h hk39
    rw [f_X9_lastOne_L4] at h
    refine go_iload_n rfl 2 rfl dX9_lastOne_4 ?_
    refine go_aload_n rfl 0 rfl dX9_lastOne_5 ?_
    refine h_geti 0 cl7 rfl (by decide) tw_912 rfl dX9_lastOne_6 ?_
    refine go_icmp_ge (tgt := 39) dX9_lastOne_9 rfl (fun hc => ?_) (fun hc => ?_)
    · replace h := q_t h hc
      refine go_sub (l' := [(0, .ref (ad 53)), (1, .int y1)]) [0, 1] rfl ?_
      exact hk39 _ _ h
    · replace h := q_f h hc
      refine go_aload_n rfl 0 rfl dX9_lastOne_12 ?_
      refine go_aload_n rfl 0 rfl dX9_lastOne_13 ?_
      refine h_getr 5 cl7 rfl (by decide) tw_917 58 rfl dX9_lastOne_14 ?_
      refine go_iload_n rfl 2 rfl dX9_lastOne_17 ?_
      obtain ⟨hg_1, h⟩ := q_g h
      refine h_iald 7 rfl hg_1 dX9_lastOne_18 ?_
      obtain ⟨r_2, h_3, h⟩ := q_b h
      refine h_callVi (st := []) [.int (ν.1 58 y2.toNatClampNeg)] (m_X9_farOf h_3) me_X9_farOf (g_recv cl7.1 rfl) tw_1168 tw_1170 tw_44 (hdd_of (by decide)) ⟨Nat.zero_le _, Nat.zero_le _⟩ rfl rfl (Nat.le_of_ble_eq_true rfl) dX9_lastOne_19 ?_
      refine go_bipush kz_bipush_99 dX9_lastOne_22 ?_
      refine go_icmp_ge (tgt := 33) dX9_lastOne_24 rfl (fun hc => ?_) (fun hc => ?_)
      · replace h := q_t h hc
        refine h_iinc (l' := [(2, .int (y2 + 1)), (0, .ref (ad 53)), (1, .int y1)]) dX9_lastOne_33 2 rfl kz_iconst_1 (by decide) rfl ?_
        refine go_goto (tgt := 4) dX9_lastOne_36 rfl ?_
        refine go_sub (l' := [(0, .ref (ad 53)), (1, .int y1), (2, .int (y2 + 1))]) [1, 2, 0] rfl ?_
        exact ih _ _ _ _ h hk39
      · replace h := q_f h hc
        refine go_iload_n rfl 1 rfl dX9_lastOne_27 ?_
        refine go_iconst kz_iconst_1 dX9_lastOne_28 ?_
        refine go_iload_n rfl 2 rfl dX9_lastOne_29 ?_
        refine h_ishl dX9_lastOne_30 ?_
        refine go_ior dX9_lastOne_31 ?_
        refine go_istore_n (l' := [(1, .int (y1 ||| (j_shl 1 y2))), (0, .ref (ad 53)), (2, .int y2)]) dX9_lastOne_32 rfl (by decide) rfl ?_
        refine h_iinc (l' := [(2, .int (y2 + 1)), (1, .int (y1 ||| (j_shl 1 y2))), (0, .ref (ad 53))]) dX9_lastOne_33 2 rfl kz_iconst_1 (by decide) rfl ?_
        refine go_goto (tgt := 4) dX9_lastOne_36 rfl ?_
        refine go_sub (l' := [(0, .ref (ad 53)), (1, .int (y1 ||| (j_shl 1 y2))), (2, .int (y2 + 1))]) [2, 1, 0] rfl ?_
        exact ih _ _ _ _ h hk39
set_option maxRecDepth 20000 in
set_option maxHeartbeats 2000000 in
theorem m_X9_lastOne {X : gX} {ad : Nat → Nat}  {ν : gN} {r : Int32 × gN}  (h : f_X9_lastOne  ν = some r) : h_ct X ad yX9_lastOne cX9_lastOne 3 ((Option.some .int)) 8 [.ref (ad 53)] ν (some (.int r.1), r.2) := by
  rw [f_X9_lastOne] at h
  refine h_ct_of (l := [(0, .ref (ad 53))]) (by decide) (Nat.le_of_ble_eq_true rfl) rfl ?_
  refine go_iconst kz_iconst_0 dX9_lastOne_0 ?_
  refine go_istore_n (l' := [(1, .int 0), (0, .ref (ad 53))]) dX9_lastOne_1 rfl (by decide) rfl ?_
  refine go_iconst kz_iconst_0 dX9_lastOne_2 ?_
  refine go_istore_n (l' := [(2, .int 0), (1, .int 0), (0, .ref (ad 53))]) dX9_lastOne_3 rfl (by decide) rfl ?_
  refine go_sub (l' := [(0, .ref (ad 53)), (1, .int 0), (2, .int 0)]) [2, 1, 0] rfl ?_
  refine m_X9_lastOne_L4  FU _ _ _ _ h (fun z1_4 ν_5 h => ?_)
  refine go_aload_n rfl 0 rfl dX9_lastOne_39 ?_
  refine go_iload_n rfl 1 rfl dX9_lastOne_40 ?_
  obtain ⟨r_6, h_7, h⟩ := q_b h
  refine h_callVi (st := []) [.int z1_4] (m_X9_furthest h_7) me_X9_furthest (g_recv cl7.1 rfl) tw_1188 tw_1190 tw_48 (hdd_of (by decide)) ⟨Nat.zero_le _, Nat.zero_le _⟩ rfl rfl (Nat.le_of_ble_eq_true rfl) dX9_lastOne_41 ?_
  exact h_iret h dX9_lastOne_44 rfl
noncomputable def f_X9_crowd (x1 : Int32) (x2 : Int32) (ν : gN) : Option (Int32 × gN) :=
  (f_X9_within x2 0 1 ν).bind (fun r_1 =>
    if r_1.1 = 0 then
      (f_X9_no10 (-5) r_1.2).bind (fun r_19 =>
        some (r_19.1, r_19.2))
    else
      (f_X9_isTime x1 r_1.2).bind (fun r_3 =>
        if r_3.1 = 0 then
          (f_X9_no10 (-6) r_3.2).bind (fun r_17 =>
            some (r_17.1, r_17.2))
        else
          (f_X9_keep 72 r_3.2).bind (fun r_5 =>
            (f_X9_goesOn x1 r_5).bind (fun r_7 =>
              if x2 = 0 then
                (f_X9_crowded  r_7).bind (fun r_13 =>
                  (f_X9_again 72 r_13.2).bind (fun r_15 =>
                    some (r_13.1, r_15)))
              else
                (f_X9_lastOne  r_7).bind (fun r_9 =>
                  (f_X9_again 72 r_9.2).bind (fun r_11 =>
                    some (r_9.1, r_11)))))))
theorem me_X9_crowd : g_me yX9_crowd cX9_crowd 4 ((Option.some .int)) 2 := ⟨tw_1307, tw_79, ⟨by decide +kernel, by decide +kernel, by decide +kernel⟩, by decide⟩
set_option maxRecDepth 20000 in
set_option maxHeartbeats 2000000 in
theorem m_X9_crowd {X : gX} {ad : Nat → Nat} {x1 : Int32} {x2 : Int32} {ν : gN} {r : Int32 × gN}  (h : f_X9_crowd x1 x2 ν = some r) : h_ct X ad yX9_crowd cX9_crowd 4 ((Option.some .int)) 10 [.ref (ad 53), .int x1, .int x2] ν (some (.int r.1), r.2) := by
  rw [f_X9_crowd] at h
  refine h_ct_of (l := [(0, .ref (ad 53)), (1, .int x1), (2, .int x2)]) (by decide) (Nat.le_of_ble_eq_true rfl) rfl ?_
  refine go_iload_n rfl 2 rfl dX9_crowd_0 ?_
  refine go_iconst kz_iconst_0 dX9_crowd_1 ?_
  refine go_iconst kz_iconst_1 dX9_crowd_2 ?_
  obtain ⟨r_1, h_2, h⟩ := q_b h
  refine h_callSi (st := []) [.int x2, .int 0, .int 1] (m_X9_within h_2) me_X9_within tw_1005 tw_1006 (hdd_of (by decide)) ⟨Nat.zero_le _, Nat.zero_le _⟩ rfl rfl (Nat.le_of_ble_eq_true rfl) dX9_crowd_3 ?_
  refine go_if_ne (tgt := 16) dX9_crowd_6 rfl (fun hc => ?_) (fun hc => ?_)
  · replace h := q_f h hc
    refine go_iload_n rfl 1 rfl dX9_crowd_16 ?_
    obtain ⟨r_3, h_4, h⟩ := q_b h
    refine h_callSi (st := []) [.int x1] (m_X9_isTime h_4) me_X9_isTime tw_1204 tw_1205 (hdd_of (by decide)) ⟨Nat.zero_le _, Nat.zero_le _⟩ rfl rfl (Nat.le_of_ble_eq_true rfl) dX9_crowd_17 ?_
    refine go_if_ne (tgt := 30) dX9_crowd_20 rfl (fun hc => ?_) (fun hc => ?_)
    · replace h := q_f h hc
      refine go_aload_n rfl 0 rfl dX9_crowd_30 ?_
      refine go_aload_n rfl 0 rfl dX9_crowd_31 ?_
      refine h_getr 27 cl7 rfl (by decide) tw_939 72 rfl dX9_crowd_32 ?_
      obtain ⟨r_5, h_6, h⟩ := q_b h
      refine h_callVv (st := []) [.ref (ad 72)] (m_X9_keep rfl h_6) me_X9_keep (g_recv cl7.1 rfl) tw_1117 tw_1119 tw_35 (hdd_of (by decide)) ⟨Nat.zero_le _, Nat.zero_le _⟩ rfl rfl (Nat.le_of_ble_eq_true rfl) dX9_crowd_35 ?_
      refine go_aload_n rfl 0 rfl dX9_crowd_38 ?_
      refine go_iload_n rfl 1 rfl dX9_crowd_39 ?_
      obtain ⟨r_7, h_8, h⟩ := q_b h
      refine h_callVv (st := []) [.int x1] (m_X9_goesOn h_8) me_X9_goesOn (g_recv cl7.1 rfl) tw_1207 tw_1209 tw_51 (hdd_of (by decide)) ⟨Nat.zero_le _, Nat.zero_le _⟩ rfl rfl (Nat.le_of_ble_eq_true rfl) dX9_crowd_40 ?_
      refine go_iload_n rfl 2 rfl dX9_crowd_43 ?_
      refine go_if_ne (tgt := 54) dX9_crowd_44 rfl (fun hc => ?_) (fun hc => ?_)
      · replace h := q_f h hc
        refine go_aload_n rfl 0 rfl dX9_crowd_54 ?_
        obtain ⟨r_9, h_10, h⟩ := q_b h
        refine h_callVi (st := []) [] (m_X9_lastOne h_10) me_X9_lastOne (g_recv cl7.1 rfl) tw_1312 tw_1314 tw_64 (hdd_of (by decide)) ⟨Nat.zero_le _, Nat.zero_le _⟩ rfl rfl (Nat.le_of_ble_eq_true rfl) dX9_crowd_55 ?_
        refine go_istore_n (l' := [(3, .int r_9.1), (0, .ref (ad 53)), (1, .int x1), (2, .int x2)]) dX9_crowd_58 rfl (by decide) rfl ?_
        refine go_aload_n rfl 1 rfl dX9_crowd_59 ?_
        refine go_aload_n rfl 1 rfl dX9_crowd_60 ?_
        refine h_getr 27 cl7 rfl (by decide) tw_939 72 rfl dX9_crowd_61 ?_
        obtain ⟨r_11, h_12, h⟩ := q_b h
        refine h_callVv (st := []) [.ref (ad 72)] (m_X9_again rfl h_12) me_X9_again (g_recv cl7.1 rfl) tw_1156 tw_1158 tw_43 (hdd_of (by decide)) ⟨Nat.zero_le _, Nat.zero_le _⟩ rfl rfl (Nat.le_of_ble_eq_true rfl) dX9_crowd_64 ?_
        refine go_iload_n rfl 0 rfl dX9_crowd_67 ?_
        exact h_iret h dX9_crowd_68 rfl
      · replace h := q_t h hc
        refine go_aload_n rfl 0 rfl dX9_crowd_47 ?_
        obtain ⟨r_13, h_14, h⟩ := q_b h
        refine h_callVi (st := []) [] (m_X9_crowded h_14) me_X9_crowded (g_recv cl7.1 rfl) tw_1308 tw_1310 tw_63 (hdd_of (by decide)) ⟨Nat.zero_le _, Nat.zero_le _⟩ rfl rfl (Nat.le_of_ble_eq_true rfl) dX9_crowd_48 ?_
        refine go_goto (tgt := 58) dX9_crowd_51 rfl ?_
        refine go_istore_n (l' := [(3, .int r_13.1), (0, .ref (ad 53)), (1, .int x1), (2, .int x2)]) dX9_crowd_58 rfl (by decide) rfl ?_
        refine go_aload_n rfl 1 rfl dX9_crowd_59 ?_
        refine go_aload_n rfl 1 rfl dX9_crowd_60 ?_
        refine h_getr 27 cl7 rfl (by decide) tw_939 72 rfl dX9_crowd_61 ?_
        obtain ⟨r_15, h_16, h⟩ := q_b h
        refine h_callVv (st := []) [.ref (ad 72)] (m_X9_again rfl h_16) me_X9_again (g_recv cl7.1 rfl) tw_1156 tw_1158 tw_43 (hdd_of (by decide)) ⟨Nat.zero_le _, Nat.zero_le _⟩ rfl rfl (Nat.le_of_ble_eq_true rfl) dX9_crowd_64 ?_
        refine go_iload_n rfl 0 rfl dX9_crowd_67 ?_
        exact h_iret h dX9_crowd_68 rfl
    · replace h := q_t h hc
      refine go_aload_n rfl 0 rfl dX9_crowd_23 ?_
      refine go_bipush kz_bipush_m6 dX9_crowd_24 ?_
      obtain ⟨r_17, h_18, h⟩ := q_b h
      refine h_callVi (st := []) [.int (-6)] (m_X9_no10 h_18) me_X9_no10 (g_recv cl7.1 rfl) tw_1235 tw_1237 tw_56 (hdd_of (by decide)) ⟨Nat.zero_le _, Nat.zero_le _⟩ rfl rfl (Nat.le_of_ble_eq_true rfl) dX9_crowd_26 ?_
      exact h_iret h dX9_crowd_29 rfl
  · replace h := q_t h hc
    refine go_aload_n rfl 0 rfl dX9_crowd_9 ?_
    refine go_bipush kz_bipush_m5 dX9_crowd_10 ?_
    obtain ⟨r_19, h_20, h⟩ := q_b h
    refine h_callVi (st := []) [.int (-5)] (m_X9_no10 h_20) me_X9_no10 (g_recv cl7.1 rfl) tw_1235 tw_1237 tw_56 (hdd_of (by decide)) ⟨Nat.zero_le _, Nat.zero_le _⟩ rfl rfl (Nat.le_of_ble_eq_true rfl) dX9_crowd_12 ?_
    exact h_iret h dX9_crowd_15 rfl
noncomputable def f_X9_draw (x1 : Int32) (ν : gN) : Option (Int32 × gN) :=
  qL (nWI ν 53 9 (((ν.1 53 9) * 1103515245) + 12345)) (fun ν_1 =>
    if ¬ x1 = 0 then
      some (j_rem (j_ushr (ν_1.1 53 9) 16) x1, ν_1)
    else none)
theorem me_X9_draw : g_me yX9_draw cX9_draw 2 ((Option.some .int)) 1 := ⟨tw_1339, tw_79, ⟨by decide +kernel, by decide +kernel, by decide +kernel⟩, by decide⟩
set_option maxRecDepth 20000 in
set_option maxHeartbeats 2000000 in
theorem m_X9_draw {X : gX} {ad : Nat → Nat} {x1 : Int32} {ν : gN} {r : Int32 × gN}  (h : f_X9_draw x1 ν = some r) : h_ct X ad yX9_draw cX9_draw 2 ((Option.some .int)) 1 [.ref (ad 53), .int x1] ν (some (.int r.1), r.2) := by
  rw [f_X9_draw] at h
  refine h_ct_of (l := [(0, .ref (ad 53)), (1, .int x1)]) (by decide) (Nat.le_of_ble_eq_true rfl) rfl ?_
  refine go_aload_n rfl 0 rfl dX9_draw_0 ?_
  refine go_aload_n rfl 0 rfl dX9_draw_1 ?_
  refine h_geti 9 cl7 rfl (by decide) tw_921 rfl dX9_draw_2 ?_
  refine go_ldcw (v := 1103515245) tw_1340 dX9_draw_5 ?_
  refine go_imul dX9_draw_8 ?_
  refine go_sipush kz_sipush_12345 dX9_draw_9 ?_
  refine go_iadd dX9_draw_12 ?_
  obtain ⟨ν_1, e_2, h⟩ := q_l h
  refine h_puti 9 cl7 rfl (by decide) tw_921 rfl rfl e_2 dX9_draw_13 ?_
  refine go_aload_n rfl 0 rfl dX9_draw_16 ?_
  refine h_geti 9 cl7 rfl (by decide) tw_921 rfl dX9_draw_17 ?_
  refine go_bipush kz_bipush_16 dX9_draw_20 ?_
  refine h_iushr dX9_draw_22 ?_
  refine go_iload_n rfl 1 rfl dX9_draw_23 ?_
  obtain ⟨hg_3, h⟩ := q_g h
  refine h_irem hg_3 dX9_draw_24 ?_
  exact h_iret h dX9_draw_25 rfl
noncomputable def f_X9_element (x1 : Int32) (x2 : Int32) (ν : gN) : Option (Int64 × gN) :=
  (f_X9_within x1 0 7 ν).bind (fun r_1 =>
    if r_1.1 = 0 then
      some (0, r_1.2)
    else
      (f_X9_isRow x1 r_1.2).bind (fun r_3 =>
        if r_3.1 = 0 then
          some (0, r_3.2)
        else
          if inb x1 8 = true then
            (f_X9_within x2 0 ((r_3.2.1 63 x1.toNatClampNeg) - 1) r_3.2).bind (fun r_6 =>
              if r_6.1 = 0 then
                some (0, r_6.2)
              else
                if inb ((160 * x1) + x2) 1280 = true then
                  some (r_6.2.2 64 ((160 * x1) + x2).toNatClampNeg, r_6.2)
                else none)
          else none))
theorem me_X9_element : g_me yX9_element cX9_element 3 ((Option.some .long)) 2 := ⟨tw_1031, tw_79, ⟨by decide +kernel, by decide +kernel, by decide +kernel⟩, by decide⟩
set_option maxRecDepth 20000 in
set_option maxHeartbeats 2000000 in
theorem m_X9_element {X : gX} {ad : Nat → Nat} {x1 : Int32} {x2 : Int32} {ν : gN} {r : Int64 × gN}  (h : f_X9_element x1 x2 ν = some r) : h_ct X ad yX9_element cX9_element 3 ((Option.some .long)) 2 [.ref (ad 53), .int x1, .int x2] ν (some (.long r.1), r.2) := by
  rw [f_X9_element] at h
  refine h_ct_of (l := [(0, .ref (ad 53)), (1, .int x1), (2, .int x2)]) (by decide) (Nat.le_of_ble_eq_true rfl) rfl ?_
  refine go_iload_n rfl 1 rfl dX9_element_0 ?_
  refine go_iconst kz_iconst_0 dX9_element_1 ?_
  refine go_bipush kz_bipush_7 dX9_element_2 ?_
  obtain ⟨r_1, h_2, h⟩ := q_b h
  refine h_callSi (st := []) [.int x1, .int 0, .int 7] (m_X9_within h_2) me_X9_within tw_1005 tw_1006 (hdd_of (by decide)) ⟨Nat.zero_le _, Nat.zero_le _⟩ rfl rfl (Nat.le_of_ble_eq_true rfl) dX9_element_4 ?_
  refine go_if_eq (tgt := 49) dX9_element_7 rfl (fun hc => ?_) (fun hc => ?_)
  · replace h := q_t h hc
    refine go_lconst (v := 0) rfl dX9_element_49 ?_
    exact h_lret h dX9_element_50 rfl
  · replace h := q_f h hc
    refine go_aload_n rfl 0 rfl dX9_element_10 ?_
    refine go_iload_n rfl 1 rfl dX9_element_11 ?_
    obtain ⟨r_3, h_4, h⟩ := q_b h
    refine h_callVi (st := []) [.int x1] (m_X9_isRow h_4) me_X9_isRow (g_recv cl7.1 rfl) tw_1020 tw_1022 tw_25 (hdd_of (by decide)) ⟨Nat.zero_le _, Nat.zero_le _⟩ rfl rfl (Nat.le_of_ble_eq_true rfl) dX9_element_12 ?_
    refine go_if_eq (tgt := 49) dX9_element_15 rfl (fun hc => ?_) (fun hc => ?_)
    · replace h := q_t h hc
      refine go_lconst (v := 0) rfl dX9_element_49 ?_
      exact h_lret h dX9_element_50 rfl
    · replace h := q_f h hc
      refine go_iload_n rfl 2 rfl dX9_element_18 ?_
      refine go_iconst kz_iconst_0 dX9_element_19 ?_
      refine go_aload_n rfl 0 rfl dX9_element_20 ?_
      refine h_getr 11 cl7 rfl (by decide) tw_923 63 rfl dX9_element_21 ?_
      refine go_iload_n rfl 1 rfl dX9_element_24 ?_
      obtain ⟨hg_5, h⟩ := q_g h
      refine h_iald 8 rfl hg_5 dX9_element_25 ?_
      refine go_iconst kz_iconst_1 dX9_element_26 ?_
      refine go_isub dX9_element_27 ?_
      obtain ⟨r_6, h_7, h⟩ := q_b h
      refine h_callSi (st := []) [.int x2, .int 0, .int ((r_3.2.1 63 x1.toNatClampNeg) - 1)] (m_X9_within h_7) me_X9_within tw_1005 tw_1006 (hdd_of (by decide)) ⟨Nat.zero_le _, Nat.zero_le _⟩ rfl rfl (Nat.le_of_ble_eq_true rfl) dX9_element_28 ?_
      refine go_if_eq (tgt := 49) dX9_element_31 rfl (fun hc => ?_) (fun hc => ?_)
      · replace h := q_t h hc
        refine go_lconst (v := 0) rfl dX9_element_49 ?_
        exact h_lret h dX9_element_50 rfl
      · replace h := q_f h hc
        refine go_aload_n rfl 0 rfl dX9_element_34 ?_
        refine h_getr 12 cl7 rfl (by decide) tw_924 64 rfl dX9_element_35 ?_
        refine go_sipush kz_sipush_160 dX9_element_38 ?_
        refine go_iload_n rfl 1 rfl dX9_element_41 ?_
        refine go_imul dX9_element_42 ?_
        refine go_iload_n rfl 2 rfl dX9_element_43 ?_
        refine go_iadd dX9_element_44 ?_
        obtain ⟨hg_8, h⟩ := q_g h
        refine h_lald 1280 rfl hg_8 dX9_element_45 ?_
        refine go_goto (tgt := 50) dX9_element_46 rfl ?_
        exact h_lret h dX9_element_50 rfl
noncomputable def f_X9_far (x1 : Int32) (ν : gN) : Option (Int32 × gN) :=
  (f_X9_isSquare x1 ν).bind (fun r_1 =>
    if r_1.1 = 0 then
      (f_X9_no (-6) r_1.2).bind (fun r_3 =>
        some (r_3.1, r_3.2))
    else
      (f_X9_farOf x1 r_1.2).bind (fun r_5 =>
        some (r_5.1, r_5.2)))
theorem me_X9_far : g_me yX9_far cX9_far 2 ((Option.some .int)) 1 := ⟨tw_1167, tw_79, ⟨by decide +kernel, by decide +kernel, by decide +kernel⟩, by decide⟩
set_option maxRecDepth 20000 in
set_option maxHeartbeats 2000000 in
theorem m_X9_far {X : gX} {ad : Nat → Nat} {x1 : Int32} {ν : gN} {r : Int32 × gN}  (h : f_X9_far x1 ν = some r) : h_ct X ad yX9_far cX9_far 2 ((Option.some .int)) 7 [.ref (ad 53), .int x1] ν (some (.int r.1), r.2) := by
  rw [f_X9_far] at h
  refine h_ct_of (l := [(0, .ref (ad 53)), (1, .int x1)]) (by decide) (Nat.le_of_ble_eq_true rfl) rfl ?_
  refine go_iload_n rfl 1 rfl dX9_far_0 ?_
  obtain ⟨r_1, h_2, h⟩ := q_b h
  refine h_callSi (st := []) [.int x1] (m_X9_isSquare h_2) me_X9_isSquare tw_1066 tw_1067 (hdd_of (by decide)) ⟨Nat.zero_le _, Nat.zero_le _⟩ rfl rfl (Nat.le_of_ble_eq_true rfl) dX9_far_1 ?_
  refine go_if_eq (tgt := 15) dX9_far_4 rfl (fun hc => ?_) (fun hc => ?_)
  · replace h := q_t h hc
    refine go_aload_n rfl 0 rfl dX9_far_15 ?_
    refine go_bipush kz_bipush_m6 dX9_far_16 ?_
    obtain ⟨r_3, h_4, h⟩ := q_b h
    refine h_callVi (st := []) [.int (-6)] (m_X9_no h_4) me_X9_no (g_recv cl7.1 rfl) tw_1008 tw_1010 tw_23 (hdd_of (by decide)) ⟨Nat.zero_le _, Nat.zero_le _⟩ rfl rfl (Nat.le_of_ble_eq_true rfl) dX9_far_18 ?_
    exact h_iret h dX9_far_21 rfl
  · replace h := q_f h hc
    refine go_aload_n rfl 0 rfl dX9_far_7 ?_
    refine go_iload_n rfl 1 rfl dX9_far_8 ?_
    obtain ⟨r_5, h_6, h⟩ := q_b h
    refine h_callVi (st := []) [.int x1] (m_X9_farOf h_6) me_X9_farOf (g_recv cl7.1 rfl) tw_1168 tw_1170 tw_44 (hdd_of (by decide)) ⟨Nat.zero_le _, Nat.zero_le _⟩ rfl rfl (Nat.le_of_ble_eq_true rfl) dX9_far_9 ?_
    refine go_goto (tgt := 21) dX9_far_12 rfl ?_
    exact h_iret h dX9_far_21 rfl
noncomputable def f_X9_fault  (ν : gN) : Option (Int32 × gN) :=
  some (ν.1 53 16, ν)
theorem me_X9_fault : g_me yX9_fault cX9_fault 1 ((Option.some .int)) 0 := ⟨tw_1163, tw_79, ⟨by decide +kernel, by decide +kernel, by decide +kernel⟩, by decide⟩
set_option maxRecDepth 20000 in
set_option maxHeartbeats 2000000 in
theorem m_X9_fault {X : gX} {ad : Nat → Nat}  {ν : gN} {r : Int32 × gN}  (h : f_X9_fault  ν = some r) : h_ct X ad yX9_fault cX9_fault 1 ((Option.some .int)) 1 [.ref (ad 53)] ν (some (.int r.1), r.2) := by
  rw [f_X9_fault] at h
  refine h_ct_of (l := [(0, .ref (ad 53))]) (by decide) (Nat.le_of_ble_eq_true rfl) rfl ?_
  refine go_aload_n rfl 0 rfl dX9_fault_0 ?_
  refine h_geti 16 cl7 rfl (by decide) tw_928 rfl dX9_fault_1 ?_
  exact h_iret h dX9_fault_4 rfl
noncomputable def f_X9_isFree (x1 : Int32) (ν : gN) : Option (Int32 × gN) :=
  (f_X9_isSquare x1 ν).bind (fun r_1 =>
    if r_1.1 = 0 then
      some (0, r_1.2)
    else
      if x1 = 24 then
        some (0, r_1.2)
      else
        (f_X9_thoseAt x1 r_1.2).bind (fun r_3 =>
          if r_3.1 = 0 then
            some (1, r_3.2)
          else
            some (0, r_3.2)))
theorem me_X9_isFree : g_me yX9_isFree cX9_isFree 2 ((Option.some .boolean)) 1 := ⟨tw_1080, tw_79, ⟨by decide +kernel, by decide +kernel, by decide +kernel⟩, by decide⟩
set_option maxRecDepth 20000 in
set_option maxHeartbeats 2000000 in
theorem m_X9_isFree {X : gX} {ad : Nat → Nat} {x1 : Int32} {ν : gN} {r : Int32 × gN}  (h : f_X9_isFree x1 ν = some r) : h_ct X ad yX9_isFree cX9_isFree 2 ((Option.some .boolean)) 3 [.ref (ad 53), .int x1] ν (some (.int r.1), r.2) := by
  rw [f_X9_isFree] at h
  refine h_ct_of (l := [(0, .ref (ad 53)), (1, .int x1)]) (by decide) (Nat.le_of_ble_eq_true rfl) rfl ?_
  refine go_iload_n rfl 1 rfl dX9_isFree_0 ?_
  obtain ⟨r_1, h_2, h⟩ := q_b h
  refine h_callSi (st := []) [.int x1] (m_X9_isSquare h_2) me_X9_isSquare tw_1066 tw_1067 (hdd_of (by decide)) ⟨Nat.zero_le _, Nat.zero_le _⟩ rfl rfl (Nat.le_of_ble_eq_true rfl) dX9_isFree_1 ?_
  refine go_if_eq (tgt := 25) dX9_isFree_4 rfl (fun hc => ?_) (fun hc => ?_)
  · replace h := q_t h hc
    refine go_iconst kz_iconst_0 dX9_isFree_25 ?_
    exact h_zret rfl h dX9_isFree_26 rfl
  · replace h := q_f h hc
    refine go_iload_n rfl 1 rfl dX9_isFree_7 ?_
    refine go_bipush kz_bipush_24 dX9_isFree_8 ?_
    refine go_icmp_eq (tgt := 25) dX9_isFree_10 rfl (fun hc => ?_) (fun hc => ?_)
    · replace h := q_t h hc
      refine go_iconst kz_iconst_0 dX9_isFree_25 ?_
      exact h_zret rfl h dX9_isFree_26 rfl
    · replace h := q_f h hc
      refine go_aload_n rfl 0 rfl dX9_isFree_13 ?_
      refine go_iload_n rfl 1 rfl dX9_isFree_14 ?_
      obtain ⟨r_3, h_4, h⟩ := q_b h
      refine h_callVi (st := []) [.int x1] (m_X9_thoseAt h_4) me_X9_thoseAt (g_recv cl7.1 rfl) tw_1081 tw_1083 tw_31 (hdd_of (by decide)) ⟨Nat.zero_le _, Nat.zero_le _⟩ rfl rfl (Nat.le_of_ble_eq_true rfl) dX9_isFree_15 ?_
      refine go_if_ne (tgt := 25) dX9_isFree_18 rfl (fun hc => ?_) (fun hc => ?_)
      · replace h := q_f h hc
        refine go_iconst kz_iconst_0 dX9_isFree_25 ?_
        exact h_zret rfl h dX9_isFree_26 rfl
      · replace h := q_t h hc
        refine go_iconst kz_iconst_1 dX9_isFree_21 ?_
        refine go_goto (tgt := 26) dX9_isFree_22 rfl ?_
        exact h_zret rfl h dX9_isFree_26 rfl
noncomputable def f_X9_fence (x1 : Int32) (x2 : Int32) (ν : gN) : Option (Int32 × gN) :=
  (f_X9_isFree x1 ν).bind (fun r_1 =>
    if r_1.1 = 0 then
      (f_X9_no (-6) r_1.2).bind (fun r_8 =>
        some (r_8.1, r_8.2))
    else
      if inb x1 49 = true then
        if (r_1.2.1 60 x1.toNatClampNeg) = 0 then
          (f_X9_fenced x1 x2 r_1.2).bind (fun r_4 =>
            some (0, r_4))
        else
          (f_X9_fenced x1 x2 r_1.2).bind (fun r_6 =>
            some (1, r_6))
      else none)
theorem me_X9_fence : g_me yX9_fence cX9_fence 4 ((Option.some .int)) 2 := ⟨tw_1076, tw_79, ⟨by decide +kernel, by decide +kernel, by decide +kernel⟩, by decide⟩
set_option maxRecDepth 20000 in
set_option maxHeartbeats 2000000 in
theorem m_X9_fence {X : gX} {ad : Nat → Nat} {x1 : Int32} {x2 : Int32} {ν : gN} {r : Int32 × gN}  (h : f_X9_fence x1 x2 ν = some r) : h_ct X ad yX9_fence cX9_fence 4 ((Option.some .int)) 4 [.ref (ad 53), .int x1, .int x2] ν (some (.int r.1), r.2) := by
  rw [f_X9_fence] at h
  refine h_ct_of (l := [(0, .ref (ad 53)), (1, .int x1), (2, .int x2)]) (by decide) (Nat.le_of_ble_eq_true rfl) rfl ?_
  refine go_aload_n rfl 0 rfl dX9_fence_0 ?_
  refine go_iload_n rfl 1 rfl dX9_fence_1 ?_
  obtain ⟨r_1, h_2, h⟩ := q_b h
  refine h_callVi (st := []) [.int x1] (m_X9_isFree h_2) me_X9_isFree (g_recv cl7.1 rfl) tw_1077 tw_1079 tw_30 (hdd_of (by decide)) ⟨Nat.zero_le _, Nat.zero_le _⟩ rfl rfl (Nat.le_of_ble_eq_true rfl) dX9_fence_2 ?_
  refine go_if_ne (tgt := 15) dX9_fence_5 rfl (fun hc => ?_) (fun hc => ?_)
  · replace h := q_f h hc
    refine go_aload_n rfl 0 rfl dX9_fence_15 ?_
    refine h_getr 7 cl7 rfl (by decide) tw_919 60 rfl dX9_fence_16 ?_
    refine go_iload_n rfl 1 rfl dX9_fence_19 ?_
    obtain ⟨hg_3, h⟩ := q_g h
    refine h_zald 49 rfl hg_3 dX9_fence_20 ?_
    refine go_if_eq (tgt := 28) dX9_fence_21 rfl (fun hc => ?_) (fun hc => ?_)
    · replace h := q_t h hc
      refine go_iconst kz_iconst_0 dX9_fence_28 ?_
      refine go_istore_n (l' := [(3, .int 0), (0, .ref (ad 53)), (1, .int x1), (2, .int x2)]) dX9_fence_29 rfl (by decide) rfl ?_
      refine go_aload_n rfl 1 rfl dX9_fence_30 ?_
      refine go_iload_n rfl 2 rfl dX9_fence_31 ?_
      refine go_iload_n rfl 3 rfl dX9_fence_32 ?_
      obtain ⟨r_4, h_5, h⟩ := q_b h
      refine h_callVv (st := []) [.int x1, .int x2] (m_X9_fenced h_5) me_X9_fenced (g_recv cl7.1 rfl) tw_1085 tw_1087 tw_32 (hdd_of (by decide)) ⟨Nat.zero_le _, Nat.zero_le _⟩ rfl rfl (Nat.le_of_ble_eq_true rfl) dX9_fence_33 ?_
      refine go_iload_n rfl 0 rfl dX9_fence_36 ?_
      exact h_iret h dX9_fence_37 rfl
    · replace h := q_f h hc
      refine go_iconst kz_iconst_1 dX9_fence_24 ?_
      refine go_goto (tgt := 29) dX9_fence_25 rfl ?_
      refine go_istore_n (l' := [(3, .int 1), (0, .ref (ad 53)), (1, .int x1), (2, .int x2)]) dX9_fence_29 rfl (by decide) rfl ?_
      refine go_aload_n rfl 1 rfl dX9_fence_30 ?_
      refine go_iload_n rfl 2 rfl dX9_fence_31 ?_
      refine go_iload_n rfl 3 rfl dX9_fence_32 ?_
      obtain ⟨r_6, h_7, h⟩ := q_b h
      refine h_callVv (st := []) [.int x1, .int x2] (m_X9_fenced h_7) me_X9_fenced (g_recv cl7.1 rfl) tw_1085 tw_1087 tw_32 (hdd_of (by decide)) ⟨Nat.zero_le _, Nat.zero_le _⟩ rfl rfl (Nat.le_of_ble_eq_true rfl) dX9_fence_33 ?_
      refine go_iload_n rfl 0 rfl dX9_fence_36 ?_
      exact h_iret h dX9_fence_37 rfl
  · replace h := q_t h hc
    refine go_aload_n rfl 0 rfl dX9_fence_8 ?_
    refine go_bipush kz_bipush_m6 dX9_fence_9 ?_
    obtain ⟨r_8, h_9, h⟩ := q_b h
    refine h_callVi (st := []) [.int (-6)] (m_X9_no h_9) me_X9_no (g_recv cl7.1 rfl) tw_1008 tw_1010 tw_23 (hdd_of (by decide)) ⟨Nat.zero_le _, Nat.zero_le _⟩ rfl rfl (Nat.le_of_ble_eq_true rfl) dX9_fence_11 ?_
    exact h_iret h dX9_fence_14 rfl
noncomputable def f_X9_toldAt (x1 : Int32) (x2 : Int32) (ν : gN) : Option (Int32 × gN) :=
  if inb ((160 * x1) + x2) 1280 = true then
    some ((ν.2 64 ((160 * x1) + x2).toNatClampNeg).toInt32, ν)
  else none
theorem me_X9_toldAt : g_me yX9_toldAt cX9_toldAt 3 ((Option.some .int)) 2 := ⟨tw_1266, tw_79, ⟨by decide +kernel, by decide +kernel, by decide +kernel⟩, by decide⟩
set_option maxRecDepth 20000 in
set_option maxHeartbeats 2000000 in
theorem m_X9_toldAt {X : gX} {ad : Nat → Nat} {x1 : Int32} {x2 : Int32} {ν : gN} {r : Int32 × gN}  (h : f_X9_toldAt x1 x2 ν = some r) : h_ct X ad yX9_toldAt cX9_toldAt 3 ((Option.some .int)) 1 [.ref (ad 53), .int x1, .int x2] ν (some (.int r.1), r.2) := by
  rw [f_X9_toldAt] at h
  refine h_ct_of (l := [(0, .ref (ad 53)), (1, .int x1), (2, .int x2)]) (by decide) (Nat.le_of_ble_eq_true rfl) rfl ?_
  refine go_aload_n rfl 0 rfl dX9_toldAt_0 ?_
  refine h_getr 12 cl7 rfl (by decide) tw_924 64 rfl dX9_toldAt_1 ?_
  refine go_sipush kz_sipush_160 dX9_toldAt_4 ?_
  refine go_iload_n rfl 1 rfl dX9_toldAt_7 ?_
  refine go_imul dX9_toldAt_8 ?_
  refine go_iload_n rfl 2 rfl dX9_toldAt_9 ?_
  refine go_iadd dX9_toldAt_10 ?_
  obtain ⟨hg_1, h⟩ := q_g h
  refine h_lald 1280 rfl hg_1 dX9_toldAt_11 ?_
  refine go_l2i dX9_toldAt_12 ?_
  exact h_iret h dX9_toldAt_13 rfl
noncomputable def f_X9_goesSo_L14 (y1 : Int32) (y2 : Int32) (y3 : Int32) (k58 : Int32 → gN → Option (Int32 × gN)) : Nat → Int32 → Int32 → gN → Option (Int32 × gN)
  | 0, _, _, _ => none
  | n + 1, y4, y5, ν =>
    if y3 ≤ y5 then
      k58 y4 ν
    else
      if y4 = 0 then
        k58 y4 ν
      else
        (f_X9_goesYard  ν).bind (fun r_3 =>
          if inb y2 7 = true then
            (f_X9_toldAt y1 y5 r_3).bind (fun r_6 =>
              if (r_3.1 58 y2.toNatClampNeg) = r_6.1 then
                f_X9_goesSo_L14 y1 y2 y3 k58 n 1 (y5 + 1) r_6.2
              else
                f_X9_goesSo_L14 y1 y2 y3 k58 n 0 (y5 + 1) r_6.2)
          else none)
noncomputable def f_X9_goesSo (x1 : Int32) (x2 : Int32) (x3 : Int32) (ν : gN) : Option (Int32 × gN) :=
  (f_X9_keep 72 ν).bind (fun r_1 =>
    f_X9_goesSo_L14 x1 x2 x3 (fun z4_8 ν_9 =>
      (f_X9_again 72 ν_9).bind (fun r_10 =>
        if zb z4_8 = true then
          some (z4_8, r_10)
        else none)) FU 1 0 r_1)
theorem me_X9_goesSo : g_me yX9_goesSo cX9_goesSo 6 ((Option.some .boolean)) 3 := ⟨tw_1262, tw_79, ⟨by decide +kernel, by decide +kernel, by decide +kernel⟩, by decide⟩
set_option maxRecDepth 20000 in
set_option maxHeartbeats 2000000 in
theorem m_X9_goesSo_L14 {X : gX} {ad : Nat → Nat} {y1 : Int32} {y2 : Int32} {y3 : Int32} {k58 : Int32 → gN → Option (Int32 × gN)}  : ∀ (n : Nat) (y4 : Int32) (y5 : Int32) (ν : gN) (r : Int32 × gN), f_X9_goesSo_L14 y1 y2 y3 k58 n y4 y5 ν = some r → (∀ (z4 : Int32) (ν1 : gN), k58 z4 ν1 = some r → h_go X ad RX9 "goesSo" cX9_goesSo 6 ((Option.some .boolean)) 9 (some (.int r.1), r.2) 58 [(0, .ref (ad 53)), (4, .int z4)] [] ν1) → h_go X ad RX9 "goesSo" cX9_goesSo 6 ((Option.some .boolean)) 9 (some (.int r.1), r.2) 14 [(0, .ref (ad 53)), (1, .int y1), (2, .int y2), (3, .int y3), (4, .int y4), (5, .int y5)] [] ν := by
  intro n
  induction n with
  | zero => intro y4 y5 ν r h hk58; rw [f_X9_goesSo_L14] at h; exact q_n h
  | succ n ih =>
    intro y4 y5 ν r h hk58
    rw [f_X9_goesSo_L14] at h
    refine go_iload 5 rfl dX9_goesSo_14 ?_
    refine go_iload_n rfl 3 rfl dX9_goesSo_16 ?_
    refine go_icmp_ge (tgt := 58) dX9_goesSo_17 rfl (fun hc => ?_) (fun hc => ?_)
    · replace h := q_t h hc
      refine go_sub (l' := [(0, .ref (ad 53)), (4, .int y4)]) [0, 4] rfl ?_
      exact hk58 _ _ h
    · replace h := q_f h hc
      refine go_iload 4 rfl dX9_goesSo_20 ?_
      refine go_if_eq (tgt := 58) dX9_goesSo_22 rfl (fun hc => ?_) (fun hc => ?_)
      · replace h := q_t h hc
        refine go_sub (l' := [(0, .ref (ad 53)), (4, .int y4)]) [0, 4] rfl ?_
        exact hk58 _ _ h
      · replace h := q_f h hc
        refine go_aload_n rfl 0 rfl dX9_goesSo_25 ?_
        obtain ⟨r_3, h_4, h⟩ := q_b h
        refine h_callVv (st := []) [] (m_X9_goesYard h_4) me_X9_goesYard (g_recv cl7.1 rfl) tw_1211 tw_1213 tw_52 (hdd_of (by decide)) ⟨Nat.zero_le _, Nat.zero_le _⟩ rfl rfl (Nat.le_of_ble_eq_true rfl) dX9_goesSo_26 ?_
        refine go_aload_n rfl 0 rfl dX9_goesSo_29 ?_
        refine h_getr 5 cl7 rfl (by decide) tw_917 58 rfl dX9_goesSo_30 ?_
        refine go_iload_n rfl 2 rfl dX9_goesSo_33 ?_
        obtain ⟨hg_5, h⟩ := q_g h
        refine h_iald 7 rfl hg_5 dX9_goesSo_34 ?_
        refine go_aload_n rfl 0 rfl dX9_goesSo_35 ?_
        refine go_iload_n rfl 1 rfl dX9_goesSo_36 ?_
        refine go_iload 5 rfl dX9_goesSo_37 ?_
        obtain ⟨r_6, h_7, h⟩ := q_b h
        refine h_callVi (st := [.int (r_3.1 58 y2.toNatClampNeg)]) [.int y1, .int y5] (m_X9_toldAt h_7) me_X9_toldAt (g_recv cl7.1 rfl) tw_1263 tw_1265 tw_58 (hdd_of (by decide)) ⟨Nat.zero_le _, Nat.zero_le _⟩ rfl rfl (Nat.le_of_ble_eq_true rfl) dX9_goesSo_39 ?_
        refine go_icmp_ne (tgt := 49) dX9_goesSo_42 rfl (fun hc => ?_) (fun hc => ?_)
        · replace h := q_f h hc
          refine go_iconst kz_iconst_0 dX9_goesSo_49 ?_
          refine go_istore (l' := [(4, .int 0), (0, .ref (ad 53)), (1, .int y1), (2, .int y2), (3, .int y3), (5, .int y5)]) dX9_goesSo_50 (by decide) rfl ?_
          refine h_iinc (l' := [(5, .int (y5 + 1)), (4, .int 0), (0, .ref (ad 53)), (1, .int y1), (2, .int y2), (3, .int y3)]) dX9_goesSo_52 5 rfl kz_iconst_1 (by decide) rfl ?_
          refine go_goto (tgt := 14) dX9_goesSo_55 rfl ?_
          refine go_sub (l' := [(0, .ref (ad 53)), (1, .int y1), (2, .int y2), (3, .int y3), (4, .int 0), (5, .int (y5 + 1))]) [2, 3, 4, 5, 1, 0] rfl ?_
          exact ih _ _ _ _ h hk58
        · replace h := q_t h hc
          refine go_iconst kz_iconst_1 dX9_goesSo_45 ?_
          refine go_goto (tgt := 50) dX9_goesSo_46 rfl ?_
          refine go_istore (l' := [(4, .int 1), (0, .ref (ad 53)), (1, .int y1), (2, .int y2), (3, .int y3), (5, .int y5)]) dX9_goesSo_50 (by decide) rfl ?_
          refine h_iinc (l' := [(5, .int (y5 + 1)), (4, .int 1), (0, .ref (ad 53)), (1, .int y1), (2, .int y2), (3, .int y3)]) dX9_goesSo_52 5 rfl kz_iconst_1 (by decide) rfl ?_
          refine go_goto (tgt := 14) dX9_goesSo_55 rfl ?_
          refine go_sub (l' := [(0, .ref (ad 53)), (1, .int y1), (2, .int y2), (3, .int y3), (4, .int 1), (5, .int (y5 + 1))]) [2, 3, 4, 5, 1, 0] rfl ?_
          exact ih _ _ _ _ h hk58
set_option maxRecDepth 20000 in
set_option maxHeartbeats 2000000 in
theorem m_X9_goesSo {X : gX} {ad : Nat → Nat} {x1 : Int32} {x2 : Int32} {x3 : Int32} {ν : gN} {r : Int32 × gN}  (h : f_X9_goesSo x1 x2 x3 ν = some r) : h_ct X ad yX9_goesSo cX9_goesSo 6 ((Option.some .boolean)) 9 [.ref (ad 53), .int x1, .int x2, .int x3] ν (some (.int r.1), r.2) := by
  rw [f_X9_goesSo] at h
  refine h_ct_of (l := [(0, .ref (ad 53)), (1, .int x1), (2, .int x2), (3, .int x3)]) (by decide) (Nat.le_of_ble_eq_true rfl) rfl ?_
  refine go_aload_n rfl 0 rfl dX9_goesSo_0 ?_
  refine go_aload_n rfl 0 rfl dX9_goesSo_1 ?_
  refine h_getr 27 cl7 rfl (by decide) tw_939 72 rfl dX9_goesSo_2 ?_
  obtain ⟨r_1, h_2, h⟩ := q_b h
  refine h_callVv (st := []) [.ref (ad 72)] (m_X9_keep rfl h_2) me_X9_keep (g_recv cl7.1 rfl) tw_1117 tw_1119 tw_35 (hdd_of (by decide)) ⟨Nat.zero_le _, Nat.zero_le _⟩ rfl rfl (Nat.le_of_ble_eq_true rfl) dX9_goesSo_5 ?_
  refine go_iconst kz_iconst_1 dX9_goesSo_8 ?_
  refine go_istore (l' := [(4, .int 1), (0, .ref (ad 53)), (1, .int x1), (2, .int x2), (3, .int x3)]) dX9_goesSo_9 (by decide) rfl ?_
  refine go_iconst kz_iconst_0 dX9_goesSo_11 ?_
  refine go_istore (l' := [(5, .int 0), (4, .int 1), (0, .ref (ad 53)), (1, .int x1), (2, .int x2), (3, .int x3)]) dX9_goesSo_12 (by decide) rfl ?_
  refine go_sub (l' := [(0, .ref (ad 53)), (1, .int x1), (2, .int x2), (3, .int x3), (4, .int 1), (5, .int 0)]) [2, 3, 4, 5, 1, 0] rfl ?_
  refine m_X9_goesSo_L14  FU _ _ _ _ h (fun z4_8 ν_9 h => ?_)
  refine go_aload_n rfl 0 rfl dX9_goesSo_58 ?_
  refine go_aload_n rfl 0 rfl dX9_goesSo_59 ?_
  refine h_getr 27 cl7 rfl (by decide) tw_939 72 rfl dX9_goesSo_60 ?_
  obtain ⟨r_10, h_11, h⟩ := q_b h
  refine h_callVv (st := []) [.ref (ad 72)] (m_X9_again rfl h_11) me_X9_again (g_recv cl7.1 rfl) tw_1156 tw_1158 tw_43 (hdd_of (by decide)) ⟨Nat.zero_le _, Nat.zero_le _⟩ rfl rfl (Nat.le_of_ble_eq_true rfl) dX9_goesSo_63 ?_
  refine go_iload 1 rfl dX9_goesSo_66 ?_
  obtain ⟨hg_12, h⟩ := q_g h
  exact h_zret hg_12 h dX9_goesSo_68 rfl
noncomputable def f_X9_noRow (x1 : Int32) (ν : gN) : Option (Int32 × gN) :=
  (f_X9_within x1 0 7 ν).bind (fun r_1 =>
    if r_1.1 = 0 then
      some ((-1), r_1.2)
    else
      if inb x1 8 = true then
        if (r_1.2.1 62 x1.toNatClampNeg) < 0 then
          if inb x1 8 = true then
            if 0 ≤ (r_1.2.1 62 x1.toNatClampNeg) then
              some (0, r_1.2)
            else
              some ((-3), r_1.2)
          else none
        else
          (f_X9_isRow x1 r_1.2).bind (fun r_5 =>
            if r_5.1 = 0 then
              some ((-2), r_5.2)
            else
              if inb x1 8 = true then
                if 0 ≤ (r_5.2.1 62 x1.toNatClampNeg) then
                  some (0, r_5.2)
                else
                  some ((-3), r_5.2)
              else none)
      else none)
theorem me_X9_noRow : g_me yX9_noRow cX9_noRow 2 ((Option.some .int)) 1 := ⟨tw_1019, tw_79, ⟨by decide +kernel, by decide +kernel, by decide +kernel⟩, by decide⟩
set_option maxRecDepth 20000 in
set_option maxHeartbeats 2000000 in
theorem m_X9_noRow {X : gX} {ad : Nat → Nat} {x1 : Int32} {ν : gN} {r : Int32 × gN}  (h : f_X9_noRow x1 ν = some r) : h_ct X ad yX9_noRow cX9_noRow 2 ((Option.some .int)) 2 [.ref (ad 53), .int x1] ν (some (.int r.1), r.2) := by
  rw [f_X9_noRow] at h
  refine h_ct_of (l := [(0, .ref (ad 53)), (1, .int x1)]) (by decide) (Nat.le_of_ble_eq_true rfl) rfl ?_
  refine go_iload_n rfl 1 rfl dX9_noRow_0 ?_
  refine go_iconst kz_iconst_0 dX9_noRow_1 ?_
  refine go_bipush kz_bipush_7 dX9_noRow_2 ?_
  obtain ⟨r_1, h_2, h⟩ := q_b h
  refine h_callSi (st := []) [.int x1, .int 0, .int 7] (m_X9_within h_2) me_X9_within tw_1005 tw_1006 (hdd_of (by decide)) ⟨Nat.zero_le _, Nat.zero_le _⟩ rfl rfl (Nat.le_of_ble_eq_true rfl) dX9_noRow_4 ?_
  refine go_if_ne (tgt := 12) dX9_noRow_7 rfl (fun hc => ?_) (fun hc => ?_)
  · replace h := q_f h hc
    refine go_aload_n rfl 0 rfl dX9_noRow_12 ?_
    refine h_getr 10 cl7 rfl (by decide) tw_922 62 rfl dX9_noRow_13 ?_
    refine go_iload_n rfl 1 rfl dX9_noRow_16 ?_
    obtain ⟨hg_3, h⟩ := q_g h
    refine h_iald 8 rfl hg_3 dX9_noRow_17 ?_
    refine go_if_lt (tgt := 32) dX9_noRow_18 rfl (fun hc => ?_) (fun hc => ?_)
    · replace h := q_t h hc
      refine go_aload_n rfl 0 rfl dX9_noRow_32 ?_
      refine h_getr 10 cl7 rfl (by decide) tw_922 62 rfl dX9_noRow_33 ?_
      refine go_iload_n rfl 1 rfl dX9_noRow_36 ?_
      obtain ⟨hg_4, h⟩ := q_g h
      refine h_iald 8 rfl hg_4 dX9_noRow_37 ?_
      refine go_if_ge (tgt := 46) dX9_noRow_38 rfl (fun hc => ?_) (fun hc => ?_)
      · replace h := q_t h hc
        refine go_iconst kz_iconst_0 dX9_noRow_46 ?_
        exact h_iret h dX9_noRow_47 rfl
      · replace h := q_f h hc
        refine go_bipush kz_bipush_m3 dX9_noRow_41 ?_
        refine go_goto (tgt := 47) dX9_noRow_43 rfl ?_
        exact h_iret h dX9_noRow_47 rfl
    · replace h := q_f h hc
      refine go_aload_n rfl 0 rfl dX9_noRow_21 ?_
      refine go_iload_n rfl 1 rfl dX9_noRow_22 ?_
      obtain ⟨r_5, h_6, h⟩ := q_b h
      refine h_callVi (st := []) [.int x1] (m_X9_isRow h_6) me_X9_isRow (g_recv cl7.1 rfl) tw_1020 tw_1022 tw_25 (hdd_of (by decide)) ⟨Nat.zero_le _, Nat.zero_le _⟩ rfl rfl (Nat.le_of_ble_eq_true rfl) dX9_noRow_23 ?_
      refine go_if_ne (tgt := 32) dX9_noRow_26 rfl (fun hc => ?_) (fun hc => ?_)
      · replace h := q_f h hc
        refine go_aload_n rfl 0 rfl dX9_noRow_32 ?_
        refine h_getr 10 cl7 rfl (by decide) tw_922 62 rfl dX9_noRow_33 ?_
        refine go_iload_n rfl 1 rfl dX9_noRow_36 ?_
        obtain ⟨hg_7, h⟩ := q_g h
        refine h_iald 8 rfl hg_7 dX9_noRow_37 ?_
        refine go_if_ge (tgt := 46) dX9_noRow_38 rfl (fun hc => ?_) (fun hc => ?_)
        · replace h := q_t h hc
          refine go_iconst kz_iconst_0 dX9_noRow_46 ?_
          exact h_iret h dX9_noRow_47 rfl
        · replace h := q_f h hc
          refine go_bipush kz_bipush_m3 dX9_noRow_41 ?_
          refine go_goto (tgt := 47) dX9_noRow_43 rfl ?_
          exact h_iret h dX9_noRow_47 rfl
      · replace h := q_t h hc
        refine go_bipush kz_bipush_m2 dX9_noRow_29 ?_
        exact h_iret h dX9_noRow_31 rfl
  · replace h := q_t h hc
    refine go_iconst kz_iconst_m1 dX9_noRow_10 ?_
    exact h_iret h dX9_noRow_11 rfl
noncomputable def f_X9_fits_L122 (y1 : Int32) (y2 : Int32) (y3 : Int32) (y4 : Int32) (y6 : Int32)  : Nat → Int32 → Int32 → gN → Option (Int32 × gN)
  | 0, _, _, _ => none
  | n + 1, y7, y8, ν =>
    if y4 = 0 then
      if 20 < y8 then
        if y4 = 0 then
          if inb y2 7 = true then
            qL (nWI ν 56 y2.toNatClampNeg y6) (fun ν_35 =>
              some (y7, ν_35))
          else none
        else
          if inb y2 7 = true then
            qL (nWI ν 54 y2.toNatClampNeg y6) (fun ν_32 =>
              some (y7, ν_32))
          else none
      else
        if y4 = 0 then
          if inb y2 7 = true then
            qL (nWI ν 56 y2.toNatClampNeg y8) (fun ν_43 =>
              (f_X9_goesSo y1 y2 y3 ν_43).bind (fun r_45 =>
                if r_45.1 = 0 then
                  f_X9_fits_L122 y1 y2 y3 y4 y6 n y7 (y8 + 1) r_45.2
                else
                  f_X9_fits_L122 y1 y2 y3 y4 y6 n (y7 ||| (j_shl 1 y8)) (y8 + 1) r_45.2))
          else none
        else
          if inb y2 7 = true then
            qL (nWI ν 54 y2.toNatClampNeg y8) (fun ν_38 =>
              (f_X9_goesSo y1 y2 y3 ν_38).bind (fun r_40 =>
                if r_40.1 = 0 then
                  f_X9_fits_L122 y1 y2 y3 y4 y6 n y7 (y8 + 1) r_40.2
                else
                  f_X9_fits_L122 y1 y2 y3 y4 y6 n (y7 ||| (j_shl 1 y8)) (y8 + 1) r_40.2))
          else none
    else
      if 6 < y8 then
        if y4 = 0 then
          if inb y2 7 = true then
            qL (nWI ν 56 y2.toNatClampNeg y6) (fun ν_19 =>
              some (y7, ν_19))
          else none
        else
          if inb y2 7 = true then
            qL (nWI ν 54 y2.toNatClampNeg y6) (fun ν_16 =>
              some (y7, ν_16))
          else none
      else
        if y4 = 0 then
          if inb y2 7 = true then
            qL (nWI ν 56 y2.toNatClampNeg y8) (fun ν_27 =>
              (f_X9_goesSo y1 y2 y3 ν_27).bind (fun r_29 =>
                if r_29.1 = 0 then
                  f_X9_fits_L122 y1 y2 y3 y4 y6 n y7 (y8 + 1) r_29.2
                else
                  f_X9_fits_L122 y1 y2 y3 y4 y6 n (y7 ||| (j_shl 1 y8)) (y8 + 1) r_29.2))
          else none
        else
          if inb y2 7 = true then
            qL (nWI ν 54 y2.toNatClampNeg y8) (fun ν_22 =>
              (f_X9_goesSo y1 y2 y3 ν_22).bind (fun r_24 =>
                if r_24.1 = 0 then
                  f_X9_fits_L122 y1 y2 y3 y4 y6 n y7 (y8 + 1) r_24.2
                else
                  f_X9_fits_L122 y1 y2 y3 y4 y6 n (y7 ||| (j_shl 1 y8)) (y8 + 1) r_24.2))
          else none
noncomputable def f_X9_fits (x1 : Int32) (x2 : Int32) (x3 : Int32) (x4 : Int32) (ν : gN) : Option (Int32 × gN) :=
  (f_X9_within x1 0 7 ν).bind (fun r_1 =>
    if r_1.1 = 0 then
      (f_X9_no (-1) r_1.2).bind (fun r_3 =>
        some (r_3.1, r_3.2))
    else
      (f_X9_isOne x2 r_1.2).bind (fun r_5 =>
        if r_5.1 = 0 then
          (f_X9_no (-1) r_5.2).bind (fun r_56 =>
            some (r_56.1, r_56.2))
        else
          (f_X9_noRow x1 r_5.2).bind (fun r_7 =>
            if 0 ≤ r_7.1 then
              if 0 ≤ x3 then
                if inb x1 8 = true then
                  if (r_7.2.1 63 x1.toNatClampNeg) < x3 then
                    (f_X9_no (-5) r_7.2).bind (fun r_10 =>
                      some (r_10.1, r_10.2))
                  else
                    (f_X9_within x4 0 1 r_7.2).bind (fun r_12 =>
                      if r_12.1 = 0 then
                        (f_X9_no (-5) r_12.2).bind (fun r_50 =>
                          some (r_50.1, r_50.2))
                      else
                        if x3 ≤ 30 then
                          if x4 = 0 then
                            if inb x2 7 = true then
                              f_X9_fits_L122 x1 x2 x3 x4 (r_12.2.1 56 x2.toNatClampNeg) FU 0 0 r_12.2
                            else none
                          else
                            if inb x2 7 = true then
                              f_X9_fits_L122 x1 x2 x3 x4 (r_12.2.1 54 x2.toNatClampNeg) FU 0 0 r_12.2
                            else none
                        else
                          (f_X9_no (-6) r_12.2).bind (fun r_48 =>
                            some (r_48.1, r_48.2)))
                else none
              else
                (f_X9_no (-4) r_7.2).bind (fun r_52 =>
                  some (r_52.1, r_52.2))
            else
              (f_X9_no r_7.1 r_7.2).bind (fun r_54 =>
                some (r_54.1, r_54.2)))))
theorem me_X9_fits : g_me yX9_fits cX9_fits 9 ((Option.some .int)) 4 := ⟨tw_1258, tw_79, ⟨by decide +kernel, by decide +kernel, by decide +kernel⟩, by decide⟩
set_option maxRecDepth 20000 in
set_option maxHeartbeats 2000000 in
theorem m_X9_fits_L122 {X : gX} {ad : Nat → Nat} {y1 : Int32} {y2 : Int32} {y3 : Int32} {y4 : Int32} {y6 : Int32}   : ∀ (n : Nat) (y7 : Int32) (y8 : Int32) (ν : gN) (r : Int32 × gN), f_X9_fits_L122 y1 y2 y3 y4 y6 n y7 y8 ν = some r → h_go X ad RX9 "fits" cX9_fits 9 ((Option.some .int)) 10 (some (.int r.1), r.2) 122 [(0, .ref (ad 53)), (1, .int y1), (2, .int y2), (3, .int y3), (4, .int y4), (6, .int y6), (7, .int y7), (8, .int y8)] [] ν := by
  intro n
  induction n with
  | zero => intro y7 y8 ν r h; rw [f_X9_fits_L122] at h; exact q_n h
  | succ n ih =>
    intro y7 y8 ν r h
    rw [f_X9_fits_L122] at h
    refine go_iload 7 rfl dX9_fits_122 ?_
    refine go_iload 4 rfl dX9_fits_124 ?_
    refine go_if_ne (tgt := 134) dX9_fits_126 rfl (fun hc => ?_) (fun hc => ?_)
    · replace h := q_f h hc
      refine go_bipush kz_bipush_6 dX9_fits_134 ?_
      refine go_icmp_gt (tgt := 188) dX9_fits_136 rfl (fun hc => ?_) (fun hc => ?_)
      · replace h := q_t h hc
        refine go_iload 4 rfl dX9_fits_188 ?_
        refine go_if_ne (tgt := 204) dX9_fits_190 rfl (fun hc => ?_) (fun hc => ?_)
        · replace h := q_f h hc
          refine go_aload_n rfl 0 rfl dX9_fits_204 ?_
          refine h_getr 1 cl7 rfl (by decide) tw_913 54 rfl dX9_fits_205 ?_
          refine go_iload_n rfl 2 rfl dX9_fits_208 ?_
          refine go_iload 5 rfl dX9_fits_209 ?_
          obtain ⟨hg_15, h⟩ := q_g h
          obtain ⟨ν_16, e_17, h⟩ := q_l h
          refine h_iast 7 rfl hg_15 e_17 dX9_fits_211 ?_
          refine go_iload 6 rfl dX9_fits_212 ?_
          exact h_iret h dX9_fits_214 rfl
        · replace h := q_t h hc
          refine go_aload_n rfl 0 rfl dX9_fits_193 ?_
          refine h_getr 3 cl7 rfl (by decide) tw_915 56 rfl dX9_fits_194 ?_
          refine go_iload_n rfl 2 rfl dX9_fits_197 ?_
          refine go_iload 5 rfl dX9_fits_198 ?_
          obtain ⟨hg_18, h⟩ := q_g h
          obtain ⟨ν_19, e_20, h⟩ := q_l h
          refine h_iast 7 rfl hg_18 e_20 dX9_fits_200 ?_
          refine go_goto (tgt := 212) dX9_fits_201 rfl ?_
          refine go_iload 6 rfl dX9_fits_212 ?_
          exact h_iret h dX9_fits_214 rfl
      · replace h := q_f h hc
        refine go_iload 4 rfl dX9_fits_139 ?_
        refine go_if_ne (tgt := 155) dX9_fits_141 rfl (fun hc => ?_) (fun hc => ?_)
        · replace h := q_f h hc
          refine go_aload_n rfl 0 rfl dX9_fits_155 ?_
          refine h_getr 1 cl7 rfl (by decide) tw_913 54 rfl dX9_fits_156 ?_
          refine go_iload_n rfl 2 rfl dX9_fits_159 ?_
          refine go_iload 7 rfl dX9_fits_160 ?_
          obtain ⟨hg_21, h⟩ := q_g h
          obtain ⟨ν_22, e_23, h⟩ := q_l h
          refine h_iast 7 rfl hg_21 e_23 dX9_fits_162 ?_
          refine go_aload_n rfl 0 rfl dX9_fits_163 ?_
          refine go_iload_n rfl 1 rfl dX9_fits_164 ?_
          refine go_iload_n rfl 2 rfl dX9_fits_165 ?_
          refine go_iload_n rfl 3 rfl dX9_fits_166 ?_
          obtain ⟨r_24, h_25, h⟩ := q_b h
          refine h_callVi (st := []) [.int y1, .int y2, .int y3] (m_X9_goesSo h_25) me_X9_goesSo (g_recv cl7.1 rfl) tw_1259 tw_1261 tw_57 (hdd_of (by decide)) ⟨Nat.zero_le _, Nat.zero_le _⟩ rfl rfl (Nat.le_of_ble_eq_true rfl) dX9_fits_167 ?_
          refine go_if_eq (tgt := 182) dX9_fits_170 rfl (fun hc => ?_) (fun hc => ?_)
          · replace h := q_t h hc
            refine h_iinc (l' := [(8, .int (y8 + 1)), (0, .ref (ad 53)), (1, .int y1), (2, .int y2), (3, .int y3), (4, .int y4), (6, .int y6), (7, .int y7)]) dX9_fits_182 7 rfl kz_iconst_1 (by decide) rfl ?_
            refine go_goto (tgt := 122) dX9_fits_185 rfl ?_
            refine go_sub (l' := [(0, .ref (ad 53)), (1, .int y1), (2, .int y2), (3, .int y3), (4, .int y4), (6, .int y6), (7, .int y7), (8, .int (y8 + 1))]) [1, 2, 3, 4, 5, 6, 7, 0] rfl ?_
            exact ih _ _ _ _ h 
          · replace h := q_f h hc
            refine go_iload 6 rfl dX9_fits_173 ?_
            refine go_iconst kz_iconst_1 dX9_fits_175 ?_
            refine go_iload 7 rfl dX9_fits_176 ?_
            refine h_ishl dX9_fits_178 ?_
            refine go_ior dX9_fits_179 ?_
            refine go_istore (l' := [(7, .int (y7 ||| (j_shl 1 y8))), (0, .ref (ad 53)), (1, .int y1), (2, .int y2), (3, .int y3), (4, .int y4), (6, .int y6), (8, .int y8)]) dX9_fits_180 (by decide) rfl ?_
            refine h_iinc (l' := [(8, .int (y8 + 1)), (7, .int (y7 ||| (j_shl 1 y8))), (0, .ref (ad 53)), (1, .int y1), (2, .int y2), (3, .int y3), (4, .int y4), (6, .int y6)]) dX9_fits_182 7 rfl kz_iconst_1 (by decide) rfl ?_
            refine go_goto (tgt := 122) dX9_fits_185 rfl ?_
            refine go_sub (l' := [(0, .ref (ad 53)), (1, .int y1), (2, .int y2), (3, .int y3), (4, .int y4), (6, .int y6), (7, .int (y7 ||| (j_shl 1 y8))), (8, .int (y8 + 1))]) [2, 3, 4, 5, 6, 7, 1, 0] rfl ?_
            exact ih _ _ _ _ h 
        · replace h := q_t h hc
          refine go_aload_n rfl 0 rfl dX9_fits_144 ?_
          refine h_getr 3 cl7 rfl (by decide) tw_915 56 rfl dX9_fits_145 ?_
          refine go_iload_n rfl 2 rfl dX9_fits_148 ?_
          refine go_iload 7 rfl dX9_fits_149 ?_
          obtain ⟨hg_26, h⟩ := q_g h
          obtain ⟨ν_27, e_28, h⟩ := q_l h
          refine h_iast 7 rfl hg_26 e_28 dX9_fits_151 ?_
          refine go_goto (tgt := 163) dX9_fits_152 rfl ?_
          refine go_aload_n rfl 0 rfl dX9_fits_163 ?_
          refine go_iload_n rfl 1 rfl dX9_fits_164 ?_
          refine go_iload_n rfl 2 rfl dX9_fits_165 ?_
          refine go_iload_n rfl 3 rfl dX9_fits_166 ?_
          obtain ⟨r_29, h_30, h⟩ := q_b h
          refine h_callVi (st := []) [.int y1, .int y2, .int y3] (m_X9_goesSo h_30) me_X9_goesSo (g_recv cl7.1 rfl) tw_1259 tw_1261 tw_57 (hdd_of (by decide)) ⟨Nat.zero_le _, Nat.zero_le _⟩ rfl rfl (Nat.le_of_ble_eq_true rfl) dX9_fits_167 ?_
          refine go_if_eq (tgt := 182) dX9_fits_170 rfl (fun hc => ?_) (fun hc => ?_)
          · replace h := q_t h hc
            refine h_iinc (l' := [(8, .int (y8 + 1)), (0, .ref (ad 53)), (1, .int y1), (2, .int y2), (3, .int y3), (4, .int y4), (6, .int y6), (7, .int y7)]) dX9_fits_182 7 rfl kz_iconst_1 (by decide) rfl ?_
            refine go_goto (tgt := 122) dX9_fits_185 rfl ?_
            refine go_sub (l' := [(0, .ref (ad 53)), (1, .int y1), (2, .int y2), (3, .int y3), (4, .int y4), (6, .int y6), (7, .int y7), (8, .int (y8 + 1))]) [1, 2, 3, 4, 5, 6, 7, 0] rfl ?_
            exact ih _ _ _ _ h 
          · replace h := q_f h hc
            refine go_iload 6 rfl dX9_fits_173 ?_
            refine go_iconst kz_iconst_1 dX9_fits_175 ?_
            refine go_iload 7 rfl dX9_fits_176 ?_
            refine h_ishl dX9_fits_178 ?_
            refine go_ior dX9_fits_179 ?_
            refine go_istore (l' := [(7, .int (y7 ||| (j_shl 1 y8))), (0, .ref (ad 53)), (1, .int y1), (2, .int y2), (3, .int y3), (4, .int y4), (6, .int y6), (8, .int y8)]) dX9_fits_180 (by decide) rfl ?_
            refine h_iinc (l' := [(8, .int (y8 + 1)), (7, .int (y7 ||| (j_shl 1 y8))), (0, .ref (ad 53)), (1, .int y1), (2, .int y2), (3, .int y3), (4, .int y4), (6, .int y6)]) dX9_fits_182 7 rfl kz_iconst_1 (by decide) rfl ?_
            refine go_goto (tgt := 122) dX9_fits_185 rfl ?_
            refine go_sub (l' := [(0, .ref (ad 53)), (1, .int y1), (2, .int y2), (3, .int y3), (4, .int y4), (6, .int y6), (7, .int (y7 ||| (j_shl 1 y8))), (8, .int (y8 + 1))]) [2, 3, 4, 5, 6, 7, 1, 0] rfl ?_
            exact ih _ _ _ _ h 
    · replace h := q_t h hc
      refine go_bipush kz_bipush_20 dX9_fits_129 ?_
      refine go_goto (tgt := 136) dX9_fits_131 rfl ?_
      refine go_icmp_gt (tgt := 188) dX9_fits_136 rfl (fun hc => ?_) (fun hc => ?_)
      · replace h := q_t h hc
        refine go_iload 4 rfl dX9_fits_188 ?_
        refine go_if_ne (tgt := 204) dX9_fits_190 rfl (fun hc => ?_) (fun hc => ?_)
        · replace h := q_f h hc
          refine go_aload_n rfl 0 rfl dX9_fits_204 ?_
          refine h_getr 1 cl7 rfl (by decide) tw_913 54 rfl dX9_fits_205 ?_
          refine go_iload_n rfl 2 rfl dX9_fits_208 ?_
          refine go_iload 5 rfl dX9_fits_209 ?_
          obtain ⟨hg_31, h⟩ := q_g h
          obtain ⟨ν_32, e_33, h⟩ := q_l h
          refine h_iast 7 rfl hg_31 e_33 dX9_fits_211 ?_
          refine go_iload 6 rfl dX9_fits_212 ?_
          exact h_iret h dX9_fits_214 rfl
        · replace h := q_t h hc
          refine go_aload_n rfl 0 rfl dX9_fits_193 ?_
          refine h_getr 3 cl7 rfl (by decide) tw_915 56 rfl dX9_fits_194 ?_
          refine go_iload_n rfl 2 rfl dX9_fits_197 ?_
          refine go_iload 5 rfl dX9_fits_198 ?_
          obtain ⟨hg_34, h⟩ := q_g h
          obtain ⟨ν_35, e_36, h⟩ := q_l h
          refine h_iast 7 rfl hg_34 e_36 dX9_fits_200 ?_
          refine go_goto (tgt := 212) dX9_fits_201 rfl ?_
          refine go_iload 6 rfl dX9_fits_212 ?_
          exact h_iret h dX9_fits_214 rfl
      · replace h := q_f h hc
        refine go_iload 4 rfl dX9_fits_139 ?_
        refine go_if_ne (tgt := 155) dX9_fits_141 rfl (fun hc => ?_) (fun hc => ?_)
        · replace h := q_f h hc
          refine go_aload_n rfl 0 rfl dX9_fits_155 ?_
          refine h_getr 1 cl7 rfl (by decide) tw_913 54 rfl dX9_fits_156 ?_
          refine go_iload_n rfl 2 rfl dX9_fits_159 ?_
          refine go_iload 7 rfl dX9_fits_160 ?_
          obtain ⟨hg_37, h⟩ := q_g h
          obtain ⟨ν_38, e_39, h⟩ := q_l h
          refine h_iast 7 rfl hg_37 e_39 dX9_fits_162 ?_
          refine go_aload_n rfl 0 rfl dX9_fits_163 ?_
          refine go_iload_n rfl 1 rfl dX9_fits_164 ?_
          refine go_iload_n rfl 2 rfl dX9_fits_165 ?_
          refine go_iload_n rfl 3 rfl dX9_fits_166 ?_
          obtain ⟨r_40, h_41, h⟩ := q_b h
          refine h_callVi (st := []) [.int y1, .int y2, .int y3] (m_X9_goesSo h_41) me_X9_goesSo (g_recv cl7.1 rfl) tw_1259 tw_1261 tw_57 (hdd_of (by decide)) ⟨Nat.zero_le _, Nat.zero_le _⟩ rfl rfl (Nat.le_of_ble_eq_true rfl) dX9_fits_167 ?_
          refine go_if_eq (tgt := 182) dX9_fits_170 rfl (fun hc => ?_) (fun hc => ?_)
          · replace h := q_t h hc
            refine h_iinc (l' := [(8, .int (y8 + 1)), (0, .ref (ad 53)), (1, .int y1), (2, .int y2), (3, .int y3), (4, .int y4), (6, .int y6), (7, .int y7)]) dX9_fits_182 7 rfl kz_iconst_1 (by decide) rfl ?_
            refine go_goto (tgt := 122) dX9_fits_185 rfl ?_
            refine go_sub (l' := [(0, .ref (ad 53)), (1, .int y1), (2, .int y2), (3, .int y3), (4, .int y4), (6, .int y6), (7, .int y7), (8, .int (y8 + 1))]) [1, 2, 3, 4, 5, 6, 7, 0] rfl ?_
            exact ih _ _ _ _ h 
          · replace h := q_f h hc
            refine go_iload 6 rfl dX9_fits_173 ?_
            refine go_iconst kz_iconst_1 dX9_fits_175 ?_
            refine go_iload 7 rfl dX9_fits_176 ?_
            refine h_ishl dX9_fits_178 ?_
            refine go_ior dX9_fits_179 ?_
            refine go_istore (l' := [(7, .int (y7 ||| (j_shl 1 y8))), (0, .ref (ad 53)), (1, .int y1), (2, .int y2), (3, .int y3), (4, .int y4), (6, .int y6), (8, .int y8)]) dX9_fits_180 (by decide) rfl ?_
            refine h_iinc (l' := [(8, .int (y8 + 1)), (7, .int (y7 ||| (j_shl 1 y8))), (0, .ref (ad 53)), (1, .int y1), (2, .int y2), (3, .int y3), (4, .int y4), (6, .int y6)]) dX9_fits_182 7 rfl kz_iconst_1 (by decide) rfl ?_
            refine go_goto (tgt := 122) dX9_fits_185 rfl ?_
            refine go_sub (l' := [(0, .ref (ad 53)), (1, .int y1), (2, .int y2), (3, .int y3), (4, .int y4), (6, .int y6), (7, .int (y7 ||| (j_shl 1 y8))), (8, .int (y8 + 1))]) [2, 3, 4, 5, 6, 7, 1, 0] rfl ?_
            exact ih _ _ _ _ h 
        · replace h := q_t h hc
          refine go_aload_n rfl 0 rfl dX9_fits_144 ?_
          refine h_getr 3 cl7 rfl (by decide) tw_915 56 rfl dX9_fits_145 ?_
          refine go_iload_n rfl 2 rfl dX9_fits_148 ?_
          refine go_iload 7 rfl dX9_fits_149 ?_
          obtain ⟨hg_42, h⟩ := q_g h
          obtain ⟨ν_43, e_44, h⟩ := q_l h
          refine h_iast 7 rfl hg_42 e_44 dX9_fits_151 ?_
          refine go_goto (tgt := 163) dX9_fits_152 rfl ?_
          refine go_aload_n rfl 0 rfl dX9_fits_163 ?_
          refine go_iload_n rfl 1 rfl dX9_fits_164 ?_
          refine go_iload_n rfl 2 rfl dX9_fits_165 ?_
          refine go_iload_n rfl 3 rfl dX9_fits_166 ?_
          obtain ⟨r_45, h_46, h⟩ := q_b h
          refine h_callVi (st := []) [.int y1, .int y2, .int y3] (m_X9_goesSo h_46) me_X9_goesSo (g_recv cl7.1 rfl) tw_1259 tw_1261 tw_57 (hdd_of (by decide)) ⟨Nat.zero_le _, Nat.zero_le _⟩ rfl rfl (Nat.le_of_ble_eq_true rfl) dX9_fits_167 ?_
          refine go_if_eq (tgt := 182) dX9_fits_170 rfl (fun hc => ?_) (fun hc => ?_)
          · replace h := q_t h hc
            refine h_iinc (l' := [(8, .int (y8 + 1)), (0, .ref (ad 53)), (1, .int y1), (2, .int y2), (3, .int y3), (4, .int y4), (6, .int y6), (7, .int y7)]) dX9_fits_182 7 rfl kz_iconst_1 (by decide) rfl ?_
            refine go_goto (tgt := 122) dX9_fits_185 rfl ?_
            refine go_sub (l' := [(0, .ref (ad 53)), (1, .int y1), (2, .int y2), (3, .int y3), (4, .int y4), (6, .int y6), (7, .int y7), (8, .int (y8 + 1))]) [1, 2, 3, 4, 5, 6, 7, 0] rfl ?_
            exact ih _ _ _ _ h 
          · replace h := q_f h hc
            refine go_iload 6 rfl dX9_fits_173 ?_
            refine go_iconst kz_iconst_1 dX9_fits_175 ?_
            refine go_iload 7 rfl dX9_fits_176 ?_
            refine h_ishl dX9_fits_178 ?_
            refine go_ior dX9_fits_179 ?_
            refine go_istore (l' := [(7, .int (y7 ||| (j_shl 1 y8))), (0, .ref (ad 53)), (1, .int y1), (2, .int y2), (3, .int y3), (4, .int y4), (6, .int y6), (8, .int y8)]) dX9_fits_180 (by decide) rfl ?_
            refine h_iinc (l' := [(8, .int (y8 + 1)), (7, .int (y7 ||| (j_shl 1 y8))), (0, .ref (ad 53)), (1, .int y1), (2, .int y2), (3, .int y3), (4, .int y4), (6, .int y6)]) dX9_fits_182 7 rfl kz_iconst_1 (by decide) rfl ?_
            refine go_goto (tgt := 122) dX9_fits_185 rfl ?_
            refine go_sub (l' := [(0, .ref (ad 53)), (1, .int y1), (2, .int y2), (3, .int y3), (4, .int y4), (6, .int y6), (7, .int (y7 ||| (j_shl 1 y8))), (8, .int (y8 + 1))]) [2, 3, 4, 5, 6, 7, 1, 0] rfl ?_
            exact ih _ _ _ _ h 
set_option maxRecDepth 20000 in
set_option maxHeartbeats 2000000 in
theorem m_X9_fits {X : gX} {ad : Nat → Nat} {x1 : Int32} {x2 : Int32} {x3 : Int32} {x4 : Int32} {ν : gN} {r : Int32 × gN}  (h : f_X9_fits x1 x2 x3 x4 ν = some r) : h_ct X ad yX9_fits cX9_fits 9 ((Option.some .int)) 10 [.ref (ad 53), .int x1, .int x2, .int x3, .int x4] ν (some (.int r.1), r.2) := by
  rw [f_X9_fits] at h
  refine h_ct_of (l := [(0, .ref (ad 53)), (1, .int x1), (2, .int x2), (3, .int x3), (4, .int x4)]) (by decide) (Nat.le_of_ble_eq_true rfl) rfl ?_
  refine go_iload_n rfl 1 rfl dX9_fits_0 ?_
  refine go_iconst kz_iconst_0 dX9_fits_1 ?_
  refine go_bipush kz_bipush_7 dX9_fits_2 ?_
  obtain ⟨r_1, h_2, h⟩ := q_b h
  refine h_callSi (st := []) [.int x1, .int 0, .int 7] (m_X9_within h_2) me_X9_within tw_1005 tw_1006 (hdd_of (by decide)) ⟨Nat.zero_le _, Nat.zero_le _⟩ rfl rfl (Nat.le_of_ble_eq_true rfl) dX9_fits_4 ?_
  refine go_if_eq (tgt := 18) dX9_fits_7 rfl (fun hc => ?_) (fun hc => ?_)
  · replace h := q_t h hc
    refine go_aload_n rfl 0 rfl dX9_fits_18 ?_
    refine go_iconst kz_iconst_m1 dX9_fits_19 ?_
    obtain ⟨r_3, h_4, h⟩ := q_b h
    refine h_callVi (st := []) [.int (-1)] (m_X9_no h_4) me_X9_no (g_recv cl7.1 rfl) tw_1008 tw_1010 tw_23 (hdd_of (by decide)) ⟨Nat.zero_le _, Nat.zero_le _⟩ rfl rfl (Nat.le_of_ble_eq_true rfl) dX9_fits_20 ?_
    exact h_iret h dX9_fits_23 rfl
  · replace h := q_f h hc
    refine go_aload_n rfl 0 rfl dX9_fits_10 ?_
    refine go_iload_n rfl 2 rfl dX9_fits_11 ?_
    obtain ⟨r_5, h_6, h⟩ := q_b h
    refine h_callVi (st := []) [.int x2] (m_X9_isOne h_6) me_X9_isOne (g_recv cl7.1 rfl) tw_1036 tw_1038 tw_26 (hdd_of (by decide)) ⟨Nat.zero_le _, Nat.zero_le _⟩ rfl rfl (Nat.le_of_ble_eq_true rfl) dX9_fits_12 ?_
    refine go_if_ne (tgt := 24) dX9_fits_15 rfl (fun hc => ?_) (fun hc => ?_)
    · replace h := q_f h hc
      refine go_aload_n rfl 0 rfl dX9_fits_24 ?_
      refine go_iload_n rfl 1 rfl dX9_fits_25 ?_
      obtain ⟨r_7, h_8, h⟩ := q_b h
      refine h_callVi (st := []) [.int x1] (m_X9_noRow h_8) me_X9_noRow (g_recv cl7.1 rfl) tw_1016 tw_1018 tw_24 (hdd_of (by decide)) ⟨Nat.zero_le _, Nat.zero_le _⟩ rfl rfl (Nat.le_of_ble_eq_true rfl) dX9_fits_26 ?_
      refine go_istore (l' := [(5, .int r_7.1), (0, .ref (ad 53)), (1, .int x1), (2, .int x2), (3, .int x3), (4, .int x4)]) dX9_fits_29 (by decide) rfl ?_
      refine go_iload 0 rfl dX9_fits_31 ?_
      refine go_if_ge (tgt := 43) dX9_fits_33 rfl (fun hc => ?_) (fun hc => ?_)
      · replace h := q_t h hc
        refine go_iload_n rfl 4 rfl dX9_fits_43 ?_
        refine go_if_ge (tgt := 54) dX9_fits_44 rfl (fun hc => ?_) (fun hc => ?_)
        · replace h := q_t h hc
          refine go_iload_n rfl 4 rfl dX9_fits_54 ?_
          refine go_aload_n rfl 1 rfl dX9_fits_55 ?_
          refine h_getr 11 cl7 rfl (by decide) tw_923 63 rfl dX9_fits_56 ?_
          refine go_iload_n rfl 2 rfl dX9_fits_59 ?_
          obtain ⟨hg_9, h⟩ := q_g h
          refine h_iald 8 rfl hg_9 dX9_fits_60 ?_
          refine go_icmp_gt (tgt := 74) dX9_fits_61 rfl (fun hc => ?_) (fun hc => ?_)
          · replace h := q_t h hc
            refine go_aload_n rfl 1 rfl dX9_fits_74 ?_
            refine go_bipush kz_bipush_m5 dX9_fits_75 ?_
            obtain ⟨r_10, h_11, h⟩ := q_b h
            refine h_callVi (st := []) [.int (-5)] (m_X9_no h_11) me_X9_no (g_recv cl7.1 rfl) tw_1008 tw_1010 tw_23 (hdd_of (by decide)) ⟨Nat.zero_le _, Nat.zero_le _⟩ rfl rfl (Nat.le_of_ble_eq_true rfl) dX9_fits_77 ?_
            exact h_iret h dX9_fits_80 rfl
          · replace h := q_f h hc
            refine go_iload 5 rfl dX9_fits_64 ?_
            refine go_iconst kz_iconst_0 dX9_fits_66 ?_
            refine go_iconst kz_iconst_1 dX9_fits_67 ?_
            obtain ⟨r_12, h_13, h⟩ := q_b h
            refine h_callSi (st := []) [.int x4, .int 0, .int 1] (m_X9_within h_13) me_X9_within tw_1005 tw_1006 (hdd_of (by decide)) ⟨Nat.zero_le _, Nat.zero_le _⟩ rfl rfl (Nat.le_of_ble_eq_true rfl) dX9_fits_68 ?_
            refine go_if_ne (tgt := 81) dX9_fits_71 rfl (fun hc => ?_) (fun hc => ?_)
            · replace h := q_f h hc
              refine go_iload_n rfl 4 rfl dX9_fits_81 ?_
              refine go_bipush kz_bipush_30 dX9_fits_82 ?_
              refine go_icmp_le (tgt := 94) dX9_fits_84 rfl (fun hc => ?_) (fun hc => ?_)
              · replace h := q_t h hc
                refine go_iload 5 rfl dX9_fits_94 ?_
                refine go_if_ne (tgt := 108) dX9_fits_96 rfl (fun hc => ?_) (fun hc => ?_)
                · replace h := q_f h hc
                  refine go_aload_n rfl 1 rfl dX9_fits_108 ?_
                  refine h_getr 1 cl7 rfl (by decide) tw_913 54 rfl dX9_fits_109 ?_
                  refine go_iload_n rfl 3 rfl dX9_fits_112 ?_
                  obtain ⟨hg_14, h⟩ := q_g h
                  refine h_iald 7 rfl hg_14 dX9_fits_113 ?_
                  refine go_istore (l' := [(6, .int (r_12.2.1 54 x2.toNatClampNeg)), (5, .int r_7.1), (0, .ref (ad 53)), (1, .int x1), (2, .int x2), (3, .int x3), (4, .int x4)]) dX9_fits_114 (by decide) rfl ?_
                  refine go_iconst kz_iconst_0 dX9_fits_116 ?_
                  refine go_istore (l' := [(7, .int 0), (6, .int (r_12.2.1 54 x2.toNatClampNeg)), (5, .int r_7.1), (0, .ref (ad 53)), (1, .int x1), (2, .int x2), (3, .int x3), (4, .int x4)]) dX9_fits_117 (by decide) rfl ?_
                  refine go_iconst kz_iconst_0 dX9_fits_119 ?_
                  refine go_istore (l' := [(8, .int 0), (7, .int 0), (6, .int (r_12.2.1 54 x2.toNatClampNeg)), (5, .int r_7.1), (0, .ref (ad 53)), (1, .int x1), (2, .int x2), (3, .int x3), (4, .int x4)]) dX9_fits_120 (by decide) rfl ?_
                  refine go_sub (l' := [(0, .ref (ad 53)), (1, .int x1), (2, .int x2), (3, .int x3), (4, .int x4), (6, .int (r_12.2.1 54 x2.toNatClampNeg)), (7, .int 0), (8, .int 0)]) [4, 5, 6, 7, 8, 2, 1, 0] rfl ?_
                  refine m_X9_fits_L122  FU _ _ _ _ h
                · replace h := q_t h hc
                  refine go_aload_n rfl 1 rfl dX9_fits_99 ?_
                  refine h_getr 3 cl7 rfl (by decide) tw_915 56 rfl dX9_fits_100 ?_
                  refine go_iload_n rfl 3 rfl dX9_fits_103 ?_
                  obtain ⟨hg_47, h⟩ := q_g h
                  refine h_iald 7 rfl hg_47 dX9_fits_104 ?_
                  refine go_goto (tgt := 114) dX9_fits_105 rfl ?_
                  refine go_istore (l' := [(6, .int (r_12.2.1 56 x2.toNatClampNeg)), (5, .int r_7.1), (0, .ref (ad 53)), (1, .int x1), (2, .int x2), (3, .int x3), (4, .int x4)]) dX9_fits_114 (by decide) rfl ?_
                  refine go_iconst kz_iconst_0 dX9_fits_116 ?_
                  refine go_istore (l' := [(7, .int 0), (6, .int (r_12.2.1 56 x2.toNatClampNeg)), (5, .int r_7.1), (0, .ref (ad 53)), (1, .int x1), (2, .int x2), (3, .int x3), (4, .int x4)]) dX9_fits_117 (by decide) rfl ?_
                  refine go_iconst kz_iconst_0 dX9_fits_119 ?_
                  refine go_istore (l' := [(8, .int 0), (7, .int 0), (6, .int (r_12.2.1 56 x2.toNatClampNeg)), (5, .int r_7.1), (0, .ref (ad 53)), (1, .int x1), (2, .int x2), (3, .int x3), (4, .int x4)]) dX9_fits_120 (by decide) rfl ?_
                  refine go_sub (l' := [(0, .ref (ad 53)), (1, .int x1), (2, .int x2), (3, .int x3), (4, .int x4), (6, .int (r_12.2.1 56 x2.toNatClampNeg)), (7, .int 0), (8, .int 0)]) [4, 5, 6, 7, 8, 2, 1, 0] rfl ?_
                  refine m_X9_fits_L122  FU _ _ _ _ h
              · replace h := q_f h hc
                refine go_aload_n rfl 1 rfl dX9_fits_87 ?_
                refine go_bipush kz_bipush_m6 dX9_fits_88 ?_
                obtain ⟨r_48, h_49, h⟩ := q_b h
                refine h_callVi (st := []) [.int (-6)] (m_X9_no h_49) me_X9_no (g_recv cl7.1 rfl) tw_1008 tw_1010 tw_23 (hdd_of (by decide)) ⟨Nat.zero_le _, Nat.zero_le _⟩ rfl rfl (Nat.le_of_ble_eq_true rfl) dX9_fits_90 ?_
                exact h_iret h dX9_fits_93 rfl
            · replace h := q_t h hc
              refine go_aload_n rfl 1 rfl dX9_fits_74 ?_
              refine go_bipush kz_bipush_m5 dX9_fits_75 ?_
              obtain ⟨r_50, h_51, h⟩ := q_b h
              refine h_callVi (st := []) [.int (-5)] (m_X9_no h_51) me_X9_no (g_recv cl7.1 rfl) tw_1008 tw_1010 tw_23 (hdd_of (by decide)) ⟨Nat.zero_le _, Nat.zero_le _⟩ rfl rfl (Nat.le_of_ble_eq_true rfl) dX9_fits_77 ?_
              exact h_iret h dX9_fits_80 rfl
        · replace h := q_f h hc
          refine go_aload_n rfl 1 rfl dX9_fits_47 ?_
          refine go_bipush kz_bipush_m4 dX9_fits_48 ?_
          obtain ⟨r_52, h_53, h⟩ := q_b h
          refine h_callVi (st := []) [.int (-4)] (m_X9_no h_53) me_X9_no (g_recv cl7.1 rfl) tw_1008 tw_1010 tw_23 (hdd_of (by decide)) ⟨Nat.zero_le _, Nat.zero_le _⟩ rfl rfl (Nat.le_of_ble_eq_true rfl) dX9_fits_50 ?_
          exact h_iret h dX9_fits_53 rfl
      · replace h := q_f h hc
        refine go_aload_n rfl 1 rfl dX9_fits_36 ?_
        refine go_iload 0 rfl dX9_fits_37 ?_
        obtain ⟨r_54, h_55, h⟩ := q_b h
        refine h_callVi (st := []) [.int r_7.1] (m_X9_no h_55) me_X9_no (g_recv cl7.1 rfl) tw_1008 tw_1010 tw_23 (hdd_of (by decide)) ⟨Nat.zero_le _, Nat.zero_le _⟩ rfl rfl (Nat.le_of_ble_eq_true rfl) dX9_fits_39 ?_
        exact h_iret h dX9_fits_42 rfl
    · replace h := q_t h hc
      refine go_aload_n rfl 0 rfl dX9_fits_18 ?_
      refine go_iconst kz_iconst_m1 dX9_fits_19 ?_
      obtain ⟨r_56, h_57, h⟩ := q_b h
      refine h_callVi (st := []) [.int (-1)] (m_X9_no h_57) me_X9_no (g_recv cl7.1 rfl) tw_1008 tw_1010 tw_23 (hdd_of (by decide)) ⟨Nat.zero_le _, Nat.zero_le _⟩ rfl rfl (Nat.le_of_ble_eq_true rfl) dX9_fits_20 ?_
      exact h_iret h dX9_fits_23 rfl
noncomputable def f_X9_fleeing_L4  (k32 : Int32 → gN → Option (Int32 × gN)) : Nat → Int32 → Int32 → gN → Option (Int32 × gN)
  | 0, _, _, _ => none
  | n + 1, y1, y2, ν =>
    if (ν.1 53 0) ≤ y2 then
      k32 y1 ν
    else
      (f_X9_flees y2 ν).bind (fun r_1 =>
        if r_1.1 = 0 then
          f_X9_fleeing_L4 k32 n y1 (y2 + 1) r_1.2
        else
          f_X9_fleeing_L4 k32 n (y1 ||| (j_shl 1 y2)) (y2 + 1) r_1.2)
noncomputable def f_X9_fleeing  (ν : gN) : Option (Int32 × gN) :=
  f_X9_fleeing_L4  (fun z1_3 ν_4 =>
    some (z1_3, ν_4)) FU 0 0 ν
theorem me_X9_fleeing : g_me yX9_fleeing cX9_fleeing 3 ((Option.some .int)) 0 := ⟨tw_1199, tw_79, ⟨by decide +kernel, by decide +kernel, by decide +kernel⟩, by decide⟩
set_option maxRecDepth 20000 in
set_option maxHeartbeats 2000000 in
theorem m_X9_fleeing_L4 {X : gX} {ad : Nat → Nat}  {k32 : Int32 → gN → Option (Int32 × gN)}  : ∀ (n : Nat) (y1 : Int32) (y2 : Int32) (ν : gN) (r : Int32 × gN), f_X9_fleeing_L4 k32 n y1 y2 ν = some r → (∀ (z1 : Int32) (ν1 : gN), k32 z1 ν1 = some r → h_go X ad RX9 "fleeing" cX9_fleeing 3 ((Option.some .int)) 2 (some (.int r.1), r.2) 32 [(1, .int z1)] [] ν1) → h_go X ad RX9 "fleeing" cX9_fleeing 3 ((Option.some .int)) 2 (some (.int r.1), r.2) 4 [(0, .ref (ad 53)), (1, .int y1), (2, .int y2)] [] ν := by
  intro n
  induction n with
  | zero => intro y1 y2 ν r h hk32; rw [f_X9_fleeing_L4] at h; exact q_n h
  | succ n ih =>
    intro y1 y2 ν r h hk32
    rw [f_X9_fleeing_L4] at h
    refine go_iload_n rfl 2 rfl dX9_fleeing_4 ?_
    refine go_aload_n rfl 0 rfl dX9_fleeing_5 ?_
    refine h_geti 0 cl7 rfl (by decide) tw_912 rfl dX9_fleeing_6 ?_
    refine go_icmp_ge (tgt := 32) dX9_fleeing_9 rfl (fun hc => ?_) (fun hc => ?_)
    · replace h := q_t h hc
      refine go_sub (l' := [(1, .int y1)]) [1] rfl ?_
      exact hk32 _ _ h
    · replace h := q_f h hc
      refine go_aload_n rfl 0 rfl dX9_fleeing_12 ?_
      refine go_iload_n rfl 2 rfl dX9_fleeing_13 ?_
      obtain ⟨r_1, h_2, h⟩ := q_b h
      refine h_callVi (st := []) [.int y2] (m_X9_flees h_2) me_X9_flees (g_recv cl7.1 rfl) tw_1101 tw_1103 tw_33 (hdd_of (by decide)) ⟨Nat.zero_le _, Nat.zero_le _⟩ rfl rfl (Nat.le_of_ble_eq_true rfl) dX9_fleeing_14 ?_
      refine go_if_eq (tgt := 26) dX9_fleeing_17 rfl (fun hc => ?_) (fun hc => ?_)
      · replace h := q_t h hc
        refine h_iinc (l' := [(2, .int (y2 + 1)), (0, .ref (ad 53)), (1, .int y1)]) dX9_fleeing_26 2 rfl kz_iconst_1 (by decide) rfl ?_
        refine go_goto (tgt := 4) dX9_fleeing_29 rfl ?_
        refine go_sub (l' := [(0, .ref (ad 53)), (1, .int y1), (2, .int (y2 + 1))]) [1, 2, 0] rfl ?_
        exact ih _ _ _ _ h hk32
      · replace h := q_f h hc
        refine go_iload_n rfl 1 rfl dX9_fleeing_20 ?_
        refine go_iconst kz_iconst_1 dX9_fleeing_21 ?_
        refine go_iload_n rfl 2 rfl dX9_fleeing_22 ?_
        refine h_ishl dX9_fleeing_23 ?_
        refine go_ior dX9_fleeing_24 ?_
        refine go_istore_n (l' := [(1, .int (y1 ||| (j_shl 1 y2))), (0, .ref (ad 53)), (2, .int y2)]) dX9_fleeing_25 rfl (by decide) rfl ?_
        refine h_iinc (l' := [(2, .int (y2 + 1)), (1, .int (y1 ||| (j_shl 1 y2))), (0, .ref (ad 53))]) dX9_fleeing_26 2 rfl kz_iconst_1 (by decide) rfl ?_
        refine go_goto (tgt := 4) dX9_fleeing_29 rfl ?_
        refine go_sub (l' := [(0, .ref (ad 53)), (1, .int (y1 ||| (j_shl 1 y2))), (2, .int (y2 + 1))]) [2, 1, 0] rfl ?_
        exact ih _ _ _ _ h hk32
set_option maxRecDepth 20000 in
set_option maxHeartbeats 2000000 in
theorem m_X9_fleeing {X : gX} {ad : Nat → Nat}  {ν : gN} {r : Int32 × gN}  (h : f_X9_fleeing  ν = some r) : h_ct X ad yX9_fleeing cX9_fleeing 3 ((Option.some .int)) 2 [.ref (ad 53)] ν (some (.int r.1), r.2) := by
  rw [f_X9_fleeing] at h
  refine h_ct_of (l := [(0, .ref (ad 53))]) (by decide) (Nat.le_of_ble_eq_true rfl) rfl ?_
  refine go_iconst kz_iconst_0 dX9_fleeing_0 ?_
  refine go_istore_n (l' := [(1, .int 0), (0, .ref (ad 53))]) dX9_fleeing_1 rfl (by decide) rfl ?_
  refine go_iconst kz_iconst_0 dX9_fleeing_2 ?_
  refine go_istore_n (l' := [(2, .int 0), (1, .int 0), (0, .ref (ad 53))]) dX9_fleeing_3 rfl (by decide) rfl ?_
  refine go_sub (l' := [(0, .ref (ad 53)), (1, .int 0), (2, .int 0)]) [2, 1, 0] rfl ?_
  refine m_X9_fleeing_L4  FU _ _ _ _ h (fun z1_3 ν_4 h => ?_)
  refine go_iload_n rfl 0 rfl dX9_fleeing_32 ?_
  exact h_iret h dX9_fleeing_33 rfl
noncomputable def f_X9_hide_L47 (y2 : Int32) (k104 : Int32 → gN → Option (Int32 × gN)) : Nat → Int32 → Int32 → gN → Option (Int32 × gN)
  | 0, _, _, _ => none
  | n + 1, y3, y4, ν =>
    if 49 ≤ y4 then
      k104 y3 ν
    else
      if inb y4 49 = true then
        if y2 < (ν.1 71 y4.toNatClampNeg) then
          f_X9_hide_L47 y2 k104 n y3 (y4 + 1) ν
        else
          (f_X9_farOf y4 ν).bind (fun r_9 =>
            if 99 ≤ r_9.1 then
              f_X9_hide_L47 y2 k104 n y3 (y4 + 1) r_9.2
            else
              if y3 = (-1) then
                f_X9_hide_L47 y2 k104 n y4 (y4 + 1) r_9.2
              else
                (f_X9_farOf y4 r_9.2).bind (fun r_11 =>
                  (f_X9_farOf y3 r_11.2).bind (fun r_13 =>
                    if r_11.1 ≤ r_13.1 then
                      f_X9_hide_L47 y2 k104 n y3 (y4 + 1) r_13.2
                    else
                      f_X9_hide_L47 y2 k104 n y4 (y4 + 1) r_13.2)))
      else none
noncomputable def f_X9_hide (x1 : Int32) (x2 : Int32) (ν : gN) : Option (Int32 × gN) :=
  (f_X9_isOne x1 ν).bind (fun r_1 =>
    if r_1.1 = 0 then
      (f_X9_no10 (-1) r_1.2).bind (fun r_19 =>
        some (r_19.1, r_19.2))
    else
      (f_X9_isTime x2 r_1.2).bind (fun r_3 =>
        if r_3.1 = 0 then
          (f_X9_no10 (-6) r_3.2).bind (fun r_17 =>
            some (r_17.1, r_17.2))
        else
          if inb x1 7 = true then
            (f_X9_spreads (r_3.2.1 58 x1.toNatClampNeg) 71 r_3.2).bind (fun r_6 =>
              f_X9_hide_L47 x2 (fun z3_15 ν_16 =>
                some (z3_15, ν_16)) FU (-1) 0 r_6)
          else none))
theorem me_X9_hide : g_me yX9_hide cX9_hide 5 ((Option.some .int)) 2 := ⟨tw_1234, tw_79, ⟨by decide +kernel, by decide +kernel, by decide +kernel⟩, by decide⟩
set_option maxRecDepth 20000 in
set_option maxHeartbeats 2000000 in
theorem m_X9_hide_L47 {X : gX} {ad : Nat → Nat} {y2 : Int32} {k104 : Int32 → gN → Option (Int32 × gN)}  : ∀ (n : Nat) (y3 : Int32) (y4 : Int32) (ν : gN) (r : Int32 × gN), f_X9_hide_L47 y2 k104 n y3 y4 ν = some r → (∀ (z3 : Int32) (ν1 : gN), k104 z3 ν1 = some r → h_go X ad RX9 "hide" cX9_hide 5 ((Option.some .int)) 7 (some (.int r.1), r.2) 104 [(3, .int z3)] [] ν1) → h_go X ad RX9 "hide" cX9_hide 5 ((Option.some .int)) 7 (some (.int r.1), r.2) 47 [(0, .ref (ad 53)), (2, .int y2), (3, .int y3), (4, .int y4)] [] ν := by
  intro n
  induction n with
  | zero => intro y3 y4 ν r h hk104; rw [f_X9_hide_L47] at h; exact q_n h
  | succ n ih =>
    intro y3 y4 ν r h hk104
    rw [f_X9_hide_L47] at h
    refine go_iload 3 rfl dX9_hide_47 ?_
    refine go_bipush kz_bipush_49 dX9_hide_49 ?_
    refine go_icmp_ge (tgt := 104) dX9_hide_51 rfl (fun hc => ?_) (fun hc => ?_)
    · replace h := q_t h hc
      refine go_sub (l' := [(3, .int y3)]) [2] rfl ?_
      exact hk104 _ _ h
    · replace h := q_f h hc
      refine go_aload_n rfl 0 rfl dX9_hide_54 ?_
      refine h_getr 26 cl7 rfl (by decide) tw_938 71 rfl dX9_hide_55 ?_
      refine go_iload 3 rfl dX9_hide_58 ?_
      obtain ⟨hg_8, h⟩ := q_g h
      refine h_iald 49 rfl hg_8 dX9_hide_60 ?_
      refine go_iload_n rfl 1 rfl dX9_hide_61 ?_
      refine go_icmp_gt (tgt := 98) dX9_hide_62 rfl (fun hc => ?_) (fun hc => ?_)
      · replace h := q_t h hc
        refine h_iinc (l' := [(4, .int (y4 + 1)), (0, .ref (ad 53)), (2, .int y2), (3, .int y3)]) dX9_hide_98 3 rfl kz_iconst_1 (by decide) rfl ?_
        refine go_goto (tgt := 47) dX9_hide_101 rfl ?_
        refine go_sub (l' := [(0, .ref (ad 53)), (2, .int y2), (3, .int y3), (4, .int (y4 + 1))]) [1, 2, 3, 0] rfl ?_
        exact ih _ _ _ _ h hk104
      · replace h := q_f h hc
        refine go_aload_n rfl 0 rfl dX9_hide_65 ?_
        refine go_iload 3 rfl dX9_hide_66 ?_
        obtain ⟨r_9, h_10, h⟩ := q_b h
        refine h_callVi (st := []) [.int y4] (m_X9_farOf h_10) me_X9_farOf (g_recv cl7.1 rfl) tw_1168 tw_1170 tw_44 (hdd_of (by decide)) ⟨Nat.zero_le _, Nat.zero_le _⟩ rfl rfl (Nat.le_of_ble_eq_true rfl) dX9_hide_68 ?_
        refine go_bipush kz_bipush_99 dX9_hide_71 ?_
        refine go_icmp_ge (tgt := 98) dX9_hide_73 rfl (fun hc => ?_) (fun hc => ?_)
        · replace h := q_t h hc
          refine h_iinc (l' := [(4, .int (y4 + 1)), (0, .ref (ad 53)), (2, .int y2), (3, .int y3)]) dX9_hide_98 3 rfl kz_iconst_1 (by decide) rfl ?_
          refine go_goto (tgt := 47) dX9_hide_101 rfl ?_
          refine go_sub (l' := [(0, .ref (ad 53)), (2, .int y2), (3, .int y3), (4, .int (y4 + 1))]) [1, 2, 3, 0] rfl ?_
          exact ih _ _ _ _ h hk104
        · replace h := q_f h hc
          refine go_iload_n rfl 2 rfl dX9_hide_76 ?_
          refine go_iconst kz_iconst_m1 dX9_hide_77 ?_
          refine go_icmp_eq (tgt := 95) dX9_hide_78 rfl (fun hc => ?_) (fun hc => ?_)
          · replace h := q_t h hc
            refine go_iload 3 rfl dX9_hide_95 ?_
            refine go_istore_n (l' := [(3, .int y4), (0, .ref (ad 53)), (2, .int y2), (4, .int y4)]) dX9_hide_97 rfl (by decide) rfl ?_
            refine h_iinc (l' := [(4, .int (y4 + 1)), (3, .int y4), (0, .ref (ad 53)), (2, .int y2)]) dX9_hide_98 3 rfl kz_iconst_1 (by decide) rfl ?_
            refine go_goto (tgt := 47) dX9_hide_101 rfl ?_
            refine go_sub (l' := [(0, .ref (ad 53)), (2, .int y2), (3, .int y4), (4, .int (y4 + 1))]) [2, 3, 1, 0] rfl ?_
            exact ih _ _ _ _ h hk104
          · replace h := q_f h hc
            refine go_aload_n rfl 0 rfl dX9_hide_81 ?_
            refine go_iload 3 rfl dX9_hide_82 ?_
            obtain ⟨r_11, h_12, h⟩ := q_b h
            refine h_callVi (st := []) [.int y4] (m_X9_farOf h_12) me_X9_farOf (g_recv cl7.1 rfl) tw_1168 tw_1170 tw_44 (hdd_of (by decide)) ⟨Nat.zero_le _, Nat.zero_le _⟩ rfl rfl (Nat.le_of_ble_eq_true rfl) dX9_hide_84 ?_
            refine go_aload_n rfl 0 rfl dX9_hide_87 ?_
            refine go_iload_n rfl 2 rfl dX9_hide_88 ?_
            obtain ⟨r_13, h_14, h⟩ := q_b h
            refine h_callVi (st := [.int r_11.1]) [.int y3] (m_X9_farOf h_14) me_X9_farOf (g_recv cl7.1 rfl) tw_1168 tw_1170 tw_44 (hdd_of (by decide)) ⟨Nat.zero_le _, Nat.zero_le _⟩ rfl rfl (Nat.le_of_ble_eq_true rfl) dX9_hide_89 ?_
            refine go_icmp_le (tgt := 98) dX9_hide_92 rfl (fun hc => ?_) (fun hc => ?_)
            · replace h := q_t h hc
              refine h_iinc (l' := [(4, .int (y4 + 1)), (0, .ref (ad 53)), (2, .int y2), (3, .int y3)]) dX9_hide_98 3 rfl kz_iconst_1 (by decide) rfl ?_
              refine go_goto (tgt := 47) dX9_hide_101 rfl ?_
              refine go_sub (l' := [(0, .ref (ad 53)), (2, .int y2), (3, .int y3), (4, .int (y4 + 1))]) [1, 2, 3, 0] rfl ?_
              exact ih _ _ _ _ h hk104
            · replace h := q_f h hc
              refine go_iload 3 rfl dX9_hide_95 ?_
              refine go_istore_n (l' := [(3, .int y4), (0, .ref (ad 53)), (2, .int y2), (4, .int y4)]) dX9_hide_97 rfl (by decide) rfl ?_
              refine h_iinc (l' := [(4, .int (y4 + 1)), (3, .int y4), (0, .ref (ad 53)), (2, .int y2)]) dX9_hide_98 3 rfl kz_iconst_1 (by decide) rfl ?_
              refine go_goto (tgt := 47) dX9_hide_101 rfl ?_
              refine go_sub (l' := [(0, .ref (ad 53)), (2, .int y2), (3, .int y4), (4, .int (y4 + 1))]) [2, 3, 1, 0] rfl ?_
              exact ih _ _ _ _ h hk104
set_option maxRecDepth 20000 in
set_option maxHeartbeats 2000000 in
theorem m_X9_hide {X : gX} {ad : Nat → Nat} {x1 : Int32} {x2 : Int32} {ν : gN} {r : Int32 × gN}  (h : f_X9_hide x1 x2 ν = some r) : h_ct X ad yX9_hide cX9_hide 5 ((Option.some .int)) 7 [.ref (ad 53), .int x1, .int x2] ν (some (.int r.1), r.2) := by
  rw [f_X9_hide] at h
  refine h_ct_of (l := [(0, .ref (ad 53)), (1, .int x1), (2, .int x2)]) (by decide) (Nat.le_of_ble_eq_true rfl) rfl ?_
  refine go_aload_n rfl 0 rfl dX9_hide_0 ?_
  refine go_iload_n rfl 1 rfl dX9_hide_1 ?_
  obtain ⟨r_1, h_2, h⟩ := q_b h
  refine h_callVi (st := []) [.int x1] (m_X9_isOne h_2) me_X9_isOne (g_recv cl7.1 rfl) tw_1036 tw_1038 tw_26 (hdd_of (by decide)) ⟨Nat.zero_le _, Nat.zero_le _⟩ rfl rfl (Nat.le_of_ble_eq_true rfl) dX9_hide_2 ?_
  refine go_if_ne (tgt := 14) dX9_hide_5 rfl (fun hc => ?_) (fun hc => ?_)
  · replace h := q_f h hc
    refine go_iload_n rfl 2 rfl dX9_hide_14 ?_
    obtain ⟨r_3, h_4, h⟩ := q_b h
    refine h_callSi (st := []) [.int x2] (m_X9_isTime h_4) me_X9_isTime tw_1204 tw_1205 (hdd_of (by decide)) ⟨Nat.zero_le _, Nat.zero_le _⟩ rfl rfl (Nat.le_of_ble_eq_true rfl) dX9_hide_15 ?_
    refine go_if_ne (tgt := 28) dX9_hide_18 rfl (fun hc => ?_) (fun hc => ?_)
    · replace h := q_f h hc
      refine go_aload_n rfl 0 rfl dX9_hide_28 ?_
      refine go_aload_n rfl 0 rfl dX9_hide_29 ?_
      refine h_getr 5 cl7 rfl (by decide) tw_917 58 rfl dX9_hide_30 ?_
      refine go_iload_n rfl 1 rfl dX9_hide_33 ?_
      obtain ⟨hg_5, h⟩ := q_g h
      refine h_iald 7 rfl hg_5 dX9_hide_34 ?_
      refine go_aload_n rfl 0 rfl dX9_hide_35 ?_
      refine h_getr 26 cl7 rfl (by decide) tw_938 71 rfl dX9_hide_36 ?_
      obtain ⟨r_6, h_7, h⟩ := q_b h
      refine h_callVv (st := []) [.int (r_3.2.1 58 x1.toNatClampNeg), .ref (ad 71)] (m_X9_spreads rfl h_7) me_X9_spreads (g_recv cl7.1 rfl) tw_1172 tw_1174 tw_45 (hdd_of (by decide)) ⟨Nat.zero_le _, Nat.zero_le _⟩ rfl rfl (Nat.le_of_ble_eq_true rfl) dX9_hide_39 ?_
      refine go_iconst kz_iconst_m1 dX9_hide_42 ?_
      refine go_istore_n (l' := [(3, .int (-1)), (0, .ref (ad 53)), (1, .int x1), (2, .int x2)]) dX9_hide_43 rfl (by decide) rfl ?_
      refine go_iconst kz_iconst_0 dX9_hide_44 ?_
      refine go_istore (l' := [(4, .int 0), (3, .int (-1)), (0, .ref (ad 53)), (1, .int x1), (2, .int x2)]) dX9_hide_45 (by decide) rfl ?_
      refine go_sub (l' := [(0, .ref (ad 53)), (2, .int x2), (3, .int (-1)), (4, .int 0)]) [2, 4, 1, 0] rfl ?_
      refine m_X9_hide_L47  FU _ _ _ _ h (fun z3_15 ν_16 h => ?_)
      refine go_iload_n rfl 0 rfl dX9_hide_104 ?_
      exact h_iret h dX9_hide_105 rfl
    · replace h := q_t h hc
      refine go_aload_n rfl 0 rfl dX9_hide_21 ?_
      refine go_bipush kz_bipush_m6 dX9_hide_22 ?_
      obtain ⟨r_17, h_18, h⟩ := q_b h
      refine h_callVi (st := []) [.int (-6)] (m_X9_no10 h_18) me_X9_no10 (g_recv cl7.1 rfl) tw_1235 tw_1237 tw_56 (hdd_of (by decide)) ⟨Nat.zero_le _, Nat.zero_le _⟩ rfl rfl (Nat.le_of_ble_eq_true rfl) dX9_hide_24 ?_
      exact h_iret h dX9_hide_27 rfl
  · replace h := q_t h hc
    refine go_aload_n rfl 0 rfl dX9_hide_8 ?_
    refine go_iconst kz_iconst_m1 dX9_hide_9 ?_
    obtain ⟨r_19, h_20, h⟩ := q_b h
    refine h_callVi (st := []) [.int (-1)] (m_X9_no10 h_20) me_X9_no10 (g_recv cl7.1 rfl) tw_1235 tw_1237 tw_56 (hdd_of (by decide)) ⟨Nat.zero_le _, Nat.zero_le _⟩ rfl rfl (Nat.le_of_ble_eq_true rfl) dX9_hide_10 ?_
    exact h_iret h dX9_hide_13 rfl
noncomputable def f_X9_holds (x1 : Int32) (ν : gN) : Option (Int32 × gN) :=
  (f_X9_within x1 0 7 ν).bind (fun r_1 =>
    if r_1.1 = 0 then
      some ((-1), r_1.2)
    else
      if inb x1 8 = true then
        some (r_1.2.1 62 x1.toNatClampNeg, r_1.2)
      else none)
theorem me_X9_holds : g_me yX9_holds cX9_holds 2 ((Option.some .int)) 1 := ⟨tw_1043, tw_79, ⟨by decide +kernel, by decide +kernel, by decide +kernel⟩, by decide⟩
set_option maxRecDepth 20000 in
set_option maxHeartbeats 2000000 in
theorem m_X9_holds {X : gX} {ad : Nat → Nat} {x1 : Int32} {ν : gN} {r : Int32 × gN}  (h : f_X9_holds x1 ν = some r) : h_ct X ad yX9_holds cX9_holds 2 ((Option.some .int)) 2 [.ref (ad 53), .int x1] ν (some (.int r.1), r.2) := by
  rw [f_X9_holds] at h
  refine h_ct_of (l := [(0, .ref (ad 53)), (1, .int x1)]) (by decide) (Nat.le_of_ble_eq_true rfl) rfl ?_
  refine go_iload_n rfl 1 rfl dX9_holds_0 ?_
  refine go_iconst kz_iconst_0 dX9_holds_1 ?_
  refine go_bipush kz_bipush_7 dX9_holds_2 ?_
  obtain ⟨r_1, h_2, h⟩ := q_b h
  refine h_callSi (st := []) [.int x1, .int 0, .int 7] (m_X9_within h_2) me_X9_within tw_1005 tw_1006 (hdd_of (by decide)) ⟨Nat.zero_le _, Nat.zero_le _⟩ rfl rfl (Nat.le_of_ble_eq_true rfl) dX9_holds_4 ?_
  refine go_if_eq (tgt := 19) dX9_holds_7 rfl (fun hc => ?_) (fun hc => ?_)
  · replace h := q_t h hc
    refine go_iconst kz_iconst_m1 dX9_holds_19 ?_
    exact h_iret h dX9_holds_20 rfl
  · replace h := q_f h hc
    refine go_aload_n rfl 0 rfl dX9_holds_10 ?_
    refine h_getr 10 cl7 rfl (by decide) tw_922 62 rfl dX9_holds_11 ?_
    refine go_iload_n rfl 1 rfl dX9_holds_14 ?_
    obtain ⟨hg_3, h⟩ := q_g h
    refine h_iald 8 rfl hg_3 dX9_holds_15 ?_
    refine go_goto (tgt := 20) dX9_holds_16 rfl ?_
    exact h_iret h dX9_holds_20 rfl
noncomputable def f_X9_image  (ν : gN) : Option (Int32 × gN) :=
  qL (nWI ν 53 21 1) (fun ν_1 =>
    (f_X9_keep 69 ν_1).bind (fun r_3 =>
      qL (nWI r_3 53 23 (r_3.1 53 9)) (fun ν_5 =>
        some (ν_5.1 53 0, ν_5))))
theorem me_X9_image : g_me yX9_image cX9_image 1 ((Option.some .int)) 0 := ⟨tw_1372, tw_79, ⟨by decide +kernel, by decide +kernel, by decide +kernel⟩, by decide⟩
set_option maxRecDepth 20000 in
set_option maxHeartbeats 2000000 in
theorem m_X9_image {X : gX} {ad : Nat → Nat}  {ν : gN} {r : Int32 × gN}  (h : f_X9_image  ν = some r) : h_ct X ad yX9_image cX9_image 1 ((Option.some .int)) 2 [.ref (ad 53)] ν (some (.int r.1), r.2) := by
  rw [f_X9_image] at h
  refine h_ct_of (l := [(0, .ref (ad 53))]) (by decide) (Nat.le_of_ble_eq_true rfl) rfl ?_
  refine go_aload_n rfl 0 rfl dX9_image_0 ?_
  refine go_iconst kz_iconst_1 dX9_image_1 ?_
  obtain ⟨ν_1, e_2, h⟩ := q_l h
  refine h_putz 21 cl7 rfl (by decide) tw_933 rfl rfl rfl e_2 dX9_image_2 ?_
  refine go_aload_n rfl 0 rfl dX9_image_5 ?_
  refine go_aload_n rfl 0 rfl dX9_image_6 ?_
  refine h_getr 22 cl7 rfl (by decide) tw_934 69 rfl dX9_image_7 ?_
  obtain ⟨r_3, h_4, h⟩ := q_b h
  refine h_callVv (st := []) [.ref (ad 69)] (m_X9_keep rfl h_4) me_X9_keep (g_recv cl7.1 rfl) tw_1117 tw_1119 tw_35 (hdd_of (by decide)) ⟨Nat.zero_le _, Nat.zero_le _⟩ rfl rfl (Nat.le_of_ble_eq_true rfl) dX9_image_10 ?_
  refine go_aload_n rfl 0 rfl dX9_image_13 ?_
  refine go_aload_n rfl 0 rfl dX9_image_14 ?_
  refine h_geti 9 cl7 rfl (by decide) tw_921 rfl dX9_image_15 ?_
  obtain ⟨ν_5, e_6, h⟩ := q_l h
  refine h_puti 23 cl7 rfl (by decide) tw_935 rfl rfl e_6 dX9_image_18 ?_
  refine go_aload_n rfl 0 rfl dX9_image_21 ?_
  refine h_geti 0 cl7 rfl (by decide) tw_912 rfl dX9_image_22 ?_
  exact h_iret h dX9_image_25 rfl
noncomputable def f_X9_sign  (ν : gN) : Option (Int32 × gN) :=
  if inb (ν.1 53 13) 8 = true then
    if (ν.1 63 (ν.1 53 13).toNatClampNeg) ≤ (ν.1 53 14) then
      some ((-1), ν)
    else
      if inb ((160 * (ν.1 53 13)) + (ν.1 53 14)) 1280 = true then
        some ((ν.2 64 ((160 * (ν.1 53 13)) + (ν.1 53 14)).toNatClampNeg).toInt32, ν)
      else none
  else none
theorem me_X9_sign : g_me yX9_sign cX9_sign 1 ((Option.some .int)) 0 := ⟨tw_1128, tw_79, ⟨by decide +kernel, by decide +kernel, by decide +kernel⟩, by decide⟩
set_option maxRecDepth 20000 in
set_option maxHeartbeats 2000000 in
theorem m_X9_sign {X : gX} {ad : Nat → Nat}  {ν : gN} {r : Int32 × gN}  (h : f_X9_sign  ν = some r) : h_ct X ad yX9_sign cX9_sign 1 ((Option.some .int)) 1 [.ref (ad 53)] ν (some (.int r.1), r.2) := by
  rw [f_X9_sign] at h
  refine h_ct_of (l := [(0, .ref (ad 53))]) (by decide) (Nat.le_of_ble_eq_true rfl) rfl ?_
  refine go_aload_n rfl 0 rfl dX9_sign_0 ?_
  refine h_geti 14 cl7 rfl (by decide) tw_926 rfl dX9_sign_1 ?_
  refine go_aload_n rfl 0 rfl dX9_sign_4 ?_
  refine h_getr 11 cl7 rfl (by decide) tw_923 63 rfl dX9_sign_5 ?_
  refine go_aload_n rfl 0 rfl dX9_sign_8 ?_
  refine h_geti 13 cl7 rfl (by decide) tw_925 rfl dX9_sign_9 ?_
  obtain ⟨hg_1, h⟩ := q_g h
  refine h_iald 8 rfl hg_1 dX9_sign_12 ?_
  refine go_icmp_ge (tgt := 38) dX9_sign_13 rfl (fun hc => ?_) (fun hc => ?_)
  · replace h := q_t h hc
    refine go_iconst kz_iconst_m1 dX9_sign_38 ?_
    exact h_iret h dX9_sign_39 rfl
  · replace h := q_f h hc
    refine go_aload_n rfl 0 rfl dX9_sign_16 ?_
    refine h_getr 12 cl7 rfl (by decide) tw_924 64 rfl dX9_sign_17 ?_
    refine go_sipush kz_sipush_160 dX9_sign_20 ?_
    refine go_aload_n rfl 0 rfl dX9_sign_23 ?_
    refine h_geti 13 cl7 rfl (by decide) tw_925 rfl dX9_sign_24 ?_
    refine go_imul dX9_sign_27 ?_
    refine go_aload_n rfl 0 rfl dX9_sign_28 ?_
    refine h_geti 14 cl7 rfl (by decide) tw_926 rfl dX9_sign_29 ?_
    refine go_iadd dX9_sign_32 ?_
    obtain ⟨hg_2, h⟩ := q_g h
    refine h_lald 1280 rfl hg_2 dX9_sign_33 ?_
    refine go_l2i dX9_sign_34 ?_
    refine go_goto (tgt := 39) dX9_sign_35 rfl ?_
    exact h_iret h dX9_sign_39 rfl
noncomputable def f_X9_is (x1 : Int32) (ν : gN) : Option (Int32 × gN) :=
  (f_X9_sign  ν).bind (fun r_1 =>
    if r_1.1 = x1 then
      qL (nWI r_1.2 53 14 ((r_1.2.1 53 14) + 1)) (fun ν_3 =>
        some (1, ν_3))
    else
      some (0, r_1.2))
theorem me_X9_is : g_me yX9_is cX9_is 2 ((Option.some .boolean)) 1 := ⟨tw_1139, tw_79, ⟨by decide +kernel, by decide +kernel, by decide +kernel⟩, by decide⟩
set_option maxRecDepth 20000 in
set_option maxHeartbeats 2000000 in
theorem m_X9_is {X : gX} {ad : Nat → Nat} {x1 : Int32} {ν : gN} {r : Int32 × gN}  (h : f_X9_is x1 ν = some r) : h_ct X ad yX9_is cX9_is 2 ((Option.some .boolean)) 2 [.ref (ad 53), .int x1] ν (some (.int r.1), r.2) := by
  rw [f_X9_is] at h
  refine h_ct_of (l := [(0, .ref (ad 53)), (1, .int x1)]) (by decide) (Nat.le_of_ble_eq_true rfl) rfl ?_
  refine go_aload_n rfl 0 rfl dX9_is_0 ?_
  obtain ⟨r_1, h_2, h⟩ := q_b h
  refine h_callVi (st := []) [] (m_X9_sign h_2) me_X9_sign (g_recv cl7.1 rfl) tw_1125 tw_1127 tw_37 (hdd_of (by decide)) ⟨Nat.zero_le _, Nat.zero_le _⟩ rfl rfl (Nat.le_of_ble_eq_true rfl) dX9_is_1 ?_
  refine go_iload_n rfl 1 rfl dX9_is_4 ?_
  refine go_icmp_eq (tgt := 10) dX9_is_5 rfl (fun hc => ?_) (fun hc => ?_)
  · replace h := q_t h hc
    refine go_aload_n rfl 0 rfl dX9_is_10 ?_
    refine go_dup rfl dX9_is_11 ?_
    refine h_geti 14 cl7 rfl (by decide) tw_926 rfl dX9_is_12 ?_
    refine go_iconst kz_iconst_1 dX9_is_15 ?_
    refine go_iadd dX9_is_16 ?_
    obtain ⟨ν_3, e_4, h⟩ := q_l h
    refine h_puti 14 cl7 rfl (by decide) tw_926 rfl rfl e_4 dX9_is_17 ?_
    refine go_iconst kz_iconst_1 dX9_is_20 ?_
    exact h_zret rfl h dX9_is_21 rfl
  · replace h := q_f h hc
    refine go_iconst kz_iconst_0 dX9_is_8 ?_
    exact h_zret rfl h dX9_is_9 rfl
noncomputable def f_X9_isUnder_L2 (y1 : Int32) (k19 : Int32 → gN → Option (Int32 × gN)) : Nat → Int32 → gN → Option (Int32 × gN)
  | 0, _, _ => none
  | n + 1, y2, ν =>
    if y2 = y1 then
      k19 y2 ν
    else
      if y2 ≤ 0 then
        k19 y2 ν
      else
        (f_X9_above y2 ν).bind (fun r_1 =>
          f_X9_isUnder_L2 y1 k19 n r_1.1 r_1.2)
noncomputable def f_X9_isUnder (x0 : Int32) (x1 : Int32) (ν : gN) : Option (Int32 × gN) :=
  f_X9_isUnder_L2 x1 (fun z2_3 ν_4 =>
    if z2_3 = x1 then
      some (1, ν_4)
    else
      some (0, ν_4)) FU x0 ν
theorem me_X9_isUnder : g_me yX9_isUnder cX9_isUnder 3 ((Option.some .boolean)) 2 := ⟨tw_1050, tw_79, ⟨by decide +kernel, by decide +kernel, by decide +kernel⟩, by decide⟩
set_option maxRecDepth 20000 in
set_option maxHeartbeats 2000000 in
theorem m_X9_isUnder_L2 {X : gX} {ad : Nat → Nat} {y1 : Int32} {k19 : Int32 → gN → Option (Int32 × gN)}  : ∀ (n : Nat) (y2 : Int32) (ν : gN) (r : Int32 × gN), f_X9_isUnder_L2 y1 k19 n y2 ν = some r → (∀ (z2 : Int32) (ν1 : gN), k19 z2 ν1 = some r → h_go X ad RX9 "isUnder" cX9_isUnder 3 ((Option.some .boolean)) 2 (some (.int r.1), r.2) 19 [(1, .int y1), (2, .int z2)] [] ν1) → h_go X ad RX9 "isUnder" cX9_isUnder 3 ((Option.some .boolean)) 2 (some (.int r.1), r.2) 2 [(1, .int y1), (2, .int y2)] [] ν := by
  intro n
  induction n with
  | zero => intro y2 ν r h hk19; rw [f_X9_isUnder_L2] at h; exact q_n h
  | succ n ih =>
    intro y2 ν r h hk19
    rw [f_X9_isUnder_L2] at h
    refine go_iload_n rfl 1 rfl dX9_isUnder_2 ?_
    refine go_iload_n rfl 0 rfl dX9_isUnder_3 ?_
    refine go_icmp_eq (tgt := 19) dX9_isUnder_4 rfl (fun hc => ?_) (fun hc => ?_)
    · replace h := q_t h hc
      exact hk19 _ _ h
    · replace h := q_f h hc
      refine go_iload_n rfl 1 rfl dX9_isUnder_7 ?_
      refine go_if_le (tgt := 19) dX9_isUnder_8 rfl (fun hc => ?_) (fun hc => ?_)
      · replace h := q_t h hc
        exact hk19 _ _ h
      · replace h := q_f h hc
        refine go_iload_n rfl 1 rfl dX9_isUnder_11 ?_
        obtain ⟨r_1, h_2, h⟩ := q_b h
        refine h_callSi (st := []) [.int y2] (m_X9_above h_2) me_X9_above tw_1051 tw_1052 (hdd_of (by decide)) ⟨Nat.zero_le _, Nat.zero_le _⟩ rfl rfl (Nat.le_of_ble_eq_true rfl) dX9_isUnder_12 ?_
        refine go_istore_n (l' := [(2, .int r_1.1), (1, .int y1)]) dX9_isUnder_15 rfl (by decide) rfl ?_
        refine go_goto (tgt := 2) dX9_isUnder_16 rfl ?_
        refine go_sub (l' := [(1, .int y1), (2, .int r_1.1)]) [1, 0] rfl ?_
        exact ih _ _ _ h hk19
set_option maxRecDepth 20000 in
set_option maxHeartbeats 2000000 in
theorem m_X9_isUnder {X : gX} {ad : Nat → Nat} {x0 : Int32} {x1 : Int32} {ν : gN} {r : Int32 × gN}  (h : f_X9_isUnder x0 x1 ν = some r) : h_ct X ad yX9_isUnder cX9_isUnder 3 ((Option.some .boolean)) 2 [.int x0, .int x1] ν (some (.int r.1), r.2) := by
  rw [f_X9_isUnder] at h
  refine h_ct_of (l := [(0, .int x0), (1, .int x1)]) (by decide) (Nat.le_of_ble_eq_true rfl) rfl ?_
  refine go_iload_n rfl 0 rfl dX9_isUnder_0 ?_
  refine go_istore_n (l' := [(2, .int x0), (0, .int x0), (1, .int x1)]) dX9_isUnder_1 rfl (by decide) rfl ?_
  refine go_sub (l' := [(1, .int x1), (2, .int x0)]) [2, 0] rfl ?_
  refine m_X9_isUnder_L2  FU _ _ _ h (fun z2_3 ν_4 h => ?_)
  refine go_iload_n rfl 1 rfl dX9_isUnder_19 ?_
  refine go_iload_n rfl 0 rfl dX9_isUnder_20 ?_
  refine go_icmp_ne (tgt := 28) dX9_isUnder_21 rfl (fun hc => ?_) (fun hc => ?_)
  · replace h := q_f h hc
    refine go_iconst kz_iconst_0 dX9_isUnder_28 ?_
    exact h_zret rfl h dX9_isUnder_29 rfl
  · replace h := q_t h hc
    refine go_iconst kz_iconst_1 dX9_isUnder_24 ?_
    refine go_goto (tgt := 29) dX9_isUnder_25 rfl ?_
    exact h_zret rfl h dX9_isUnder_29 rfl
noncomputable def f_X9_may (x1 : Int32) (x2 : Int32) (ν : gN) : Option (Int32 × gN) :=
  if x1 = 0 then
    qL (nWI ν 53 14 (x2 + 1)) (fun ν_2 =>
      if zb x1 = true then
        some (x1, ν_2)
      else none)
  else
    if zb x1 = true then
      some (x1, ν)
    else none
theorem me_X9_may : g_me yX9_may cX9_may 3 ((Option.some .boolean)) 2 := ⟨tw_1147, tw_79, ⟨by decide +kernel, by decide +kernel, by decide +kernel⟩, by decide⟩
set_option maxRecDepth 20000 in
set_option maxHeartbeats 2000000 in
theorem m_X9_may {X : gX} {ad : Nat → Nat} {x1 : Int32} {x2 : Int32} {ν : gN} {r : Int32 × gN}  (h : f_X9_may x1 x2 ν = some r) : h_ct X ad yX9_may cX9_may 3 ((Option.some .boolean)) 1 [.ref (ad 53), .int x1, .int x2] ν (some (.int r.1), r.2) := by
  rw [f_X9_may] at h
  refine h_ct_of (l := [(0, .ref (ad 53)), (1, .int x1), (2, .int x2)]) (by decide) (Nat.le_of_ble_eq_true rfl) rfl ?_
  refine go_iload_n rfl 1 rfl dX9_may_0 ?_
  refine go_if_ne (tgt := 11) dX9_may_1 rfl (fun hc => ?_) (fun hc => ?_)
  · replace h := q_f h hc
    refine go_iload_n rfl 1 rfl dX9_may_11 ?_
    obtain ⟨hg_1, h⟩ := q_g h
    exact h_zret hg_1 h dX9_may_12 rfl
  · replace h := q_t h hc
    refine go_aload_n rfl 0 rfl dX9_may_4 ?_
    refine go_iload_n rfl 2 rfl dX9_may_5 ?_
    refine go_iconst kz_iconst_1 dX9_may_6 ?_
    refine go_iadd dX9_may_7 ?_
    obtain ⟨ν_2, e_3, h⟩ := q_l h
    refine h_puti 14 cl7 rfl (by decide) tw_926 rfl rfl e_3 dX9_may_8 ?_
    refine go_iload_n rfl 1 rfl dX9_may_11 ?_
    obtain ⟨hg_4, h⟩ := q_g h
    exact h_zret hg_4 h dX9_may_12 rfl
noncomputable def f_X9_newOne (x1 : Int32) (x2 : Int32) (x3 : Int32) (x4 : Int32) (x5 : Int32) (ν : gN) : Option (Int32 × gN) :=
  if inb (ν.1 53 0) 7 = true then
    qL (nWI ν 54 (ν.1 53 0).toNatClampNeg x1) (fun ν_2 =>
      if inb (ν_2.1 53 0) 7 = true then
        qL (nWI ν_2 55 (ν_2.1 53 0).toNatClampNeg x2) (fun ν_5 =>
          if inb (ν_5.1 53 0) 7 = true then
            qL (nWI ν_5 56 (ν_5.1 53 0).toNatClampNeg x3) (fun ν_8 =>
              if inb (ν_8.1 53 0) 7 = true then
                qL (nWI ν_8 57 (ν_8.1 53 0).toNatClampNeg x4) (fun ν_11 =>
                  if inb (ν_11.1 53 0) 7 = true then
                    qL (nWI ν_11 58 (ν_11.1 53 0).toNatClampNeg x5) (fun ν_14 =>
                      if inb (ν_14.1 53 0) 7 = true then
                        qL (nWI ν_14 59 (ν_14.1 53 0).toNatClampNeg 0) (fun ν_17 =>
                          qL (nWI ν_17 53 0 ((ν_17.1 53 0) + 1)) (fun ν_19 =>
                            some (ν_17.1 53 0, ν_19)))
                      else none)
                  else none)
              else none)
          else none)
      else none)
  else none
theorem me_X9_newOne : g_me yX9_newOne cX9_newOne 6 ((Option.some .int)) 5 := ⟨tw_1072, tw_79, ⟨by decide +kernel, by decide +kernel, by decide +kernel⟩, by decide⟩
set_option maxRecDepth 20000 in
set_option maxHeartbeats 2000000 in
theorem m_X9_newOne {X : gX} {ad : Nat → Nat} {x1 : Int32} {x2 : Int32} {x3 : Int32} {x4 : Int32} {x5 : Int32} {ν : gN} {r : Int32 × gN}  (h : f_X9_newOne x1 x2 x3 x4 x5 ν = some r) : h_ct X ad yX9_newOne cX9_newOne 6 ((Option.some .int)) 1 [.ref (ad 53), .int x1, .int x2, .int x3, .int x4, .int x5] ν (some (.int r.1), r.2) := by
  rw [f_X9_newOne] at h
  refine h_ct_of (l := [(0, .ref (ad 53)), (1, .int x1), (2, .int x2), (3, .int x3), (4, .int x4), (5, .int x5)]) (by decide) (Nat.le_of_ble_eq_true rfl) rfl ?_
  refine go_aload_n rfl 0 rfl dX9_newOne_0 ?_
  refine h_getr 1 cl7 rfl (by decide) tw_913 54 rfl dX9_newOne_1 ?_
  refine go_aload_n rfl 0 rfl dX9_newOne_4 ?_
  refine h_geti 0 cl7 rfl (by decide) tw_912 rfl dX9_newOne_5 ?_
  refine go_iload_n rfl 1 rfl dX9_newOne_8 ?_
  obtain ⟨hg_1, h⟩ := q_g h
  obtain ⟨ν_2, e_3, h⟩ := q_l h
  refine h_iast 7 rfl hg_1 e_3 dX9_newOne_9 ?_
  refine go_aload_n rfl 0 rfl dX9_newOne_10 ?_
  refine h_getr 2 cl7 rfl (by decide) tw_914 55 rfl dX9_newOne_11 ?_
  refine go_aload_n rfl 0 rfl dX9_newOne_14 ?_
  refine h_geti 0 cl7 rfl (by decide) tw_912 rfl dX9_newOne_15 ?_
  refine go_iload_n rfl 2 rfl dX9_newOne_18 ?_
  obtain ⟨hg_4, h⟩ := q_g h
  obtain ⟨ν_5, e_6, h⟩ := q_l h
  refine h_iast 7 rfl hg_4 e_6 dX9_newOne_19 ?_
  refine go_aload_n rfl 0 rfl dX9_newOne_20 ?_
  refine h_getr 3 cl7 rfl (by decide) tw_915 56 rfl dX9_newOne_21 ?_
  refine go_aload_n rfl 0 rfl dX9_newOne_24 ?_
  refine h_geti 0 cl7 rfl (by decide) tw_912 rfl dX9_newOne_25 ?_
  refine go_iload_n rfl 3 rfl dX9_newOne_28 ?_
  obtain ⟨hg_7, h⟩ := q_g h
  obtain ⟨ν_8, e_9, h⟩ := q_l h
  refine h_iast 7 rfl hg_7 e_9 dX9_newOne_29 ?_
  refine go_aload_n rfl 0 rfl dX9_newOne_30 ?_
  refine h_getr 4 cl7 rfl (by decide) tw_916 57 rfl dX9_newOne_31 ?_
  refine go_aload_n rfl 0 rfl dX9_newOne_34 ?_
  refine h_geti 0 cl7 rfl (by decide) tw_912 rfl dX9_newOne_35 ?_
  refine go_iload 4 rfl dX9_newOne_38 ?_
  obtain ⟨hg_10, h⟩ := q_g h
  obtain ⟨ν_11, e_12, h⟩ := q_l h
  refine h_iast 7 rfl hg_10 e_12 dX9_newOne_40 ?_
  refine go_aload_n rfl 0 rfl dX9_newOne_41 ?_
  refine h_getr 5 cl7 rfl (by decide) tw_917 58 rfl dX9_newOne_42 ?_
  refine go_aload_n rfl 0 rfl dX9_newOne_45 ?_
  refine h_geti 0 cl7 rfl (by decide) tw_912 rfl dX9_newOne_46 ?_
  refine go_iload 5 rfl dX9_newOne_49 ?_
  obtain ⟨hg_13, h⟩ := q_g h
  obtain ⟨ν_14, e_15, h⟩ := q_l h
  refine h_iast 7 rfl hg_13 e_15 dX9_newOne_51 ?_
  refine go_aload_n rfl 0 rfl dX9_newOne_52 ?_
  refine h_getr 6 cl7 rfl (by decide) tw_918 59 rfl dX9_newOne_53 ?_
  refine go_aload_n rfl 0 rfl dX9_newOne_56 ?_
  refine h_geti 0 cl7 rfl (by decide) tw_912 rfl dX9_newOne_57 ?_
  refine go_iconst kz_iconst_0 dX9_newOne_60 ?_
  obtain ⟨hg_16, h⟩ := q_g h
  obtain ⟨ν_17, e_18, h⟩ := q_l h
  refine h_iast 7 rfl hg_16 e_18 dX9_newOne_61 ?_
  refine go_aload_n rfl 0 rfl dX9_newOne_62 ?_
  refine go_dup rfl dX9_newOne_63 ?_
  refine h_geti 0 cl7 rfl (by decide) tw_912 rfl dX9_newOne_64 ?_
  refine go_dup_x1 rfl rfl dX9_newOne_67 ?_
  refine go_iconst kz_iconst_1 dX9_newOne_68 ?_
  refine go_iadd dX9_newOne_69 ?_
  obtain ⟨ν_19, e_20, h⟩ := q_l h
  refine h_puti 0 cl7 rfl (by decide) tw_912 rfl rfl e_20 dX9_newOne_70 ?_
  exact h_iret h dX9_newOne_73 rfl
noncomputable def f_X9_number_L20 (y1 : Int32) (y2 : Int32) (y3 : Int32) (y4 : Int32) (k77 : Int32 → gN → Option (Int32 × gN)) : Nat → Int32 → gN → Option (Int32 × gN)
  | 0, _, _ => none
  | n + 1, y5, ν =>
    if 2 ≤ ((ν.1 53 14) - y4) then
      k77 y5 ν
    else
      (f_X9_sign  ν).bind (fun r_3 =>
        if r_3.1 < 48 then
          k77 y5 r_3.2
        else
          (f_X9_sign  r_3.2).bind (fun r_5 =>
            if 57 < r_5.1 then
              k77 y5 r_5.2
            else
              (f_X9_sign  r_5.2).bind (fun r_7 =>
                qL (nWI r_7.2 53 14 ((r_7.2.1 53 14) + 1)) (fun ν_9 =>
                  f_X9_number_L20 y1 y2 y3 y4 k77 n (((10 * y5) + r_7.1) - 48) ν_9))))
noncomputable def f_X9_number (x1 : Int32) (x2 : Int32) (x3 : Int32) (ν : gN) : Option (Int32 × gN) :=
  (f_X9_is 32 ν).bind (fun r_1 =>
    if r_1.1 = 0 then
      some (0, r_1.2)
    else
      f_X9_number_L20 x1 x2 x3 (r_1.2.1 53 14) (fun z5_11 ν_12 =>
        if (ν_12.1 53 14) = (r_1.2.1 53 14) then
          some (0, ν_12)
        else
          if inb x1 5 = true then
            qL (nWI ν_12 65 x1.toNatClampNeg z5_11) (fun ν_14 =>
              (f_X9_within z5_11 x2 x3 ν_14).bind (fun r_16 =>
                if r_16.1 = 0 then
                  qL (nWI r_16.2 53 14 (r_1.2.1 53 14)) (fun ν_19 =>
                    if zb r_16.1 = true then
                      some (r_16.1, ν_19)
                    else none)
                else
                  if zb r_16.1 = true then
                    some (r_16.1, r_16.2)
                  else none))
          else none) FU 0 r_1.2)
theorem me_X9_number : g_me yX9_number cX9_number 7 ((Option.some .boolean)) 3 := ⟨tw_1143, tw_79, ⟨by decide +kernel, by decide +kernel, by decide +kernel⟩, by decide⟩
set_option maxRecDepth 20000 in
set_option maxHeartbeats 2000000 in
theorem m_X9_number_L20 {X : gX} {ad : Nat → Nat} {y1 : Int32} {y2 : Int32} {y3 : Int32} {y4 : Int32} {k77 : Int32 → gN → Option (Int32 × gN)}  : ∀ (n : Nat) (y5 : Int32) (ν : gN) (r : Int32 × gN), f_X9_number_L20 y1 y2 y3 y4 k77 n y5 ν = some r → (∀ (z5 : Int32) (ν1 : gN), k77 z5 ν1 = some r → h_go X ad RX9 "number" cX9_number 7 ((Option.some .boolean)) 3 (some (.int r.1), r.2) 77 [(0, .ref (ad 53)), (1, .int y1), (2, .int y2), (3, .int y3), (4, .int y4), (5, .int z5)] [] ν1) → h_go X ad RX9 "number" cX9_number 7 ((Option.some .boolean)) 3 (some (.int r.1), r.2) 20 [(0, .ref (ad 53)), (1, .int y1), (2, .int y2), (3, .int y3), (4, .int y4), (5, .int y5)] [] ν := by
  intro n
  induction n with
  | zero => intro y5 ν r h hk77; rw [f_X9_number_L20] at h; exact q_n h
  | succ n ih =>
    intro y5 ν r h hk77
    rw [f_X9_number_L20] at h
    refine go_aload_n rfl 0 rfl dX9_number_20 ?_
    refine h_geti 14 cl7 rfl (by decide) tw_926 rfl dX9_number_21 ?_
    refine go_iload 4 rfl dX9_number_24 ?_
    refine go_isub dX9_number_26 ?_
    refine go_iconst kz_iconst_2 dX9_number_27 ?_
    refine go_icmp_ge (tgt := 77) dX9_number_28 rfl (fun hc => ?_) (fun hc => ?_)
    · replace h := q_t h hc
      exact hk77 _ _ h
    · replace h := q_f h hc
      refine go_aload_n rfl 0 rfl dX9_number_31 ?_
      obtain ⟨r_3, h_4, h⟩ := q_b h
      refine h_callVi (st := []) [] (m_X9_sign h_4) me_X9_sign (g_recv cl7.1 rfl) tw_1125 tw_1127 tw_37 (hdd_of (by decide)) ⟨Nat.zero_le _, Nat.zero_le _⟩ rfl rfl (Nat.le_of_ble_eq_true rfl) dX9_number_32 ?_
      refine go_bipush kz_bipush_48 dX9_number_35 ?_
      refine go_icmp_lt (tgt := 77) dX9_number_37 rfl (fun hc => ?_) (fun hc => ?_)
      · replace h := q_t h hc
        exact hk77 _ _ h
      · replace h := q_f h hc
        refine go_aload_n rfl 0 rfl dX9_number_40 ?_
        obtain ⟨r_5, h_6, h⟩ := q_b h
        refine h_callVi (st := []) [] (m_X9_sign h_6) me_X9_sign (g_recv cl7.1 rfl) tw_1125 tw_1127 tw_37 (hdd_of (by decide)) ⟨Nat.zero_le _, Nat.zero_le _⟩ rfl rfl (Nat.le_of_ble_eq_true rfl) dX9_number_41 ?_
        refine go_bipush kz_bipush_57 dX9_number_44 ?_
        refine go_icmp_gt (tgt := 77) dX9_number_46 rfl (fun hc => ?_) (fun hc => ?_)
        · replace h := q_t h hc
          exact hk77 _ _ h
        · replace h := q_f h hc
          refine go_bipush kz_bipush_10 dX9_number_49 ?_
          refine go_iload 5 rfl dX9_number_51 ?_
          refine go_imul dX9_number_53 ?_
          refine go_aload_n rfl 0 rfl dX9_number_54 ?_
          obtain ⟨r_7, h_8, h⟩ := q_b h
          refine h_callVi (st := [.int (10 * y5)]) [] (m_X9_sign h_8) me_X9_sign (g_recv cl7.1 rfl) tw_1125 tw_1127 tw_37 (hdd_of (by decide)) ⟨Nat.zero_le _, Nat.zero_le _⟩ rfl rfl (Nat.le_of_ble_eq_true rfl) dX9_number_55 ?_
          refine go_iadd dX9_number_58 ?_
          refine go_bipush kz_bipush_48 dX9_number_59 ?_
          refine go_isub dX9_number_61 ?_
          refine go_istore (l' := [(5, .int (((10 * y5) + r_7.1) - 48)), (0, .ref (ad 53)), (1, .int y1), (2, .int y2), (3, .int y3), (4, .int y4)]) dX9_number_62 (by decide) rfl ?_
          refine go_aload_n rfl 1 rfl dX9_number_64 ?_
          refine go_dup rfl dX9_number_65 ?_
          refine h_geti 14 cl7 rfl (by decide) tw_926 rfl dX9_number_66 ?_
          refine go_iconst kz_iconst_1 dX9_number_69 ?_
          refine go_iadd dX9_number_70 ?_
          obtain ⟨ν_9, e_10, h⟩ := q_l h
          refine h_puti 14 cl7 rfl (by decide) tw_926 rfl rfl e_10 dX9_number_71 ?_
          refine go_goto (tgt := 20) dX9_number_74 rfl ?_
          refine go_sub (l' := [(0, .ref (ad 53)), (1, .int y1), (2, .int y2), (3, .int y3), (4, .int y4), (5, .int (((10 * y5) + r_7.1) - 48))]) [1, 2, 3, 4, 5, 0] rfl ?_
          exact ih _ _ _ h hk77
set_option maxRecDepth 20000 in
set_option maxHeartbeats 2000000 in
theorem m_X9_number {X : gX} {ad : Nat → Nat} {x1 : Int32} {x2 : Int32} {x3 : Int32} {ν : gN} {r : Int32 × gN}  (h : f_X9_number x1 x2 x3 ν = some r) : h_ct X ad yX9_number cX9_number 7 ((Option.some .boolean)) 3 [.ref (ad 53), .int x1, .int x2, .int x3] ν (some (.int r.1), r.2) := by
  rw [f_X9_number] at h
  refine h_ct_of (l := [(0, .ref (ad 53)), (1, .int x1), (2, .int x2), (3, .int x3)]) (by decide) (Nat.le_of_ble_eq_true rfl) rfl ?_
  refine go_aload_n rfl 0 rfl dX9_number_0 ?_
  refine go_bipush kz_bipush_32 dX9_number_1 ?_
  obtain ⟨r_1, h_2, h⟩ := q_b h
  refine h_callVi (st := []) [.int 32] (m_X9_is h_2) me_X9_is (g_recv cl7.1 rfl) tw_1136 tw_1138 tw_39 (hdd_of (by decide)) ⟨Nat.zero_le _, Nat.zero_le _⟩ rfl rfl (Nat.le_of_ble_eq_true rfl) dX9_number_3 ?_
  refine go_if_ne (tgt := 11) dX9_number_6 rfl (fun hc => ?_) (fun hc => ?_)
  · replace h := q_f h hc
    refine go_aload_n rfl 0 rfl dX9_number_11 ?_
    refine h_geti 14 cl7 rfl (by decide) tw_926 rfl dX9_number_12 ?_
    refine go_istore (l' := [(4, .int (r_1.2.1 53 14)), (0, .ref (ad 53)), (1, .int x1), (2, .int x2), (3, .int x3)]) dX9_number_15 (by decide) rfl ?_
    refine go_iconst kz_iconst_0 dX9_number_17 ?_
    refine go_istore (l' := [(5, .int 0), (4, .int (r_1.2.1 53 14)), (0, .ref (ad 53)), (1, .int x1), (2, .int x2), (3, .int x3)]) dX9_number_18 (by decide) rfl ?_
    refine go_sub (l' := [(0, .ref (ad 53)), (1, .int x1), (2, .int x2), (3, .int x3), (4, .int (r_1.2.1 53 14)), (5, .int 0)]) [2, 3, 4, 5, 1, 0] rfl ?_
    refine m_X9_number_L20  FU _ _ _ h (fun z5_11 ν_12 h => ?_)
    refine go_aload_n rfl 0 rfl dX9_number_77 ?_
    refine h_geti 14 cl7 rfl (by decide) tw_926 rfl dX9_number_78 ?_
    refine go_iload 4 rfl dX9_number_81 ?_
    refine go_icmp_ne (tgt := 88) dX9_number_83 rfl (fun hc => ?_) (fun hc => ?_)
    · replace h := q_f h hc
      refine go_aload_n rfl 0 rfl dX9_number_88 ?_
      refine h_getr 15 cl7 rfl (by decide) tw_927 65 rfl dX9_number_89 ?_
      refine go_iload_n rfl 1 rfl dX9_number_92 ?_
      refine go_iload 5 rfl dX9_number_93 ?_
      obtain ⟨hg_13, h⟩ := q_g h
      obtain ⟨ν_14, e_15, h⟩ := q_l h
      refine h_iast 5 rfl hg_13 e_15 dX9_number_95 ?_
      refine go_iload 5 rfl dX9_number_96 ?_
      refine go_iload_n rfl 2 rfl dX9_number_98 ?_
      refine go_iload_n rfl 3 rfl dX9_number_99 ?_
      obtain ⟨r_16, h_17, h⟩ := q_b h
      refine h_callSi (st := []) [.int z5_11, .int x2, .int x3] (m_X9_within h_17) me_X9_within tw_1005 tw_1006 (hdd_of (by decide)) ⟨Nat.zero_le _, Nat.zero_le _⟩ rfl rfl (Nat.le_of_ble_eq_true rfl) dX9_number_100 ?_
      refine go_istore (l' := [(6, .int r_16.1), (0, .ref (ad 53)), (1, .int x1), (2, .int x2), (3, .int x3), (4, .int (r_1.2.1 53 14)), (5, .int z5_11)]) dX9_number_103 (by decide) rfl ?_
      refine go_iload 0 rfl dX9_number_105 ?_
      refine go_if_ne (tgt := 116) dX9_number_107 rfl (fun hc => ?_) (fun hc => ?_)
      · replace h := q_f h hc
        refine go_iload 0 rfl dX9_number_116 ?_
        obtain ⟨hg_18, h⟩ := q_g h
        exact h_zret hg_18 h dX9_number_118 rfl
      · replace h := q_t h hc
        refine go_aload_n rfl 1 rfl dX9_number_110 ?_
        refine go_iload 5 rfl dX9_number_111 ?_
        obtain ⟨ν_19, e_20, h⟩ := q_l h
        refine h_puti 14 cl7 rfl (by decide) tw_926 rfl rfl e_20 dX9_number_113 ?_
        refine go_iload 0 rfl dX9_number_116 ?_
        obtain ⟨hg_21, h⟩ := q_g h
        exact h_zret hg_21 h dX9_number_118 rfl
    · replace h := q_t h hc
      refine go_iconst kz_iconst_0 dX9_number_86 ?_
      exact h_zret rfl h dX9_number_87 rfl
  · replace h := q_t h hc
    refine go_iconst kz_iconst_0 dX9_number_9 ?_
    exact h_zret rfl h dX9_number_10 rfl
noncomputable def f_X9_word_L2 (y1 : Nat) (k30 : gN → Option (Int32 × gN)) : Nat → Int32 → gN → Option (Int32 × gN)
  | 0, _, _ => none
  | n + 1, y2, ν =>
    (f_J0_length_8abf5 y1 ν).bind (fun r_1 =>
      if r_1.1 ≤ y2 then
        k30  r_1.2
      else
        (f_J0_charAt_5068e y1 y2 r_1.2).bind (fun r_3 =>
          (f_X9_is r_3.1 r_3.2).bind (fun r_5 =>
            if r_5.1 = 0 then
              some (0, r_5.2)
            else
              f_X9_word_L2 y1 k30 n (y2 + 1) r_5.2)))
noncomputable def f_X9_word (w1 : Nat) (ν : gN) : Option (Int32 × gN) :=
  f_X9_word_L2 w1 (fun ν_7 =>
    some (1, ν_7)) FU 0 ν
theorem me_X9_word : g_me yX9_word cX9_word 3 ((Option.some .boolean)) 1 := ⟨tw_1133, tw_79, ⟨by decide +kernel, by decide +kernel, by decide +kernel⟩, by decide⟩
set_option maxRecDepth 20000 in
set_option maxHeartbeats 2000000 in
theorem m_X9_word_L2 {X : gX} {ad : Nat → Nat} {y1 : Nat} {k30 : gN → Option (Int32 × gN)} (hy1 : y1 < 7) : ∀ (n : Nat) (y2 : Int32) (ν : gN) (r : Int32 × gN), f_X9_word_L2 y1 k30 n y2 ν = some r → (∀ (ν1 : gN), k30 ν1 = some r → h_go X ad RX9 "word" cX9_word 3 ((Option.some .boolean)) 5 (some (.int r.1), r.2) 30 [] [] ν1) → h_go X ad RX9 "word" cX9_word 3 ((Option.some .boolean)) 5 (some (.int r.1), r.2) 2 [(0, .ref (ad 53)), (1, .ref (X.2.2.2.1 (10 + y1))), (2, .int y2)] [] ν := by
  intro n
  induction n with
  | zero => intro y2 ν r h hk30; rw [f_X9_word_L2] at h; exact q_n h
  | succ n ih =>
    intro y2 ν r h hk30
    rw [f_X9_word_L2] at h
    refine go_iload_n rfl 2 rfl dX9_word_2 ?_
    refine go_aload_n rfl 1 rfl dX9_word_3 ?_
    obtain ⟨r_1, h_2, h⟩ := q_b h
    refine h_callVi (st := [.int y2]) [] (m_J0_length_8abf5 hy1 h_2) me_J0_length_8abf5 (g_recvS hy1) tw_1134 tw_540 tw_541 (hdd_of (by decide)) ⟨Nat.zero_le _, Nat.zero_le _⟩ rfl rfl (Nat.le_of_ble_eq_true rfl) dX9_word_4 ?_
    refine go_icmp_ge (tgt := 30) dX9_word_7 rfl (fun hc => ?_) (fun hc => ?_)
    · replace h := q_t h hc
      refine go_sub (l' := []) [] rfl ?_
      exact hk30  _ h
    · replace h := q_f h hc
      refine go_aload_n rfl 0 rfl dX9_word_10 ?_
      refine go_aload_n rfl 1 rfl dX9_word_11 ?_
      refine go_iload_n rfl 2 rfl dX9_word_12 ?_
      obtain ⟨r_3, h_4, h⟩ := q_b h
      refine h_callVi (st := [.ref (ad 53)]) [.int y2] (m_J0_charAt_5068e hy1 h_4) me_J0_charAt_5068e (g_recvS hy1) tw_1135 tw_550 tw_551 (hdd_of (by decide)) ⟨Nat.zero_le _, Nat.zero_le _⟩ rfl rfl (Nat.le_of_ble_eq_true rfl) dX9_word_13 ?_
      obtain ⟨r_5, h_6, h⟩ := q_b h
      refine h_callVi (st := []) [.int r_3.1] (m_X9_is h_6) me_X9_is (g_recv cl7.1 rfl) tw_1136 tw_1138 tw_39 (hdd_of (by decide)) ⟨Nat.zero_le _, Nat.zero_le _⟩ rfl rfl (Nat.le_of_ble_eq_true rfl) dX9_word_16 ?_
      refine go_if_ne (tgt := 24) dX9_word_19 rfl (fun hc => ?_) (fun hc => ?_)
      · replace h := q_f h hc
        refine h_iinc (l' := [(2, .int (y2 + 1)), (0, .ref (ad 53)), (1, .ref (X.2.2.2.1 (10 + y1)))]) dX9_word_24 2 rfl kz_iconst_1 (by decide) rfl ?_
        refine go_goto (tgt := 2) dX9_word_27 rfl ?_
        refine go_sub (l' := [(0, .ref (ad 53)), (1, .ref (X.2.2.2.1 (10 + y1))), (2, .int (y2 + 1))]) [1, 2, 0] rfl ?_
        exact ih _ _ _ h hk30
      · replace h := q_t h hc
        refine go_iconst kz_iconst_0 dX9_word_22 ?_
        exact h_zret rfl h dX9_word_23 rfl
set_option maxRecDepth 20000 in
set_option maxHeartbeats 2000000 in
theorem m_X9_word {X : gX} {ad : Nat → Nat} {w1 : Nat} {ν : gN} {r : Int32 × gN} (hw1 : w1 < 7) (h : f_X9_word w1 ν = some r) : h_ct X ad yX9_word cX9_word 3 ((Option.some .boolean)) 5 [.ref (ad 53), .ref (X.2.2.2.1 (10 + w1))] ν (some (.int r.1), r.2) := by
  rw [f_X9_word] at h
  refine h_ct_of (l := [(0, .ref (ad 53)), (1, .ref (X.2.2.2.1 (10 + w1)))]) (by decide) (Nat.le_of_ble_eq_true rfl) rfl ?_
  refine go_iconst kz_iconst_0 dX9_word_0 ?_
  refine go_istore_n (l' := [(2, .int 0), (0, .ref (ad 53)), (1, .ref (X.2.2.2.1 (10 + w1)))]) dX9_word_1 rfl (by decide) rfl ?_
  refine go_sub (l' := [(0, .ref (ad 53)), (1, .ref (X.2.2.2.1 (10 + w1))), (2, .int 0)]) [1, 2, 0] rfl ?_
  refine m_X9_word_L2 hw1 FU _ _ _ h (fun ν_7 h => ?_)
  refine go_iconst kz_iconst_1 dX9_word_30 ?_
  exact h_zret rfl h dX9_word_31 rfl
noncomputable def f_X9_word_ (w1 : Nat) (x2 : Int32) (ν : gN) : Option (Int32 × gN) :=
  (f_X9_word w1 ν).bind (fun r_1 =>
    if r_1.1 = 0 then
      if r_1.1 = 0 then
        some (0, r_1.2)
      else
        if x2 = 0 then
          some (0, r_1.2)
        else
          some (1, r_1.2)
    else
      if x2 = 0 then
        qL (nWI r_1.2 53 14 (ν.1 53 14)) (fun ν_3 =>
          if r_1.1 = 0 then
            some (0, ν_3)
          else
            if x2 = 0 then
              some (0, ν_3)
            else
              some (1, ν_3))
      else
        if r_1.1 = 0 then
          some (0, r_1.2)
        else
          if x2 = 0 then
            some (0, r_1.2)
          else
            some (1, r_1.2))
theorem me_X9_word_ : g_me yX9_word_ cX9_word_ 5 ((Option.some .boolean)) 2 := ⟨tw_1153, tw_79, ⟨by decide +kernel, by decide +kernel, by decide +kernel⟩, by decide⟩
set_option maxRecDepth 20000 in
set_option maxHeartbeats 2000000 in
theorem m_X9_word_ {X : gX} {ad : Nat → Nat} {w1 : Nat} {x2 : Int32} {ν : gN} {r : Int32 × gN} (hw1 : w1 < 7) (h : f_X9_word_ w1 x2 ν = some r) : h_ct X ad yX9_word_ cX9_word_ 5 ((Option.some .boolean)) 6 [.ref (ad 53), .ref (X.2.2.2.1 (10 + w1)), .int x2] ν (some (.int r.1), r.2) := by
  rw [f_X9_word_] at h
  refine h_ct_of (l := [(0, .ref (ad 53)), (1, .ref (X.2.2.2.1 (10 + w1))), (2, .int x2)]) (by decide) (Nat.le_of_ble_eq_true rfl) rfl ?_
  refine go_aload_n rfl 0 rfl dX9_word__0 ?_
  refine h_geti 14 cl7 rfl (by decide) tw_926 rfl dX9_word__1 ?_
  refine go_istore_n (l' := [(3, .int (ν.1 53 14)), (0, .ref (ad 53)), (1, .ref (X.2.2.2.1 (10 + w1))), (2, .int x2)]) dX9_word__4 rfl (by decide) rfl ?_
  refine go_aload_n rfl 1 rfl dX9_word__5 ?_
  refine go_aload_n rfl 2 rfl dX9_word__6 ?_
  obtain ⟨r_1, h_2, h⟩ := q_b h
  refine h_callVi (st := []) [.ref (X.2.2.2.1 (10 + w1))] (m_X9_word hw1 h_2) me_X9_word (g_recv cl7.1 rfl) tw_1130 tw_1132 tw_38 (hdd_of (by decide)) ⟨Nat.zero_le _, Nat.zero_le _⟩ rfl rfl (Nat.le_of_ble_eq_true rfl) dX9_word__7 ?_
  refine go_istore (l' := [(4, .int r_1.1), (3, .int (ν.1 53 14)), (0, .ref (ad 53)), (1, .ref (X.2.2.2.1 (10 + w1))), (2, .int x2)]) dX9_word__10 (by decide) rfl ?_
  refine go_iload 0 rfl dX9_word__12 ?_
  refine go_if_eq (tgt := 26) dX9_word__14 rfl (fun hc => ?_) (fun hc => ?_)
  · replace h := q_t h hc
    refine go_iload 0 rfl dX9_word__26 ?_
    refine go_if_eq (tgt := 39) dX9_word__28 rfl (fun hc => ?_) (fun hc => ?_)
    · replace h := q_t h hc
      refine go_iconst kz_iconst_0 dX9_word__39 ?_
      exact h_zret rfl h dX9_word__40 rfl
    · replace h := q_f h hc
      refine go_iload_n rfl 4 rfl dX9_word__31 ?_
      refine go_if_eq (tgt := 39) dX9_word__32 rfl (fun hc => ?_) (fun hc => ?_)
      · replace h := q_t h hc
        refine go_iconst kz_iconst_0 dX9_word__39 ?_
        exact h_zret rfl h dX9_word__40 rfl
      · replace h := q_f h hc
        refine go_iconst kz_iconst_1 dX9_word__35 ?_
        refine go_goto (tgt := 40) dX9_word__36 rfl ?_
        exact h_zret rfl h dX9_word__40 rfl
  · replace h := q_f h hc
    refine go_iload_n rfl 4 rfl dX9_word__17 ?_
    refine go_if_ne (tgt := 26) dX9_word__18 rfl (fun hc => ?_) (fun hc => ?_)
    · replace h := q_f h hc
      refine go_iload 0 rfl dX9_word__26 ?_
      refine go_if_eq (tgt := 39) dX9_word__28 rfl (fun hc => ?_) (fun hc => ?_)
      · replace h := q_t h hc
        refine go_iconst kz_iconst_0 dX9_word__39 ?_
        exact h_zret rfl h dX9_word__40 rfl
      · replace h := q_f h hc
        refine go_iload_n rfl 4 rfl dX9_word__31 ?_
        refine go_if_eq (tgt := 39) dX9_word__32 rfl (fun hc => ?_) (fun hc => ?_)
        · replace h := q_t h hc
          refine go_iconst kz_iconst_0 dX9_word__39 ?_
          exact h_zret rfl h dX9_word__40 rfl
        · replace h := q_f h hc
          refine go_iconst kz_iconst_1 dX9_word__35 ?_
          refine go_goto (tgt := 40) dX9_word__36 rfl ?_
          exact h_zret rfl h dX9_word__40 rfl
    · replace h := q_t h hc
      refine go_aload_n rfl 2 rfl dX9_word__21 ?_
      refine go_iload_n rfl 1 rfl dX9_word__22 ?_
      obtain ⟨ν_3, e_4, h⟩ := q_l h
      refine h_puti 14 cl7 rfl (by decide) tw_926 rfl rfl e_4 dX9_word__23 ?_
      refine go_iload 0 rfl dX9_word__26 ?_
      refine go_if_eq (tgt := 39) dX9_word__28 rfl (fun hc => ?_) (fun hc => ?_)
      · replace h := q_t h hc
        refine go_iconst kz_iconst_0 dX9_word__39 ?_
        exact h_zret rfl h dX9_word__40 rfl
      · replace h := q_f h hc
        refine go_iload_n rfl 4 rfl dX9_word__31 ?_
        refine go_if_eq (tgt := 39) dX9_word__32 rfl (fun hc => ?_) (fun hc => ?_)
        · replace h := q_t h hc
          refine go_iconst kz_iconst_0 dX9_word__39 ?_
          exact h_zret rfl h dX9_word__40 rfl
        · replace h := q_f h hc
          refine go_iconst kz_iconst_1 dX9_word__35 ?_
          refine go_goto (tgt := 40) dX9_word__36 rfl ?_
          exact h_zret rfl h dX9_word__40 rfl
noncomputable def f_X9_item  (ν : gN) : Option (Int32 × gN) :=
  (f_X9_sign  ν).bind (fun r_1 =>
    if r_1.1 = 102 then
      (f_X9_word 0 r_1.2).bind (fun r_4 =>
        if r_4.1 = 0 then
          some (0, r_4.2)
        else
          (f_X9_number 0 0 48 r_4.2).bind (fun r_6 =>
            if r_6.1 = 0 then
              some (0, r_6.2)
            else
              if inb 0 5 = true then
                (f_X9_isFree (r_6.2.1 65 (0 : Int32).toNatClampNeg) r_6.2).bind (fun r_9 =>
                  (f_X9_may r_9.1 (r_4.2.1 53 14) r_9.2).bind (fun r_11 =>
                    if r_11.1 = 0 then
                      some (0, r_11.2)
                    else
                      if inb 0 5 = true then
                        (f_X9_fenced (r_11.2.1 65 (0 : Int32).toNatClampNeg) 1 r_11.2).bind (fun r_14 =>
                          some (1, r_14))
                      else none))
              else none))
    else
    if r_1.1 = 111 then
      (f_X9_word 1 r_1.2).bind (fun r_17 =>
        if r_17.1 = 0 then
          some (0, r_17.2)
        else
          (f_X9_number 0 0 48 r_17.2).bind (fun r_19 =>
            if r_19.1 = 0 then
              some (0, r_19.2)
            else
              if inb 0 5 = true then
                (f_X9_fenced (r_19.2.1 65 (0 : Int32).toNatClampNeg) 0 r_19.2).bind (fun r_22 =>
                  some (1, r_22))
              else none))
    else
    if r_1.1 = 112 then
      if 7 ≤ (r_1.2.1 53 0) then
        (f_X9_word_ 2 0 r_1.2).bind (fun r_25 =>
          if r_25.1 = 0 then
            some (0, r_25.2)
          else
            (f_X9_number 0 0 6 r_25.2).bind (fun r_27 =>
              if r_27.1 = 0 then
                some (0, r_27.2)
              else
                (f_X9_number 1 0 9 r_27.2).bind (fun r_29 =>
                  if r_29.1 = 0 then
                    some (0, r_29.2)
                  else
                    (f_X9_number 2 0 20 r_29.2).bind (fun r_31 =>
                      if r_31.1 = 0 then
                        some (0, r_31.2)
                      else
                        (f_X9_number 3 1 4 r_31.2).bind (fun r_33 =>
                          if r_33.1 = 0 then
                            some (0, r_33.2)
                          else
                            (f_X9_number 4 0 48 r_33.2).bind (fun r_35 =>
                              if r_35.1 = 0 then
                                some (0, r_35.2)
                              else
                                if inb 4 5 = true then
                                  (f_X9_isOpen (r_35.2.1 65 (4 : Int32).toNatClampNeg) r_35.2).bind (fun r_38 =>
                                    (f_X9_may r_38.1 (r_33.2.1 53 14) r_38.2).bind (fun r_40 =>
                                      if r_40.1 = 0 then
                                        some (0, r_40.2)
                                      else
                                        if inb 0 5 = true then
                                          if inb 1 5 = true then
                                            if inb 2 5 = true then
                                              if inb 3 5 = true then
                                                if inb 4 5 = true then
                                                  (f_X9_newOne (r_40.2.1 65 (0 : Int32).toNatClampNeg) (r_40.2.1 65 (1 : Int32).toNatClampNeg) (r_40.2.1 65 (2 : Int32).toNatClampNeg) (r_40.2.1 65 (3 : Int32).toNatClampNeg) (r_40.2.1 65 (4 : Int32).toNatClampNeg) r_40.2).bind (fun r_47 =>
                                                    some (1, r_47.2))
                                                else none
                                              else none
                                            else none
                                          else none
                                        else none))
                                else none))))))
      else
        (f_X9_word_ 2 1 r_1.2).bind (fun r_49 =>
          if r_49.1 = 0 then
            some (0, r_49.2)
          else
            (f_X9_number 0 0 6 r_49.2).bind (fun r_51 =>
              if r_51.1 = 0 then
                some (0, r_51.2)
              else
                (f_X9_number 1 0 9 r_51.2).bind (fun r_53 =>
                  if r_53.1 = 0 then
                    some (0, r_53.2)
                  else
                    (f_X9_number 2 0 20 r_53.2).bind (fun r_55 =>
                      if r_55.1 = 0 then
                        some (0, r_55.2)
                      else
                        (f_X9_number 3 1 4 r_55.2).bind (fun r_57 =>
                          if r_57.1 = 0 then
                            some (0, r_57.2)
                          else
                            (f_X9_number 4 0 48 r_57.2).bind (fun r_59 =>
                              if r_59.1 = 0 then
                                some (0, r_59.2)
                              else
                                if inb 4 5 = true then
                                  (f_X9_isOpen (r_59.2.1 65 (4 : Int32).toNatClampNeg) r_59.2).bind (fun r_62 =>
                                    (f_X9_may r_62.1 (r_57.2.1 53 14) r_62.2).bind (fun r_64 =>
                                      if r_64.1 = 0 then
                                        some (0, r_64.2)
                                      else
                                        if inb 0 5 = true then
                                          if inb 1 5 = true then
                                            if inb 2 5 = true then
                                              if inb 3 5 = true then
                                                if inb 4 5 = true then
                                                  (f_X9_newOne (r_64.2.1 65 (0 : Int32).toNatClampNeg) (r_64.2.1 65 (1 : Int32).toNatClampNeg) (r_64.2.1 65 (2 : Int32).toNatClampNeg) (r_64.2.1 65 (3 : Int32).toNatClampNeg) (r_64.2.1 65 (4 : Int32).toNatClampNeg) r_64.2).bind (fun r_71 =>
                                                    some (1, r_71.2))
                                                else none
                                              else none
                                            else none
                                          else none
                                        else none))
                                else none))))))
    else
    if r_1.1 = 115 then
      qL (nWI r_1.2 53 14 ((r_1.2.1 53 14) + 1)) (fun ν_74 =>
        (f_X9_sign  ν_74).bind (fun r_76 =>
          if r_76.1 = 99 then
            (f_X9_word 5 r_76.2).bind (fun r_86 =>
              if r_86.1 = 0 then
                some (0, r_86.2)
              else
                (f_X9_number 0 0 40 r_86.2).bind (fun r_88 =>
                  if r_88.1 = 0 then
                    some (0, r_88.2)
                  else
                    if inb 0 5 = true then
                      if inb 1 4 = true then
                        qL (nWI r_88.2 61 (1 : Int32).toNatClampNeg (r_88.2.1 65 (0 : Int32).toNatClampNeg)) (fun ν_92 =>
                          some (1, ν_92))
                      else none
                    else none))
          else
            (f_X9_word 6 r_76.2).bind (fun r_78 =>
              if r_78.1 = 0 then
                some (0, r_78.2)
              else
                (f_X9_number 0 1 4 r_78.2).bind (fun r_80 =>
                  if r_80.1 = 0 then
                    some (0, r_80.2)
                  else
                    if inb 0 5 = true then
                      if inb 0 4 = true then
                        qL (nWI r_80.2 61 (0 : Int32).toNatClampNeg (r_80.2.1 65 (0 : Int32).toNatClampNeg)) (fun ν_84 =>
                          some (1, ν_84))
                      else none
                    else none))))
    else
    some (0, r_1.2))
theorem me_X9_item : g_me yX9_item cX9_item 2 ((Option.some .boolean)) 0 := ⟨tw_1124, tw_79, ⟨by decide +kernel, by decide +kernel, by decide +kernel⟩, by decide⟩
set_option maxRecDepth 20000 in
set_option maxHeartbeats 2000000 in
theorem m_X9_item {X : gX} {ad : Nat → Nat}  {ν : gN} {r : Int32 × gN}  (h : f_X9_item  ν = some r) : h_ct X ad yX9_item cX9_item 2 ((Option.some .boolean)) 7 [.ref (ad 53)] ν (some (.int r.1), r.2) := by
  rw [f_X9_item] at h
  refine h_ct_of (l := [(0, .ref (ad 53))]) (by decide) (Nat.le_of_ble_eq_true rfl) rfl ?_
  refine go_aload_n rfl 0 rfl dX9_item_0 ?_
  obtain ⟨r_1, h_2, h⟩ := q_b h
  refine h_callVi (st := []) [] (m_X9_sign h_2) me_X9_sign (g_recv cl7.1 rfl) tw_1125 tw_1127 tw_37 (hdd_of (by decide)) ⟨Nat.zero_le _, Nat.zero_le _⟩ rfl rfl (Nat.le_of_ble_eq_true rfl) dX9_item_1 ?_
  by_cases hk_3 : r_1.1 = 102
  · replace h := q_t h hk_3
    refine h_lkT (tgt := 48) (off := 44) hk_3 dX9_item_4 (by decide) rfl rfl ?_
    refine go_aload_n rfl 0 rfl dX9_item_48 ?_
    refine h_ldcSRX9167 dX9_item_49 ?_
    obtain ⟨r_4, h_5, h⟩ := q_b h
    refine h_callVi (st := []) [.ref (X.2.2.2.1 (10 + 0))] (m_X9_word (by decide) h_5) me_X9_word (g_recv cl7.1 rfl) tw_1130 tw_1132 tw_38 (hdd_of (by decide)) ⟨Nat.zero_le _, Nat.zero_le _⟩ rfl rfl (Nat.le_of_ble_eq_true rfl) dX9_item_51 ?_
    refine go_if_ne (tgt := 59) dX9_item_54 rfl (fun hc => ?_) (fun hc => ?_)
    · replace h := q_f h hc
      refine go_aload_n rfl 0 rfl dX9_item_59 ?_
      refine h_geti 14 cl7 rfl (by decide) tw_926 rfl dX9_item_60 ?_
      refine go_istore_n (l' := [(1, .int (r_4.2.1 53 14)), (0, .ref (ad 53))]) dX9_item_63 rfl (by decide) rfl ?_
      refine go_aload_n rfl 1 rfl dX9_item_64 ?_
      refine go_iconst kz_iconst_0 dX9_item_65 ?_
      refine go_iconst kz_iconst_0 dX9_item_66 ?_
      refine go_bipush kz_bipush_48 dX9_item_67 ?_
      obtain ⟨r_6, h_7, h⟩ := q_b h
      refine h_callVi (st := []) [.int 0, .int 0, .int 48] (m_X9_number h_7) me_X9_number (g_recv cl7.1 rfl) tw_1140 tw_1142 tw_40 (hdd_of (by decide)) ⟨Nat.zero_le _, Nat.zero_le _⟩ rfl rfl (Nat.le_of_ble_eq_true rfl) dX9_item_69 ?_
      refine go_if_eq (tgt := 93) dX9_item_72 rfl (fun hc => ?_) (fun hc => ?_)
      · replace h := q_t h hc
        refine go_iconst kz_iconst_0 dX9_item_93 ?_
        exact h_zret rfl h dX9_item_94 rfl
      · replace h := q_f h hc
        refine go_aload_n rfl 1 rfl dX9_item_75 ?_
        refine go_aload_n rfl 1 rfl dX9_item_76 ?_
        refine go_aload_n rfl 1 rfl dX9_item_77 ?_
        refine h_getr 15 cl7 rfl (by decide) tw_927 65 rfl dX9_item_78 ?_
        refine go_iconst kz_iconst_0 dX9_item_81 ?_
        obtain ⟨hg_8, h⟩ := q_g h
        refine h_iald 5 rfl hg_8 dX9_item_82 ?_
        obtain ⟨r_9, h_10, h⟩ := q_b h
        refine h_callVi (st := [.ref (ad 53)]) [.int (r_6.2.1 65 (0 : Int32).toNatClampNeg)] (m_X9_isFree h_10) me_X9_isFree (g_recv cl7.1 rfl) tw_1077 tw_1079 tw_30 (hdd_of (by decide)) ⟨Nat.zero_le _, Nat.zero_le _⟩ rfl rfl (Nat.le_of_ble_eq_true rfl) dX9_item_83 ?_
        refine go_iload_n rfl 0 rfl dX9_item_86 ?_
        obtain ⟨r_11, h_12, h⟩ := q_b h
        refine h_callVi (st := []) [.int r_9.1, .int (r_4.2.1 53 14)] (m_X9_may h_12) me_X9_may (g_recv cl7.1 rfl) tw_1144 tw_1146 tw_41 (hdd_of (by decide)) ⟨Nat.zero_le _, Nat.zero_le _⟩ rfl rfl (Nat.le_of_ble_eq_true rfl) dX9_item_87 ?_
        refine go_if_ne (tgt := 95) dX9_item_90 rfl (fun hc => ?_) (fun hc => ?_)
        · replace h := q_f h hc
          refine go_aload_n rfl 1 rfl dX9_item_95 ?_
          refine go_aload_n rfl 1 rfl dX9_item_96 ?_
          refine h_getr 15 cl7 rfl (by decide) tw_927 65 rfl dX9_item_97 ?_
          refine go_iconst kz_iconst_0 dX9_item_100 ?_
          obtain ⟨hg_13, h⟩ := q_g h
          refine h_iald 5 rfl hg_13 dX9_item_101 ?_
          refine go_iconst kz_iconst_1 dX9_item_102 ?_
          obtain ⟨r_14, h_15, h⟩ := q_b h
          refine h_callVv (st := []) [.int (r_11.2.1 65 (0 : Int32).toNatClampNeg), .int 1] (m_X9_fenced h_15) me_X9_fenced (g_recv cl7.1 rfl) tw_1085 tw_1087 tw_32 (hdd_of (by decide)) ⟨Nat.zero_le _, Nat.zero_le _⟩ rfl rfl (Nat.le_of_ble_eq_true rfl) dX9_item_103 ?_
          refine go_iconst kz_iconst_1 dX9_item_106 ?_
          exact h_zret rfl h dX9_item_107 rfl
        · replace h := q_t h hc
          refine go_iconst kz_iconst_0 dX9_item_93 ?_
          exact h_zret rfl h dX9_item_94 rfl
    · replace h := q_t h hc
      refine go_iconst kz_iconst_0 dX9_item_57 ?_
      exact h_zret rfl h dX9_item_58 rfl
  replace h := q_f h hk_3
  by_cases hk_16 : r_1.1 = 111
  · replace h := q_t h hk_16
    refine h_lkT (tgt := 108) (off := 104) hk_16 dX9_item_4 (by decide) rfl rfl ?_
    refine go_aload_n rfl 0 rfl dX9_item_108 ?_
    refine h_ldcSRX9176 dX9_item_109 ?_
    obtain ⟨r_17, h_18, h⟩ := q_b h
    refine h_callVi (st := []) [.ref (X.2.2.2.1 (10 + 1))] (m_X9_word (by decide) h_18) me_X9_word (g_recv cl7.1 rfl) tw_1130 tw_1132 tw_38 (hdd_of (by decide)) ⟨Nat.zero_le _, Nat.zero_le _⟩ rfl rfl (Nat.le_of_ble_eq_true rfl) dX9_item_111 ?_
    refine go_if_eq (tgt := 128) dX9_item_114 rfl (fun hc => ?_) (fun hc => ?_)
    · replace h := q_t h hc
      refine go_iconst kz_iconst_0 dX9_item_128 ?_
      exact h_zret rfl h dX9_item_129 rfl
    · replace h := q_f h hc
      refine go_aload_n rfl 0 rfl dX9_item_117 ?_
      refine go_iconst kz_iconst_0 dX9_item_118 ?_
      refine go_iconst kz_iconst_0 dX9_item_119 ?_
      refine go_bipush kz_bipush_48 dX9_item_120 ?_
      obtain ⟨r_19, h_20, h⟩ := q_b h
      refine h_callVi (st := []) [.int 0, .int 0, .int 48] (m_X9_number h_20) me_X9_number (g_recv cl7.1 rfl) tw_1140 tw_1142 tw_40 (hdd_of (by decide)) ⟨Nat.zero_le _, Nat.zero_le _⟩ rfl rfl (Nat.le_of_ble_eq_true rfl) dX9_item_122 ?_
      refine go_if_ne (tgt := 130) dX9_item_125 rfl (fun hc => ?_) (fun hc => ?_)
      · replace h := q_f h hc
        refine go_aload_n rfl 0 rfl dX9_item_130 ?_
        refine go_aload_n rfl 0 rfl dX9_item_131 ?_
        refine h_getr 15 cl7 rfl (by decide) tw_927 65 rfl dX9_item_132 ?_
        refine go_iconst kz_iconst_0 dX9_item_135 ?_
        obtain ⟨hg_21, h⟩ := q_g h
        refine h_iald 5 rfl hg_21 dX9_item_136 ?_
        refine go_iconst kz_iconst_0 dX9_item_137 ?_
        obtain ⟨r_22, h_23, h⟩ := q_b h
        refine h_callVv (st := []) [.int (r_19.2.1 65 (0 : Int32).toNatClampNeg), .int 0] (m_X9_fenced h_23) me_X9_fenced (g_recv cl7.1 rfl) tw_1085 tw_1087 tw_32 (hdd_of (by decide)) ⟨Nat.zero_le _, Nat.zero_le _⟩ rfl rfl (Nat.le_of_ble_eq_true rfl) dX9_item_138 ?_
        refine go_iconst kz_iconst_1 dX9_item_141 ?_
        exact h_zret rfl h dX9_item_142 rfl
      · replace h := q_t h hc
        refine go_iconst kz_iconst_0 dX9_item_128 ?_
        exact h_zret rfl h dX9_item_129 rfl
  replace h := q_f h hk_16
  by_cases hk_24 : r_1.1 = 112
  · replace h := q_t h hk_24
    refine h_lkT (tgt := 143) (off := 139) hk_24 dX9_item_4 (by decide) rfl rfl ?_
    refine go_aload_n rfl 0 rfl dX9_item_143 ?_
    refine h_ldcSRX9178 dX9_item_144 ?_
    refine go_aload_n rfl 0 rfl dX9_item_146 ?_
    refine h_geti 0 cl7 rfl (by decide) tw_912 rfl dX9_item_147 ?_
    refine go_bipush kz_bipush_7 dX9_item_150 ?_
    refine go_icmp_ge (tgt := 159) dX9_item_152 rfl (fun hc => ?_) (fun hc => ?_)
    · replace h := q_t h hc
      refine go_iconst kz_iconst_0 dX9_item_159 ?_
      obtain ⟨r_25, h_26, h⟩ := q_b h
      refine h_callVi (st := []) [.ref (X.2.2.2.1 (10 + 2)), .int 0] (m_X9_word_ (by decide) h_26) me_X9_word_ (g_recv cl7.1 rfl) tw_1150 tw_1152 tw_42 (hdd_of (by decide)) ⟨Nat.zero_le _, Nat.zero_le _⟩ rfl rfl (Nat.le_of_ble_eq_true rfl) dX9_item_160 ?_
      refine go_if_eq (tgt := 209) dX9_item_163 rfl (fun hc => ?_) (fun hc => ?_)
      · replace h := q_t h hc
        refine go_iconst kz_iconst_0 dX9_item_209 ?_
        exact h_zret rfl h dX9_item_210 rfl
      · replace h := q_f h hc
        refine go_aload_n rfl 0 rfl dX9_item_166 ?_
        refine go_iconst kz_iconst_0 dX9_item_167 ?_
        refine go_iconst kz_iconst_0 dX9_item_168 ?_
        refine go_bipush kz_bipush_6 dX9_item_169 ?_
        obtain ⟨r_27, h_28, h⟩ := q_b h
        refine h_callVi (st := []) [.int 0, .int 0, .int 6] (m_X9_number h_28) me_X9_number (g_recv cl7.1 rfl) tw_1140 tw_1142 tw_40 (hdd_of (by decide)) ⟨Nat.zero_le _, Nat.zero_le _⟩ rfl rfl (Nat.le_of_ble_eq_true rfl) dX9_item_171 ?_
        refine go_if_eq (tgt := 209) dX9_item_174 rfl (fun hc => ?_) (fun hc => ?_)
        · replace h := q_t h hc
          refine go_iconst kz_iconst_0 dX9_item_209 ?_
          exact h_zret rfl h dX9_item_210 rfl
        · replace h := q_f h hc
          refine go_aload_n rfl 0 rfl dX9_item_177 ?_
          refine go_iconst kz_iconst_1 dX9_item_178 ?_
          refine go_iconst kz_iconst_0 dX9_item_179 ?_
          refine go_bipush kz_bipush_9 dX9_item_180 ?_
          obtain ⟨r_29, h_30, h⟩ := q_b h
          refine h_callVi (st := []) [.int 1, .int 0, .int 9] (m_X9_number h_30) me_X9_number (g_recv cl7.1 rfl) tw_1140 tw_1142 tw_40 (hdd_of (by decide)) ⟨Nat.zero_le _, Nat.zero_le _⟩ rfl rfl (Nat.le_of_ble_eq_true rfl) dX9_item_182 ?_
          refine go_if_eq (tgt := 209) dX9_item_185 rfl (fun hc => ?_) (fun hc => ?_)
          · replace h := q_t h hc
            refine go_iconst kz_iconst_0 dX9_item_209 ?_
            exact h_zret rfl h dX9_item_210 rfl
          · replace h := q_f h hc
            refine go_aload_n rfl 0 rfl dX9_item_188 ?_
            refine go_iconst kz_iconst_2 dX9_item_189 ?_
            refine go_iconst kz_iconst_0 dX9_item_190 ?_
            refine go_bipush kz_bipush_20 dX9_item_191 ?_
            obtain ⟨r_31, h_32, h⟩ := q_b h
            refine h_callVi (st := []) [.int 2, .int 0, .int 20] (m_X9_number h_32) me_X9_number (g_recv cl7.1 rfl) tw_1140 tw_1142 tw_40 (hdd_of (by decide)) ⟨Nat.zero_le _, Nat.zero_le _⟩ rfl rfl (Nat.le_of_ble_eq_true rfl) dX9_item_193 ?_
            refine go_if_eq (tgt := 209) dX9_item_196 rfl (fun hc => ?_) (fun hc => ?_)
            · replace h := q_t h hc
              refine go_iconst kz_iconst_0 dX9_item_209 ?_
              exact h_zret rfl h dX9_item_210 rfl
            · replace h := q_f h hc
              refine go_aload_n rfl 0 rfl dX9_item_199 ?_
              refine go_iconst kz_iconst_3 dX9_item_200 ?_
              refine go_iconst kz_iconst_1 dX9_item_201 ?_
              refine go_iconst kz_iconst_4 dX9_item_202 ?_
              obtain ⟨r_33, h_34, h⟩ := q_b h
              refine h_callVi (st := []) [.int 3, .int 1, .int 4] (m_X9_number h_34) me_X9_number (g_recv cl7.1 rfl) tw_1140 tw_1142 tw_40 (hdd_of (by decide)) ⟨Nat.zero_le _, Nat.zero_le _⟩ rfl rfl (Nat.le_of_ble_eq_true rfl) dX9_item_203 ?_
              refine go_if_ne (tgt := 211) dX9_item_206 rfl (fun hc => ?_) (fun hc => ?_)
              · replace h := q_f h hc
                refine go_aload_n rfl 0 rfl dX9_item_211 ?_
                refine h_geti 14 cl7 rfl (by decide) tw_926 rfl dX9_item_212 ?_
                refine go_istore_n (l' := [(1, .int (r_33.2.1 53 14)), (0, .ref (ad 53))]) dX9_item_215 rfl (by decide) rfl ?_
                refine go_aload_n rfl 1 rfl dX9_item_216 ?_
                refine go_iconst kz_iconst_4 dX9_item_217 ?_
                refine go_iconst kz_iconst_0 dX9_item_218 ?_
                refine go_bipush kz_bipush_48 dX9_item_219 ?_
                obtain ⟨r_35, h_36, h⟩ := q_b h
                refine h_callVi (st := []) [.int 4, .int 0, .int 48] (m_X9_number h_36) me_X9_number (g_recv cl7.1 rfl) tw_1140 tw_1142 tw_40 (hdd_of (by decide)) ⟨Nat.zero_le _, Nat.zero_le _⟩ rfl rfl (Nat.le_of_ble_eq_true rfl) dX9_item_221 ?_
                refine go_if_eq (tgt := 245) dX9_item_224 rfl (fun hc => ?_) (fun hc => ?_)
                · replace h := q_t h hc
                  refine go_iconst kz_iconst_0 dX9_item_245 ?_
                  exact h_zret rfl h dX9_item_246 rfl
                · replace h := q_f h hc
                  refine go_aload_n rfl 1 rfl dX9_item_227 ?_
                  refine go_aload_n rfl 1 rfl dX9_item_228 ?_
                  refine go_aload_n rfl 1 rfl dX9_item_229 ?_
                  refine h_getr 15 cl7 rfl (by decide) tw_927 65 rfl dX9_item_230 ?_
                  refine go_iconst kz_iconst_4 dX9_item_233 ?_
                  obtain ⟨hg_37, h⟩ := q_g h
                  refine h_iald 5 rfl hg_37 dX9_item_234 ?_
                  obtain ⟨r_38, h_39, h⟩ := q_b h
                  refine h_callVi (st := [.ref (ad 53)]) [.int (r_35.2.1 65 (4 : Int32).toNatClampNeg)] (m_X9_isOpen h_39) me_X9_isOpen (g_recv cl7.1 rfl) tw_1062 tw_1064 tw_28 (hdd_of (by decide)) ⟨Nat.zero_le _, Nat.zero_le _⟩ rfl rfl (Nat.le_of_ble_eq_true rfl) dX9_item_235 ?_
                  refine go_iload_n rfl 0 rfl dX9_item_238 ?_
                  obtain ⟨r_40, h_41, h⟩ := q_b h
                  refine h_callVi (st := []) [.int r_38.1, .int (r_33.2.1 53 14)] (m_X9_may h_41) me_X9_may (g_recv cl7.1 rfl) tw_1144 tw_1146 tw_41 (hdd_of (by decide)) ⟨Nat.zero_le _, Nat.zero_le _⟩ rfl rfl (Nat.le_of_ble_eq_true rfl) dX9_item_239 ?_
                  refine go_if_ne (tgt := 247) dX9_item_242 rfl (fun hc => ?_) (fun hc => ?_)
                  · replace h := q_f h hc
                    refine go_aload_n rfl 1 rfl dX9_item_247 ?_
                    refine go_aload_n rfl 1 rfl dX9_item_248 ?_
                    refine h_getr 15 cl7 rfl (by decide) tw_927 65 rfl dX9_item_249 ?_
                    refine go_iconst kz_iconst_0 dX9_item_252 ?_
                    obtain ⟨hg_42, h⟩ := q_g h
                    refine h_iald 5 rfl hg_42 dX9_item_253 ?_
                    refine go_aload_n rfl 1 rfl dX9_item_254 ?_
                    refine h_getr 15 cl7 rfl (by decide) tw_927 65 rfl dX9_item_255 ?_
                    refine go_iconst kz_iconst_1 dX9_item_258 ?_
                    obtain ⟨hg_43, h⟩ := q_g h
                    refine h_iald 5 rfl hg_43 dX9_item_259 ?_
                    refine go_aload_n rfl 1 rfl dX9_item_260 ?_
                    refine h_getr 15 cl7 rfl (by decide) tw_927 65 rfl dX9_item_261 ?_
                    refine go_iconst kz_iconst_2 dX9_item_264 ?_
                    obtain ⟨hg_44, h⟩ := q_g h
                    refine h_iald 5 rfl hg_44 dX9_item_265 ?_
                    refine go_aload_n rfl 1 rfl dX9_item_266 ?_
                    refine h_getr 15 cl7 rfl (by decide) tw_927 65 rfl dX9_item_267 ?_
                    refine go_iconst kz_iconst_3 dX9_item_270 ?_
                    obtain ⟨hg_45, h⟩ := q_g h
                    refine h_iald 5 rfl hg_45 dX9_item_271 ?_
                    refine go_aload_n rfl 1 rfl dX9_item_272 ?_
                    refine h_getr 15 cl7 rfl (by decide) tw_927 65 rfl dX9_item_273 ?_
                    refine go_iconst kz_iconst_4 dX9_item_276 ?_
                    obtain ⟨hg_46, h⟩ := q_g h
                    refine h_iald 5 rfl hg_46 dX9_item_277 ?_
                    obtain ⟨r_47, h_48, h⟩ := q_b h
                    refine h_callVi (st := []) [.int (r_40.2.1 65 (0 : Int32).toNatClampNeg), .int (r_40.2.1 65 (1 : Int32).toNatClampNeg), .int (r_40.2.1 65 (2 : Int32).toNatClampNeg), .int (r_40.2.1 65 (3 : Int32).toNatClampNeg), .int (r_40.2.1 65 (4 : Int32).toNatClampNeg)] (m_X9_newOne h_48) me_X9_newOne (g_recv cl7.1 rfl) tw_1069 tw_1071 tw_29 (hdd_of (by decide)) ⟨Nat.zero_le _, Nat.zero_le _⟩ rfl rfl (Nat.le_of_ble_eq_true rfl) dX9_item_278 ?_
                    refine go_pop rfl dX9_item_281 ?_
                    refine go_iconst kz_iconst_1 dX9_item_282 ?_
                    exact h_zret rfl h dX9_item_283 rfl
                  · replace h := q_t h hc
                    refine go_iconst kz_iconst_0 dX9_item_245 ?_
                    exact h_zret rfl h dX9_item_246 rfl
              · replace h := q_t h hc
                refine go_iconst kz_iconst_0 dX9_item_209 ?_
                exact h_zret rfl h dX9_item_210 rfl
    · replace h := q_f h hc
      refine go_iconst kz_iconst_1 dX9_item_155 ?_
      refine go_goto (tgt := 160) dX9_item_156 rfl ?_
      obtain ⟨r_49, h_50, h⟩ := q_b h
      refine h_callVi (st := []) [.ref (X.2.2.2.1 (10 + 2)), .int 1] (m_X9_word_ (by decide) h_50) me_X9_word_ (g_recv cl7.1 rfl) tw_1150 tw_1152 tw_42 (hdd_of (by decide)) ⟨Nat.zero_le _, Nat.zero_le _⟩ rfl rfl (Nat.le_of_ble_eq_true rfl) dX9_item_160 ?_
      refine go_if_eq (tgt := 209) dX9_item_163 rfl (fun hc => ?_) (fun hc => ?_)
      · replace h := q_t h hc
        refine go_iconst kz_iconst_0 dX9_item_209 ?_
        exact h_zret rfl h dX9_item_210 rfl
      · replace h := q_f h hc
        refine go_aload_n rfl 0 rfl dX9_item_166 ?_
        refine go_iconst kz_iconst_0 dX9_item_167 ?_
        refine go_iconst kz_iconst_0 dX9_item_168 ?_
        refine go_bipush kz_bipush_6 dX9_item_169 ?_
        obtain ⟨r_51, h_52, h⟩ := q_b h
        refine h_callVi (st := []) [.int 0, .int 0, .int 6] (m_X9_number h_52) me_X9_number (g_recv cl7.1 rfl) tw_1140 tw_1142 tw_40 (hdd_of (by decide)) ⟨Nat.zero_le _, Nat.zero_le _⟩ rfl rfl (Nat.le_of_ble_eq_true rfl) dX9_item_171 ?_
        refine go_if_eq (tgt := 209) dX9_item_174 rfl (fun hc => ?_) (fun hc => ?_)
        · replace h := q_t h hc
          refine go_iconst kz_iconst_0 dX9_item_209 ?_
          exact h_zret rfl h dX9_item_210 rfl
        · replace h := q_f h hc
          refine go_aload_n rfl 0 rfl dX9_item_177 ?_
          refine go_iconst kz_iconst_1 dX9_item_178 ?_
          refine go_iconst kz_iconst_0 dX9_item_179 ?_
          refine go_bipush kz_bipush_9 dX9_item_180 ?_
          obtain ⟨r_53, h_54, h⟩ := q_b h
          refine h_callVi (st := []) [.int 1, .int 0, .int 9] (m_X9_number h_54) me_X9_number (g_recv cl7.1 rfl) tw_1140 tw_1142 tw_40 (hdd_of (by decide)) ⟨Nat.zero_le _, Nat.zero_le _⟩ rfl rfl (Nat.le_of_ble_eq_true rfl) dX9_item_182 ?_
          refine go_if_eq (tgt := 209) dX9_item_185 rfl (fun hc => ?_) (fun hc => ?_)
          · replace h := q_t h hc
            refine go_iconst kz_iconst_0 dX9_item_209 ?_
            exact h_zret rfl h dX9_item_210 rfl
          · replace h := q_f h hc
            refine go_aload_n rfl 0 rfl dX9_item_188 ?_
            refine go_iconst kz_iconst_2 dX9_item_189 ?_
            refine go_iconst kz_iconst_0 dX9_item_190 ?_
            refine go_bipush kz_bipush_20 dX9_item_191 ?_
            obtain ⟨r_55, h_56, h⟩ := q_b h
            refine h_callVi (st := []) [.int 2, .int 0, .int 20] (m_X9_number h_56) me_X9_number (g_recv cl7.1 rfl) tw_1140 tw_1142 tw_40 (hdd_of (by decide)) ⟨Nat.zero_le _, Nat.zero_le _⟩ rfl rfl (Nat.le_of_ble_eq_true rfl) dX9_item_193 ?_
            refine go_if_eq (tgt := 209) dX9_item_196 rfl (fun hc => ?_) (fun hc => ?_)
            · replace h := q_t h hc
              refine go_iconst kz_iconst_0 dX9_item_209 ?_
              exact h_zret rfl h dX9_item_210 rfl
            · replace h := q_f h hc
              refine go_aload_n rfl 0 rfl dX9_item_199 ?_
              refine go_iconst kz_iconst_3 dX9_item_200 ?_
              refine go_iconst kz_iconst_1 dX9_item_201 ?_
              refine go_iconst kz_iconst_4 dX9_item_202 ?_
              obtain ⟨r_57, h_58, h⟩ := q_b h
              refine h_callVi (st := []) [.int 3, .int 1, .int 4] (m_X9_number h_58) me_X9_number (g_recv cl7.1 rfl) tw_1140 tw_1142 tw_40 (hdd_of (by decide)) ⟨Nat.zero_le _, Nat.zero_le _⟩ rfl rfl (Nat.le_of_ble_eq_true rfl) dX9_item_203 ?_
              refine go_if_ne (tgt := 211) dX9_item_206 rfl (fun hc => ?_) (fun hc => ?_)
              · replace h := q_f h hc
                refine go_aload_n rfl 0 rfl dX9_item_211 ?_
                refine h_geti 14 cl7 rfl (by decide) tw_926 rfl dX9_item_212 ?_
                refine go_istore_n (l' := [(1, .int (r_57.2.1 53 14)), (0, .ref (ad 53))]) dX9_item_215 rfl (by decide) rfl ?_
                refine go_aload_n rfl 1 rfl dX9_item_216 ?_
                refine go_iconst kz_iconst_4 dX9_item_217 ?_
                refine go_iconst kz_iconst_0 dX9_item_218 ?_
                refine go_bipush kz_bipush_48 dX9_item_219 ?_
                obtain ⟨r_59, h_60, h⟩ := q_b h
                refine h_callVi (st := []) [.int 4, .int 0, .int 48] (m_X9_number h_60) me_X9_number (g_recv cl7.1 rfl) tw_1140 tw_1142 tw_40 (hdd_of (by decide)) ⟨Nat.zero_le _, Nat.zero_le _⟩ rfl rfl (Nat.le_of_ble_eq_true rfl) dX9_item_221 ?_
                refine go_if_eq (tgt := 245) dX9_item_224 rfl (fun hc => ?_) (fun hc => ?_)
                · replace h := q_t h hc
                  refine go_iconst kz_iconst_0 dX9_item_245 ?_
                  exact h_zret rfl h dX9_item_246 rfl
                · replace h := q_f h hc
                  refine go_aload_n rfl 1 rfl dX9_item_227 ?_
                  refine go_aload_n rfl 1 rfl dX9_item_228 ?_
                  refine go_aload_n rfl 1 rfl dX9_item_229 ?_
                  refine h_getr 15 cl7 rfl (by decide) tw_927 65 rfl dX9_item_230 ?_
                  refine go_iconst kz_iconst_4 dX9_item_233 ?_
                  obtain ⟨hg_61, h⟩ := q_g h
                  refine h_iald 5 rfl hg_61 dX9_item_234 ?_
                  obtain ⟨r_62, h_63, h⟩ := q_b h
                  refine h_callVi (st := [.ref (ad 53)]) [.int (r_59.2.1 65 (4 : Int32).toNatClampNeg)] (m_X9_isOpen h_63) me_X9_isOpen (g_recv cl7.1 rfl) tw_1062 tw_1064 tw_28 (hdd_of (by decide)) ⟨Nat.zero_le _, Nat.zero_le _⟩ rfl rfl (Nat.le_of_ble_eq_true rfl) dX9_item_235 ?_
                  refine go_iload_n rfl 0 rfl dX9_item_238 ?_
                  obtain ⟨r_64, h_65, h⟩ := q_b h
                  refine h_callVi (st := []) [.int r_62.1, .int (r_57.2.1 53 14)] (m_X9_may h_65) me_X9_may (g_recv cl7.1 rfl) tw_1144 tw_1146 tw_41 (hdd_of (by decide)) ⟨Nat.zero_le _, Nat.zero_le _⟩ rfl rfl (Nat.le_of_ble_eq_true rfl) dX9_item_239 ?_
                  refine go_if_ne (tgt := 247) dX9_item_242 rfl (fun hc => ?_) (fun hc => ?_)
                  · replace h := q_f h hc
                    refine go_aload_n rfl 1 rfl dX9_item_247 ?_
                    refine go_aload_n rfl 1 rfl dX9_item_248 ?_
                    refine h_getr 15 cl7 rfl (by decide) tw_927 65 rfl dX9_item_249 ?_
                    refine go_iconst kz_iconst_0 dX9_item_252 ?_
                    obtain ⟨hg_66, h⟩ := q_g h
                    refine h_iald 5 rfl hg_66 dX9_item_253 ?_
                    refine go_aload_n rfl 1 rfl dX9_item_254 ?_
                    refine h_getr 15 cl7 rfl (by decide) tw_927 65 rfl dX9_item_255 ?_
                    refine go_iconst kz_iconst_1 dX9_item_258 ?_
                    obtain ⟨hg_67, h⟩ := q_g h
                    refine h_iald 5 rfl hg_67 dX9_item_259 ?_
                    refine go_aload_n rfl 1 rfl dX9_item_260 ?_
                    refine h_getr 15 cl7 rfl (by decide) tw_927 65 rfl dX9_item_261 ?_
                    refine go_iconst kz_iconst_2 dX9_item_264 ?_
                    obtain ⟨hg_68, h⟩ := q_g h
                    refine h_iald 5 rfl hg_68 dX9_item_265 ?_
                    refine go_aload_n rfl 1 rfl dX9_item_266 ?_
                    refine h_getr 15 cl7 rfl (by decide) tw_927 65 rfl dX9_item_267 ?_
                    refine go_iconst kz_iconst_3 dX9_item_270 ?_
                    obtain ⟨hg_69, h⟩ := q_g h
                    refine h_iald 5 rfl hg_69 dX9_item_271 ?_
                    refine go_aload_n rfl 1 rfl dX9_item_272 ?_
                    refine h_getr 15 cl7 rfl (by decide) tw_927 65 rfl dX9_item_273 ?_
                    refine go_iconst kz_iconst_4 dX9_item_276 ?_
                    obtain ⟨hg_70, h⟩ := q_g h
                    refine h_iald 5 rfl hg_70 dX9_item_277 ?_
                    obtain ⟨r_71, h_72, h⟩ := q_b h
                    refine h_callVi (st := []) [.int (r_64.2.1 65 (0 : Int32).toNatClampNeg), .int (r_64.2.1 65 (1 : Int32).toNatClampNeg), .int (r_64.2.1 65 (2 : Int32).toNatClampNeg), .int (r_64.2.1 65 (3 : Int32).toNatClampNeg), .int (r_64.2.1 65 (4 : Int32).toNatClampNeg)] (m_X9_newOne h_72) me_X9_newOne (g_recv cl7.1 rfl) tw_1069 tw_1071 tw_29 (hdd_of (by decide)) ⟨Nat.zero_le _, Nat.zero_le _⟩ rfl rfl (Nat.le_of_ble_eq_true rfl) dX9_item_278 ?_
                    refine go_pop rfl dX9_item_281 ?_
                    refine go_iconst kz_iconst_1 dX9_item_282 ?_
                    exact h_zret rfl h dX9_item_283 rfl
                  · replace h := q_t h hc
                    refine go_iconst kz_iconst_0 dX9_item_245 ?_
                    exact h_zret rfl h dX9_item_246 rfl
              · replace h := q_t h hc
                refine go_iconst kz_iconst_0 dX9_item_209 ?_
                exact h_zret rfl h dX9_item_210 rfl
  replace h := q_f h hk_24
  by_cases hk_73 : r_1.1 = 115
  · replace h := q_t h hk_73
    refine h_lkT (tgt := 284) (off := 280) hk_73 dX9_item_4 (by decide) rfl rfl ?_
    refine go_aload_n rfl 0 rfl dX9_item_284 ?_
    refine go_dup rfl dX9_item_285 ?_
    refine h_geti 14 cl7 rfl (by decide) tw_926 rfl dX9_item_286 ?_
    refine go_iconst kz_iconst_1 dX9_item_289 ?_
    refine go_iadd dX9_item_290 ?_
    obtain ⟨ν_74, e_75, h⟩ := q_l h
    refine h_puti 14 cl7 rfl (by decide) tw_926 rfl rfl e_75 dX9_item_291 ?_
    refine go_aload_n rfl 0 rfl dX9_item_294 ?_
    obtain ⟨r_76, h_77, h⟩ := q_b h
    refine h_callVi (st := []) [] (m_X9_sign h_77) me_X9_sign (g_recv cl7.1 rfl) tw_1125 tw_1127 tw_37 (hdd_of (by decide)) ⟨Nat.zero_le _, Nat.zero_le _⟩ rfl rfl (Nat.le_of_ble_eq_true rfl) dX9_item_295 ?_
    refine go_bipush kz_bipush_99 dX9_item_298 ?_
    refine go_icmp_ne (tgt := 339) dX9_item_300 rfl (fun hc => ?_) (fun hc => ?_)
    · replace h := q_f h hc
      refine go_aload_n rfl 0 rfl dX9_item_339 ?_
      refine h_ldcSRX9185 dX9_item_340 ?_
      obtain ⟨r_78, h_79, h⟩ := q_b h
      refine h_callVi (st := []) [.ref (X.2.2.2.1 (10 + 6))] (m_X9_word (by decide) h_79) me_X9_word (g_recv cl7.1 rfl) tw_1130 tw_1132 tw_38 (hdd_of (by decide)) ⟨Nat.zero_le _, Nat.zero_le _⟩ rfl rfl (Nat.le_of_ble_eq_true rfl) dX9_item_342 ?_
      refine go_if_eq (tgt := 358) dX9_item_345 rfl (fun hc => ?_) (fun hc => ?_)
      · replace h := q_t h hc
        refine go_iconst kz_iconst_0 dX9_item_358 ?_
        exact h_zret rfl h dX9_item_359 rfl
      · replace h := q_f h hc
        refine go_aload_n rfl 0 rfl dX9_item_348 ?_
        refine go_iconst kz_iconst_0 dX9_item_349 ?_
        refine go_iconst kz_iconst_1 dX9_item_350 ?_
        refine go_iconst kz_iconst_4 dX9_item_351 ?_
        obtain ⟨r_80, h_81, h⟩ := q_b h
        refine h_callVi (st := []) [.int 0, .int 1, .int 4] (m_X9_number h_81) me_X9_number (g_recv cl7.1 rfl) tw_1140 tw_1142 tw_40 (hdd_of (by decide)) ⟨Nat.zero_le _, Nat.zero_le _⟩ rfl rfl (Nat.le_of_ble_eq_true rfl) dX9_item_352 ?_
        refine go_if_ne (tgt := 360) dX9_item_355 rfl (fun hc => ?_) (fun hc => ?_)
        · replace h := q_f h hc
          refine go_aload_n rfl 0 rfl dX9_item_360 ?_
          refine h_getr 8 cl7 rfl (by decide) tw_920 61 rfl dX9_item_361 ?_
          refine go_iconst kz_iconst_0 dX9_item_364 ?_
          refine go_aload_n rfl 0 rfl dX9_item_365 ?_
          refine h_getr 15 cl7 rfl (by decide) tw_927 65 rfl dX9_item_366 ?_
          refine go_iconst kz_iconst_0 dX9_item_369 ?_
          obtain ⟨hg_82, h⟩ := q_g h
          refine h_iald 5 rfl hg_82 dX9_item_370 ?_
          obtain ⟨hg_83, h⟩ := q_g h
          obtain ⟨ν_84, e_85, h⟩ := q_l h
          refine h_iast 4 rfl hg_83 e_85 dX9_item_371 ?_
          refine go_iconst kz_iconst_1 dX9_item_372 ?_
          exact h_zret rfl h dX9_item_373 rfl
        · replace h := q_t h hc
          refine go_iconst kz_iconst_0 dX9_item_358 ?_
          exact h_zret rfl h dX9_item_359 rfl
    · replace h := q_t h hc
      refine go_aload_n rfl 0 rfl dX9_item_303 ?_
      refine h_ldcSRX9183 dX9_item_304 ?_
      obtain ⟨r_86, h_87, h⟩ := q_b h
      refine h_callVi (st := []) [.ref (X.2.2.2.1 (10 + 5))] (m_X9_word (by decide) h_87) me_X9_word (g_recv cl7.1 rfl) tw_1130 tw_1132 tw_38 (hdd_of (by decide)) ⟨Nat.zero_le _, Nat.zero_le _⟩ rfl rfl (Nat.le_of_ble_eq_true rfl) dX9_item_306 ?_
      refine go_if_eq (tgt := 323) dX9_item_309 rfl (fun hc => ?_) (fun hc => ?_)
      · replace h := q_t h hc
        refine go_iconst kz_iconst_0 dX9_item_323 ?_
        exact h_zret rfl h dX9_item_324 rfl
      · replace h := q_f h hc
        refine go_aload_n rfl 0 rfl dX9_item_312 ?_
        refine go_iconst kz_iconst_0 dX9_item_313 ?_
        refine go_iconst kz_iconst_0 dX9_item_314 ?_
        refine go_bipush kz_bipush_40 dX9_item_315 ?_
        obtain ⟨r_88, h_89, h⟩ := q_b h
        refine h_callVi (st := []) [.int 0, .int 0, .int 40] (m_X9_number h_89) me_X9_number (g_recv cl7.1 rfl) tw_1140 tw_1142 tw_40 (hdd_of (by decide)) ⟨Nat.zero_le _, Nat.zero_le _⟩ rfl rfl (Nat.le_of_ble_eq_true rfl) dX9_item_317 ?_
        refine go_if_ne (tgt := 325) dX9_item_320 rfl (fun hc => ?_) (fun hc => ?_)
        · replace h := q_f h hc
          refine go_aload_n rfl 0 rfl dX9_item_325 ?_
          refine h_getr 8 cl7 rfl (by decide) tw_920 61 rfl dX9_item_326 ?_
          refine go_iconst kz_iconst_1 dX9_item_329 ?_
          refine go_aload_n rfl 0 rfl dX9_item_330 ?_
          refine h_getr 15 cl7 rfl (by decide) tw_927 65 rfl dX9_item_331 ?_
          refine go_iconst kz_iconst_0 dX9_item_334 ?_
          obtain ⟨hg_90, h⟩ := q_g h
          refine h_iald 5 rfl hg_90 dX9_item_335 ?_
          obtain ⟨hg_91, h⟩ := q_g h
          obtain ⟨ν_92, e_93, h⟩ := q_l h
          refine h_iast 4 rfl hg_91 e_93 dX9_item_336 ?_
          refine go_iconst kz_iconst_1 dX9_item_337 ?_
          exact h_zret rfl h dX9_item_338 rfl
        · replace h := q_t h hc
          refine go_iconst kz_iconst_0 dX9_item_323 ?_
          exact h_zret rfl h dX9_item_324 rfl
  replace h := q_f h hk_73
  refine go_lookup (tgt := 374) (off := 370) dX9_item_4 (by decide) ((lv_osw hk_3 (by decide)).trans ((lv_osw hk_16 (by decide)).trans ((lv_osw hk_24 (by decide)).trans ((lv_osw hk_73 (by decide)).trans rfl)))) rfl ?_
  refine go_iconst kz_iconst_0 dX9_item_374 ?_
  exact h_zret rfl h dX9_item_375 rfl
noncomputable def f_X9_judge_L90 (y1 : Int32) (k122 : Int32 → gN → Option (Int32 × gN)) : Nat → Int32 → Int32 → gN → Option (Int32 × gN)
  | 0, _, _, _ => none
  | n + 1, y5, y6, ν =>
    if y6 < 0 then
      k122 y5 ν
    else
      if inb y6 7 = true then
        (f_X9_toldAt y1 y6 ν).bind (fun r_13 =>
          if (ν.1 58 y6.toNatClampNeg) = r_13.1 then
            f_X9_judge_L90 y1 k122 n y5 (y6 + (-1)) r_13.2
          else
            f_X9_judge_L90 y1 k122 n y6 (y6 + (-1)) r_13.2)
      else none
noncomputable def f_X9_judge (x1 : Int32) (x2 : Int32) (x3 : Int32) (ν : gN) : Option (Int32 × gN) :=
  (f_X9_noRow x1 ν).bind (fun r_1 =>
    if 0 ≤ r_1.1 then
      if 0 ≤ x2 then
        if inb x1 8 = true then
          if x2 ≤ (r_1.2.1 63 x1.toNatClampNeg) then
            (f_X9_isTime x3 r_1.2).bind (fun r_4 =>
              if r_4.1 = 0 then
                (f_X9_no10 (-6) r_4.2).bind (fun r_6 =>
                  some (r_6.1, r_6.2))
              else
                if x2 ≤ (r_4.2.1 53 0) then
                  (f_X9_keep 72 r_4.2).bind (fun r_8 =>
                    (f_X9_goesOn x3 r_8).bind (fun r_10 =>
                      f_X9_judge_L90 x1 (fun z5_15 ν_16 =>
                        (f_X9_again 72 ν_16).bind (fun r_17 =>
                          some (z5_15, r_17))) FU (-1) (x2 - 1) r_10))
                else
                  (f_X9_no10 (-6) r_4.2).bind (fun r_19 =>
                    some (r_19.1, r_19.2)))
          else
            (f_X9_no10 (-5) r_1.2).bind (fun r_21 =>
              some (r_21.1, r_21.2))
        else none
      else
        (f_X9_no10 (-4) r_1.2).bind (fun r_23 =>
          some (r_23.1, r_23.2))
    else
      (f_X9_no10 r_1.1 r_1.2).bind (fun r_25 =>
        some (r_25.1, r_25.2)))
theorem me_X9_judge : g_me yX9_judge cX9_judge 7 ((Option.some .int)) 3 := ⟨tw_1319, tw_79, ⟨by decide +kernel, by decide +kernel, by decide +kernel⟩, by decide⟩
set_option maxRecDepth 20000 in
set_option maxHeartbeats 2000000 in
theorem m_X9_judge_L90 {X : gX} {ad : Nat → Nat} {y1 : Int32} {k122 : Int32 → gN → Option (Int32 × gN)}  : ∀ (n : Nat) (y5 : Int32) (y6 : Int32) (ν : gN) (r : Int32 × gN), f_X9_judge_L90 y1 k122 n y5 y6 ν = some r → (∀ (z5 : Int32) (ν1 : gN), k122 z5 ν1 = some r → h_go X ad RX9 "judge" cX9_judge 7 ((Option.some .int)) 10 (some (.int r.1), r.2) 122 [(0, .ref (ad 53)), (5, .int z5)] [] ν1) → h_go X ad RX9 "judge" cX9_judge 7 ((Option.some .int)) 10 (some (.int r.1), r.2) 90 [(0, .ref (ad 53)), (1, .int y1), (5, .int y5), (6, .int y6)] [] ν := by
  intro n
  induction n with
  | zero => intro y5 y6 ν r h hk122; rw [f_X9_judge_L90] at h; exact q_n h
  | succ n ih =>
    intro y5 y6 ν r h hk122
    rw [f_X9_judge_L90] at h
    refine go_iload 3 rfl dX9_judge_90 ?_
    refine go_if_lt (tgt := 122) dX9_judge_92 rfl (fun hc => ?_) (fun hc => ?_)
    · replace h := q_t h hc
      refine go_sub (l' := [(0, .ref (ad 53)), (5, .int y5)]) [0, 2] rfl ?_
      exact hk122 _ _ h
    · replace h := q_f h hc
      refine go_aload_n rfl 0 rfl dX9_judge_95 ?_
      refine h_getr 5 cl7 rfl (by decide) tw_917 58 rfl dX9_judge_96 ?_
      refine go_iload 3 rfl dX9_judge_99 ?_
      obtain ⟨hg_12, h⟩ := q_g h
      refine h_iald 7 rfl hg_12 dX9_judge_101 ?_
      refine go_aload_n rfl 0 rfl dX9_judge_102 ?_
      refine go_iload_n rfl 1 rfl dX9_judge_103 ?_
      refine go_iload 3 rfl dX9_judge_104 ?_
      obtain ⟨r_13, h_14, h⟩ := q_b h
      refine h_callVi (st := [.int (ν.1 58 y6.toNatClampNeg)]) [.int y1, .int y6] (m_X9_toldAt h_14) me_X9_toldAt (g_recv cl7.1 rfl) tw_1263 tw_1265 tw_58 (hdd_of (by decide)) ⟨Nat.zero_le _, Nat.zero_le _⟩ rfl rfl (Nat.le_of_ble_eq_true rfl) dX9_judge_106 ?_
      refine go_icmp_eq (tgt := 116) dX9_judge_109 rfl (fun hc => ?_) (fun hc => ?_)
      · replace h := q_t h hc
        refine h_iinc (l' := [(6, .int (y6 + (-1))), (0, .ref (ad 53)), (1, .int y1), (5, .int y5)]) dX9_judge_116 3 rfl kz_iconst_m1 (by decide) rfl ?_
        refine go_goto (tgt := 90) dX9_judge_119 rfl ?_
        refine go_sub (l' := [(0, .ref (ad 53)), (1, .int y1), (5, .int y5), (6, .int (y6 + (-1)))]) [1, 2, 3, 0] rfl ?_
        exact ih _ _ _ _ h hk122
      · replace h := q_f h hc
        refine go_iload 3 rfl dX9_judge_112 ?_
        refine go_istore (l' := [(5, .int y6), (0, .ref (ad 53)), (1, .int y1), (6, .int y6)]) dX9_judge_114 (by decide) rfl ?_
        refine h_iinc (l' := [(6, .int (y6 + (-1))), (5, .int y6), (0, .ref (ad 53)), (1, .int y1)]) dX9_judge_116 3 rfl kz_iconst_m1 (by decide) rfl ?_
        refine go_goto (tgt := 90) dX9_judge_119 rfl ?_
        refine go_sub (l' := [(0, .ref (ad 53)), (1, .int y1), (5, .int y6), (6, .int (y6 + (-1)))]) [2, 3, 1, 0] rfl ?_
        exact ih _ _ _ _ h hk122
set_option maxRecDepth 20000 in
set_option maxHeartbeats 2000000 in
theorem m_X9_judge {X : gX} {ad : Nat → Nat} {x1 : Int32} {x2 : Int32} {x3 : Int32} {ν : gN} {r : Int32 × gN}  (h : f_X9_judge x1 x2 x3 ν = some r) : h_ct X ad yX9_judge cX9_judge 7 ((Option.some .int)) 10 [.ref (ad 53), .int x1, .int x2, .int x3] ν (some (.int r.1), r.2) := by
  rw [f_X9_judge] at h
  refine h_ct_of (l := [(0, .ref (ad 53)), (1, .int x1), (2, .int x2), (3, .int x3)]) (by decide) (Nat.le_of_ble_eq_true rfl) rfl ?_
  refine go_aload_n rfl 0 rfl dX9_judge_0 ?_
  refine go_iload_n rfl 1 rfl dX9_judge_1 ?_
  obtain ⟨r_1, h_2, h⟩ := q_b h
  refine h_callVi (st := []) [.int x1] (m_X9_noRow h_2) me_X9_noRow (g_recv cl7.1 rfl) tw_1016 tw_1018 tw_24 (hdd_of (by decide)) ⟨Nat.zero_le _, Nat.zero_le _⟩ rfl rfl (Nat.le_of_ble_eq_true rfl) dX9_judge_2 ?_
  refine go_istore (l' := [(4, .int r_1.1), (0, .ref (ad 53)), (1, .int x1), (2, .int x2), (3, .int x3)]) dX9_judge_5 (by decide) rfl ?_
  refine go_iload 0 rfl dX9_judge_7 ?_
  refine go_if_ge (tgt := 19) dX9_judge_9 rfl (fun hc => ?_) (fun hc => ?_)
  · replace h := q_t h hc
    refine go_iload_n rfl 3 rfl dX9_judge_19 ?_
    refine go_if_ge (tgt := 30) dX9_judge_20 rfl (fun hc => ?_) (fun hc => ?_)
    · replace h := q_t h hc
      refine go_iload_n rfl 3 rfl dX9_judge_30 ?_
      refine go_aload_n rfl 1 rfl dX9_judge_31 ?_
      refine h_getr 11 cl7 rfl (by decide) tw_923 63 rfl dX9_judge_32 ?_
      refine go_iload_n rfl 2 rfl dX9_judge_35 ?_
      obtain ⟨hg_3, h⟩ := q_g h
      refine h_iald 8 rfl hg_3 dX9_judge_36 ?_
      refine go_icmp_le (tgt := 47) dX9_judge_37 rfl (fun hc => ?_) (fun hc => ?_)
      · replace h := q_t h hc
        refine go_iload_n rfl 4 rfl dX9_judge_47 ?_
        obtain ⟨r_4, h_5, h⟩ := q_b h
        refine h_callSi (st := []) [.int x3] (m_X9_isTime h_5) me_X9_isTime tw_1204 tw_1205 (hdd_of (by decide)) ⟨Nat.zero_le _, Nat.zero_le _⟩ rfl rfl (Nat.le_of_ble_eq_true rfl) dX9_judge_48 ?_
        refine go_if_eq (tgt := 62) dX9_judge_51 rfl (fun hc => ?_) (fun hc => ?_)
        · replace h := q_t h hc
          refine go_aload_n rfl 1 rfl dX9_judge_62 ?_
          refine go_bipush kz_bipush_m6 dX9_judge_63 ?_
          obtain ⟨r_6, h_7, h⟩ := q_b h
          refine h_callVi (st := []) [.int (-6)] (m_X9_no10 h_7) me_X9_no10 (g_recv cl7.1 rfl) tw_1235 tw_1237 tw_56 (hdd_of (by decide)) ⟨Nat.zero_le _, Nat.zero_le _⟩ rfl rfl (Nat.le_of_ble_eq_true rfl) dX9_judge_65 ?_
          exact h_iret h dX9_judge_68 rfl
        · replace h := q_f h hc
          refine go_iload_n rfl 3 rfl dX9_judge_54 ?_
          refine go_aload_n rfl 1 rfl dX9_judge_55 ?_
          refine h_geti 0 cl7 rfl (by decide) tw_912 rfl dX9_judge_56 ?_
          refine go_icmp_le (tgt := 69) dX9_judge_59 rfl (fun hc => ?_) (fun hc => ?_)
          · replace h := q_t h hc
            refine go_aload_n rfl 1 rfl dX9_judge_69 ?_
            refine go_aload_n rfl 1 rfl dX9_judge_70 ?_
            refine h_getr 27 cl7 rfl (by decide) tw_939 72 rfl dX9_judge_71 ?_
            obtain ⟨r_8, h_9, h⟩ := q_b h
            refine h_callVv (st := []) [.ref (ad 72)] (m_X9_keep rfl h_9) me_X9_keep (g_recv cl7.1 rfl) tw_1117 tw_1119 tw_35 (hdd_of (by decide)) ⟨Nat.zero_le _, Nat.zero_le _⟩ rfl rfl (Nat.le_of_ble_eq_true rfl) dX9_judge_74 ?_
            refine go_aload_n rfl 1 rfl dX9_judge_77 ?_
            refine go_iload_n rfl 4 rfl dX9_judge_78 ?_
            obtain ⟨r_10, h_11, h⟩ := q_b h
            refine h_callVv (st := []) [.int x3] (m_X9_goesOn h_11) me_X9_goesOn (g_recv cl7.1 rfl) tw_1207 tw_1209 tw_51 (hdd_of (by decide)) ⟨Nat.zero_le _, Nat.zero_le _⟩ rfl rfl (Nat.le_of_ble_eq_true rfl) dX9_judge_79 ?_
            refine go_iconst kz_iconst_m1 dX9_judge_82 ?_
            refine go_istore (l' := [(5, .int (-1)), (4, .int r_1.1), (0, .ref (ad 53)), (1, .int x1), (2, .int x2), (3, .int x3)]) dX9_judge_83 (by decide) rfl ?_
            refine go_iload_n rfl 4 rfl dX9_judge_85 ?_
            refine go_iconst kz_iconst_1 dX9_judge_86 ?_
            refine go_isub dX9_judge_87 ?_
            refine go_istore (l' := [(6, .int (x2 - 1)), (5, .int (-1)), (4, .int r_1.1), (0, .ref (ad 53)), (1, .int x1), (2, .int x2), (3, .int x3)]) dX9_judge_88 (by decide) rfl ?_
            refine go_sub (l' := [(0, .ref (ad 53)), (1, .int x1), (5, .int (-1)), (6, .int (x2 - 1))]) [3, 4, 1, 0] rfl ?_
            refine m_X9_judge_L90  FU _ _ _ _ h (fun z5_15 ν_16 h => ?_)
            refine go_aload_n rfl 0 rfl dX9_judge_122 ?_
            refine go_aload_n rfl 0 rfl dX9_judge_123 ?_
            refine h_getr 27 cl7 rfl (by decide) tw_939 72 rfl dX9_judge_124 ?_
            obtain ⟨r_17, h_18, h⟩ := q_b h
            refine h_callVv (st := []) [.ref (ad 72)] (m_X9_again rfl h_18) me_X9_again (g_recv cl7.1 rfl) tw_1156 tw_1158 tw_43 (hdd_of (by decide)) ⟨Nat.zero_le _, Nat.zero_le _⟩ rfl rfl (Nat.le_of_ble_eq_true rfl) dX9_judge_127 ?_
            refine go_iload 1 rfl dX9_judge_130 ?_
            exact h_iret h dX9_judge_132 rfl
          · replace h := q_f h hc
            refine go_aload_n rfl 1 rfl dX9_judge_62 ?_
            refine go_bipush kz_bipush_m6 dX9_judge_63 ?_
            obtain ⟨r_19, h_20, h⟩ := q_b h
            refine h_callVi (st := []) [.int (-6)] (m_X9_no10 h_20) me_X9_no10 (g_recv cl7.1 rfl) tw_1235 tw_1237 tw_56 (hdd_of (by decide)) ⟨Nat.zero_le _, Nat.zero_le _⟩ rfl rfl (Nat.le_of_ble_eq_true rfl) dX9_judge_65 ?_
            exact h_iret h dX9_judge_68 rfl
      · replace h := q_f h hc
        refine go_aload_n rfl 1 rfl dX9_judge_40 ?_
        refine go_bipush kz_bipush_m5 dX9_judge_41 ?_
        obtain ⟨r_21, h_22, h⟩ := q_b h
        refine h_callVi (st := []) [.int (-5)] (m_X9_no10 h_22) me_X9_no10 (g_recv cl7.1 rfl) tw_1235 tw_1237 tw_56 (hdd_of (by decide)) ⟨Nat.zero_le _, Nat.zero_le _⟩ rfl rfl (Nat.le_of_ble_eq_true rfl) dX9_judge_43 ?_
        exact h_iret h dX9_judge_46 rfl
    · replace h := q_f h hc
      refine go_aload_n rfl 1 rfl dX9_judge_23 ?_
      refine go_bipush kz_bipush_m4 dX9_judge_24 ?_
      obtain ⟨r_23, h_24, h⟩ := q_b h
      refine h_callVi (st := []) [.int (-4)] (m_X9_no10 h_24) me_X9_no10 (g_recv cl7.1 rfl) tw_1235 tw_1237 tw_56 (hdd_of (by decide)) ⟨Nat.zero_le _, Nat.zero_le _⟩ rfl rfl (Nat.le_of_ble_eq_true rfl) dX9_judge_26 ?_
      exact h_iret h dX9_judge_29 rfl
  · replace h := q_f h hc
    refine go_aload_n rfl 1 rfl dX9_judge_12 ?_
    refine go_iload 0 rfl dX9_judge_13 ?_
    obtain ⟨r_25, h_26, h⟩ := q_b h
    refine h_callVi (st := []) [.int r_1.1] (m_X9_no10 h_26) me_X9_no10 (g_recv cl7.1 rfl) tw_1235 tw_1237 tw_56 (hdd_of (by decide)) ⟨Nat.zero_le _, Nat.zero_le _⟩ rfl rfl (Nat.le_of_ble_eq_true rfl) dX9_judge_15 ?_
    exact h_iret h dX9_judge_18 rfl
noncomputable def f_X9_ledTo_L13 (y1 : Int32) (y2 : Int32) (y3 : Int32) (k68 : Int64 → gN → Option (Int32 × gN)) : Nat → Int64 → Int32 → gN → Option (Int32 × gN)
  | 0, _, _, _ => none
  | n + 1, y4, y6, ν =>
    if 20 < y6 then
      k68 y4 ν
    else
      (f_X9_keep 72 ν).bind (fun r_2 =>
        if inb y1 7 = true then
          qL (nWI r_2 56 y1.toNatClampNeg y6) (fun ν_5 =>
            (f_X9_goesOn y2 ν_5).bind (fun r_7 =>
              if inb y1 7 = true then
                (f_X9_again 72 r_7).bind (fun r_10 =>
                  f_X9_ledTo_L13 y1 y2 y3 k68 n (y4 ||| (j_lshl 1 (r_7.1 58 y1.toNatClampNeg))) (y6 + 1) r_10)
              else none))
        else none)
noncomputable def f_X9_ledTo (x1 : Int32) (x2 : Int32) (ν : gN) : Option (Int32 × gN) :=
  if inb x1 7 = true then
    f_X9_ledTo_L13 x1 x2 (ν.1 56 x1.toNatClampNeg) (fun z4_12 ν_13 =>
      if inb x1 7 = true then
        qL (nWI ν_13 56 x1.toNatClampNeg (ν.1 56 x1.toNatClampNeg)) (fun ν_15 =>
          (f_J13_bitCount_95d88 z4_12 ν_15).bind (fun r_17 =>
            some (r_17.1, r_17.2)))
      else none) FU 0 0 ν
  else none
theorem me_X9_ledTo : g_me yX9_ledTo cX9_ledTo 7 ((Option.some .int)) 2 := ⟨tw_1274, tw_79, ⟨by decide +kernel, by decide +kernel, by decide +kernel⟩, by decide⟩
set_option maxRecDepth 20000 in
set_option maxHeartbeats 2000000 in
theorem m_X9_ledTo_L13 {X : gX} {ad : Nat → Nat} {y1 : Int32} {y2 : Int32} {y3 : Int32} {k68 : Int64 → gN → Option (Int32 × gN)}  : ∀ (n : Nat) (y4 : Int64) (y6 : Int32) (ν : gN) (r : Int32 × gN), f_X9_ledTo_L13 y1 y2 y3 k68 n y4 y6 ν = some r → (∀ (z4 : Int64) (ν1 : gN), k68 z4 ν1 = some r → h_go X ad RX9 "ledTo" cX9_ledTo 7 ((Option.some .int)) 10 (some (.int r.1), r.2) 68 [(0, .ref (ad 53)), (1, .int y1), (3, .int y3), (4, .long z4)] [] ν1) → h_go X ad RX9 "ledTo" cX9_ledTo 7 ((Option.some .int)) 10 (some (.int r.1), r.2) 13 [(0, .ref (ad 53)), (1, .int y1), (2, .int y2), (3, .int y3), (4, .long y4), (6, .int y6)] [] ν := by
  intro n
  induction n with
  | zero => intro y4 y6 ν r h hk68; rw [f_X9_ledTo_L13] at h; exact q_n h
  | succ n ih =>
    intro y4 y6 ν r h hk68
    rw [f_X9_ledTo_L13] at h
    refine go_iload 5 rfl dX9_ledTo_13 ?_
    refine go_bipush kz_bipush_20 dX9_ledTo_15 ?_
    refine go_icmp_gt (tgt := 68) dX9_ledTo_17 rfl (fun hc => ?_) (fun hc => ?_)
    · replace h := q_t h hc
      refine go_sub (l' := [(0, .ref (ad 53)), (1, .int y1), (3, .int y3), (4, .long y4)]) [0, 1, 3, 4] rfl ?_
      exact hk68 _ _ h
    · replace h := q_f h hc
      refine go_aload_n rfl 0 rfl dX9_ledTo_20 ?_
      refine go_aload_n rfl 0 rfl dX9_ledTo_21 ?_
      refine h_getr 27 cl7 rfl (by decide) tw_939 72 rfl dX9_ledTo_22 ?_
      obtain ⟨r_2, h_3, h⟩ := q_b h
      refine h_callVv (st := []) [.ref (ad 72)] (m_X9_keep rfl h_3) me_X9_keep (g_recv cl7.1 rfl) tw_1117 tw_1119 tw_35 (hdd_of (by decide)) ⟨Nat.zero_le _, Nat.zero_le _⟩ rfl rfl (Nat.le_of_ble_eq_true rfl) dX9_ledTo_25 ?_
      refine go_aload_n rfl 0 rfl dX9_ledTo_28 ?_
      refine h_getr 3 cl7 rfl (by decide) tw_915 56 rfl dX9_ledTo_29 ?_
      refine go_iload_n rfl 1 rfl dX9_ledTo_32 ?_
      refine go_iload 5 rfl dX9_ledTo_33 ?_
      obtain ⟨hg_4, h⟩ := q_g h
      obtain ⟨ν_5, e_6, h⟩ := q_l h
      refine h_iast 7 rfl hg_4 e_6 dX9_ledTo_35 ?_
      refine go_aload_n rfl 0 rfl dX9_ledTo_36 ?_
      refine go_iload_n rfl 2 rfl dX9_ledTo_37 ?_
      obtain ⟨r_7, h_8, h⟩ := q_b h
      refine h_callVv (st := []) [.int y2] (m_X9_goesOn h_8) me_X9_goesOn (g_recv cl7.1 rfl) tw_1207 tw_1209 tw_51 (hdd_of (by decide)) ⟨Nat.zero_le _, Nat.zero_le _⟩ rfl rfl (Nat.le_of_ble_eq_true rfl) dX9_ledTo_38 ?_
      refine go_lload 4 rfl dX9_ledTo_41 ?_
      refine go_lconst (v := 1) rfl dX9_ledTo_43 ?_
      refine go_aload_n rfl 0 rfl dX9_ledTo_44 ?_
      refine h_getr 5 cl7 rfl (by decide) tw_917 58 rfl dX9_ledTo_45 ?_
      refine go_iload_n rfl 1 rfl dX9_ledTo_48 ?_
      obtain ⟨hg_9, h⟩ := q_g h
      refine h_iald 7 rfl hg_9 dX9_ledTo_49 ?_
      refine h_lshl dX9_ledTo_50 ?_
      refine go_lor dX9_ledTo_51 ?_
      refine go_lstore (l' := [(4, .long (y4 ||| (j_lshl 1 (r_7.1 58 y1.toNatClampNeg)))), (0, .ref (ad 53)), (1, .int y1), (2, .int y2), (3, .int y3), (6, .int y6)]) dX9_ledTo_52 (by decide) rfl ?_
      refine go_aload_n rfl 1 rfl dX9_ledTo_54 ?_
      refine go_aload_n rfl 1 rfl dX9_ledTo_55 ?_
      refine h_getr 27 cl7 rfl (by decide) tw_939 72 rfl dX9_ledTo_56 ?_
      obtain ⟨r_10, h_11, h⟩ := q_b h
      refine h_callVv (st := []) [.ref (ad 72)] (m_X9_again rfl h_11) me_X9_again (g_recv cl7.1 rfl) tw_1156 tw_1158 tw_43 (hdd_of (by decide)) ⟨Nat.zero_le _, Nat.zero_le _⟩ rfl rfl (Nat.le_of_ble_eq_true rfl) dX9_ledTo_59 ?_
      refine h_iinc (l' := [(6, .int (y6 + 1)), (4, .long (y4 ||| (j_lshl 1 (r_7.1 58 y1.toNatClampNeg)))), (0, .ref (ad 53)), (1, .int y1), (2, .int y2), (3, .int y3)]) dX9_ledTo_62 5 rfl kz_iconst_1 (by decide) rfl ?_
      refine go_goto (tgt := 13) dX9_ledTo_65 rfl ?_
      refine go_sub (l' := [(0, .ref (ad 53)), (1, .int y1), (2, .int y2), (3, .int y3), (4, .long (y4 ||| (j_lshl 1 (r_7.1 58 y1.toNatClampNeg)))), (6, .int (y6 + 1))]) [2, 3, 4, 5, 1, 0] rfl ?_
      exact ih _ _ _ _ h hk68
set_option maxRecDepth 20000 in
set_option maxHeartbeats 2000000 in
theorem m_X9_ledTo {X : gX} {ad : Nat → Nat} {x1 : Int32} {x2 : Int32} {ν : gN} {r : Int32 × gN}  (h : f_X9_ledTo x1 x2 ν = some r) : h_ct X ad yX9_ledTo cX9_ledTo 7 ((Option.some .int)) 10 [.ref (ad 53), .int x1, .int x2] ν (some (.int r.1), r.2) := by
  rw [f_X9_ledTo] at h
  refine h_ct_of (l := [(0, .ref (ad 53)), (1, .int x1), (2, .int x2)]) (by decide) (Nat.le_of_ble_eq_true rfl) rfl ?_
  refine go_aload_n rfl 0 rfl dX9_ledTo_0 ?_
  refine h_getr 3 cl7 rfl (by decide) tw_915 56 rfl dX9_ledTo_1 ?_
  refine go_iload_n rfl 1 rfl dX9_ledTo_4 ?_
  obtain ⟨hg_1, h⟩ := q_g h
  refine h_iald 7 rfl hg_1 dX9_ledTo_5 ?_
  refine go_istore_n (l' := [(3, .int (ν.1 56 x1.toNatClampNeg)), (0, .ref (ad 53)), (1, .int x1), (2, .int x2)]) dX9_ledTo_6 rfl (by decide) rfl ?_
  refine go_lconst (v := 0) rfl dX9_ledTo_7 ?_
  refine go_lstore (l' := [(4, .long 0), (3, .int (ν.1 56 x1.toNatClampNeg)), (0, .ref (ad 53)), (1, .int x1), (2, .int x2)]) dX9_ledTo_8 (by decide) rfl ?_
  refine go_iconst kz_iconst_0 dX9_ledTo_10 ?_
  refine go_istore (l' := [(6, .int 0), (4, .long 0), (3, .int (ν.1 56 x1.toNatClampNeg)), (0, .ref (ad 53)), (1, .int x1), (2, .int x2)]) dX9_ledTo_11 (by decide) rfl ?_
  refine go_sub (l' := [(0, .ref (ad 53)), (1, .int x1), (2, .int x2), (3, .int (ν.1 56 x1.toNatClampNeg)), (4, .long 0), (6, .int 0)]) [3, 4, 5, 2, 1, 0] rfl ?_
  refine m_X9_ledTo_L13  FU _ _ _ _ h (fun z4_12 ν_13 h => ?_)
  refine go_aload_n rfl 0 rfl dX9_ledTo_68 ?_
  refine h_getr 3 cl7 rfl (by decide) tw_915 56 rfl dX9_ledTo_69 ?_
  refine go_iload_n rfl 1 rfl dX9_ledTo_72 ?_
  refine go_iload_n rfl 2 rfl dX9_ledTo_73 ?_
  obtain ⟨hg_14, h⟩ := q_g h
  obtain ⟨ν_15, e_16, h⟩ := q_l h
  refine h_iast 7 rfl hg_14 e_16 dX9_ledTo_74 ?_
  refine go_lload 3 rfl dX9_ledTo_75 ?_
  obtain ⟨r_17, h_18, h⟩ := q_b h
  refine h_callSi (st := []) [.long z4_12] (m_J13_bitCount_95d88 h_18) me_J13_bitCount_95d88 tw_1275 tw_767 (hdd_of (by decide)) ⟨Nat.zero_le _, Nat.zero_le _⟩ rfl rfl (Nat.le_of_ble_eq_true rfl) dX9_ledTo_77 ?_
  exact h_iret h dX9_ledTo_80 rfl
noncomputable def f_X9_orders : Nat → Int32 → gN → Option (Int32 × gN)
  | 0, _, _ => none
  | n + 1, x0, ν =>
    if 2 ≤ x0 then
      (f_X9_orders n (x0 - 1) ν).bind (fun r_1 =>
        some (x0 * r_1.1, r_1.2))
    else
      some (1, ν)
theorem me_X9_orders : g_me yX9_orders cX9_orders 1 ((Option.some .int)) 1 := ⟨tw_1295, tw_79, ⟨by decide +kernel, by decide +kernel, by decide +kernel⟩, by decide⟩
set_option maxRecDepth 20000 in
set_option maxHeartbeats 2000000 in
theorem m_X9_orders {X : gX} {ad : Nat → Nat} : ∀ (n : Nat) (x0 : Int32) (ν : gN) (r : Int32 × gN) , f_X9_orders n x0 ν = some r → h_ct X ad yX9_orders cX9_orders 1 ((Option.some .int)) (1 + n) [.int x0] ν (some (.int r.1), r.2) := by
  intro n
  induction n with
  | zero => intro x0 ν r h; rw [f_X9_orders] at h; exact q_n h
  | succ n ih =>
    intro x0 ν r h
    rw [f_X9_orders] at h
    refine h_ct_of (l := [(0, .int x0)]) (by decide) (Nat.le_of_ble_eq_true rfl) rfl ?_
    refine go_iload_n rfl 0 rfl dX9_orders_0 ?_
    refine go_iconst kz_iconst_2 dX9_orders_1 ?_
    refine go_icmp_ge (tgt := 9) dX9_orders_2 rfl (fun hc => ?_) (fun hc => ?_)
    · replace h := q_t h hc
      refine go_iload_n rfl 0 rfl dX9_orders_9 ?_
      refine go_iload_n rfl 0 rfl dX9_orders_10 ?_
      refine go_iconst kz_iconst_1 dX9_orders_11 ?_
      refine go_isub dX9_orders_12 ?_
      obtain ⟨r_1, h_2, h⟩ := q_b h
      refine h_callSi (st := [.int x0]) [.int (x0 - 1)] (ih _ _ _ h_2) me_X9_orders tw_1293 tw_1294 (hdd_of (by omega)) ⟨Nat.zero_le _, Nat.zero_le _⟩ rfl rfl (Nat.le_of_ble_eq_true rfl) dX9_orders_13 ?_
      refine go_imul dX9_orders_16 ?_
      exact h_iret h dX9_orders_17 rfl
    · replace h := q_f h hc
      refine go_iconst kz_iconst_1 dX9_orders_5 ?_
      refine go_goto (tgt := 17) dX9_orders_6 rfl ?_
      exact h_iret h dX9_orders_17 rfl
noncomputable def f_X9_person (x1 : Int32) (x2 : Int32) (x3 : Int32) (x4 : Int32) (x5 : Int32) (ν : gN) : Option (Int32 × gN) :=
  (f_X9_within x1 0 6 ν).bind (fun r_1 =>
    if r_1.1 = 0 then
      (f_X9_no (-1) r_1.2).bind (fun r_23 =>
        some (r_23.1, r_23.2))
    else
      (f_X9_within x2 0 9 r_1.2).bind (fun r_3 =>
        if r_3.1 = 0 then
          (f_X9_no (-6) r_3.2).bind (fun r_5 =>
            some (r_5.1, r_5.2))
        else
          (f_X9_within x3 0 20 r_3.2).bind (fun r_7 =>
            if r_7.1 = 0 then
              (f_X9_no (-6) r_7.2).bind (fun r_9 =>
                some (r_9.1, r_9.2))
            else
              (f_X9_within x4 1 4 r_7.2).bind (fun r_11 =>
                if r_11.1 = 0 then
                  (f_X9_no (-6) r_11.2).bind (fun r_13 =>
                    some (r_13.1, r_13.2))
                else
                  (f_X9_isOpen x5 r_11.2).bind (fun r_15 =>
                    if r_15.1 = 0 then
                      (f_X9_no (-6) r_15.2).bind (fun r_21 =>
                        some (r_21.1, r_21.2))
                    else
                      if (r_15.2.1 53 0) = 7 then
                        (f_X9_no (-7) r_15.2).bind (fun r_19 =>
                          some (r_19.1, r_19.2))
                      else
                        (f_X9_newOne x1 x2 x3 x4 x5 r_15.2).bind (fun r_17 =>
                          some (r_17.1, r_17.2)))))))
theorem me_X9_person : g_me yX9_person cX9_person 6 ((Option.some .int)) 5 := ⟨tw_1061, tw_79, ⟨by decide +kernel, by decide +kernel, by decide +kernel⟩, by decide⟩
set_option maxRecDepth 20000 in
set_option maxHeartbeats 2000000 in
theorem m_X9_person {X : gX} {ad : Nat → Nat} {x1 : Int32} {x2 : Int32} {x3 : Int32} {x4 : Int32} {x5 : Int32} {ν : gN} {r : Int32 × gN}  (h : f_X9_person x1 x2 x3 x4 x5 ν = some r) : h_ct X ad yX9_person cX9_person 6 ((Option.some .int)) 4 [.ref (ad 53), .int x1, .int x2, .int x3, .int x4, .int x5] ν (some (.int r.1), r.2) := by
  rw [f_X9_person] at h
  refine h_ct_of (l := [(0, .ref (ad 53)), (1, .int x1), (2, .int x2), (3, .int x3), (4, .int x4), (5, .int x5)]) (by decide) (Nat.le_of_ble_eq_true rfl) rfl ?_
  refine go_iload_n rfl 1 rfl dX9_person_0 ?_
  refine go_iconst kz_iconst_0 dX9_person_1 ?_
  refine go_bipush kz_bipush_6 dX9_person_2 ?_
  obtain ⟨r_1, h_2, h⟩ := q_b h
  refine h_callSi (st := []) [.int x1, .int 0, .int 6] (m_X9_within h_2) me_X9_within tw_1005 tw_1006 (hdd_of (by decide)) ⟨Nat.zero_le _, Nat.zero_le _⟩ rfl rfl (Nat.le_of_ble_eq_true rfl) dX9_person_4 ?_
  refine go_if_ne (tgt := 16) dX9_person_7 rfl (fun hc => ?_) (fun hc => ?_)
  · replace h := q_f h hc
    refine go_iload_n rfl 2 rfl dX9_person_16 ?_
    refine go_iconst kz_iconst_0 dX9_person_17 ?_
    refine go_bipush kz_bipush_9 dX9_person_18 ?_
    obtain ⟨r_3, h_4, h⟩ := q_b h
    refine h_callSi (st := []) [.int x2, .int 0, .int 9] (m_X9_within h_4) me_X9_within tw_1005 tw_1006 (hdd_of (by decide)) ⟨Nat.zero_le _, Nat.zero_le _⟩ rfl rfl (Nat.le_of_ble_eq_true rfl) dX9_person_20 ?_
    refine go_if_eq (tgt := 55) dX9_person_23 rfl (fun hc => ?_) (fun hc => ?_)
    · replace h := q_t h hc
      refine go_aload_n rfl 0 rfl dX9_person_55 ?_
      refine go_bipush kz_bipush_m6 dX9_person_56 ?_
      obtain ⟨r_5, h_6, h⟩ := q_b h
      refine h_callVi (st := []) [.int (-6)] (m_X9_no h_6) me_X9_no (g_recv cl7.1 rfl) tw_1008 tw_1010 tw_23 (hdd_of (by decide)) ⟨Nat.zero_le _, Nat.zero_le _⟩ rfl rfl (Nat.le_of_ble_eq_true rfl) dX9_person_58 ?_
      exact h_iret h dX9_person_61 rfl
    · replace h := q_f h hc
      refine go_iload_n rfl 3 rfl dX9_person_26 ?_
      refine go_iconst kz_iconst_0 dX9_person_27 ?_
      refine go_bipush kz_bipush_20 dX9_person_28 ?_
      obtain ⟨r_7, h_8, h⟩ := q_b h
      refine h_callSi (st := []) [.int x3, .int 0, .int 20] (m_X9_within h_8) me_X9_within tw_1005 tw_1006 (hdd_of (by decide)) ⟨Nat.zero_le _, Nat.zero_le _⟩ rfl rfl (Nat.le_of_ble_eq_true rfl) dX9_person_30 ?_
      refine go_if_eq (tgt := 55) dX9_person_33 rfl (fun hc => ?_) (fun hc => ?_)
      · replace h := q_t h hc
        refine go_aload_n rfl 0 rfl dX9_person_55 ?_
        refine go_bipush kz_bipush_m6 dX9_person_56 ?_
        obtain ⟨r_9, h_10, h⟩ := q_b h
        refine h_callVi (st := []) [.int (-6)] (m_X9_no h_10) me_X9_no (g_recv cl7.1 rfl) tw_1008 tw_1010 tw_23 (hdd_of (by decide)) ⟨Nat.zero_le _, Nat.zero_le _⟩ rfl rfl (Nat.le_of_ble_eq_true rfl) dX9_person_58 ?_
        exact h_iret h dX9_person_61 rfl
      · replace h := q_f h hc
        refine go_iload 4 rfl dX9_person_36 ?_
        refine go_iconst kz_iconst_1 dX9_person_38 ?_
        refine go_iconst kz_iconst_4 dX9_person_39 ?_
        obtain ⟨r_11, h_12, h⟩ := q_b h
        refine h_callSi (st := []) [.int x4, .int 1, .int 4] (m_X9_within h_12) me_X9_within tw_1005 tw_1006 (hdd_of (by decide)) ⟨Nat.zero_le _, Nat.zero_le _⟩ rfl rfl (Nat.le_of_ble_eq_true rfl) dX9_person_40 ?_
        refine go_if_eq (tgt := 55) dX9_person_43 rfl (fun hc => ?_) (fun hc => ?_)
        · replace h := q_t h hc
          refine go_aload_n rfl 0 rfl dX9_person_55 ?_
          refine go_bipush kz_bipush_m6 dX9_person_56 ?_
          obtain ⟨r_13, h_14, h⟩ := q_b h
          refine h_callVi (st := []) [.int (-6)] (m_X9_no h_14) me_X9_no (g_recv cl7.1 rfl) tw_1008 tw_1010 tw_23 (hdd_of (by decide)) ⟨Nat.zero_le _, Nat.zero_le _⟩ rfl rfl (Nat.le_of_ble_eq_true rfl) dX9_person_58 ?_
          exact h_iret h dX9_person_61 rfl
        · replace h := q_f h hc
          refine go_aload_n rfl 0 rfl dX9_person_46 ?_
          refine go_iload 5 rfl dX9_person_47 ?_
          obtain ⟨r_15, h_16, h⟩ := q_b h
          refine h_callVi (st := []) [.int x5] (m_X9_isOpen h_16) me_X9_isOpen (g_recv cl7.1 rfl) tw_1062 tw_1064 tw_28 (hdd_of (by decide)) ⟨Nat.zero_le _, Nat.zero_le _⟩ rfl rfl (Nat.le_of_ble_eq_true rfl) dX9_person_49 ?_
          refine go_if_ne (tgt := 62) dX9_person_52 rfl (fun hc => ?_) (fun hc => ?_)
          · replace h := q_f h hc
            refine go_aload_n rfl 0 rfl dX9_person_62 ?_
            refine h_geti 0 cl7 rfl (by decide) tw_912 rfl dX9_person_63 ?_
            refine go_bipush kz_bipush_7 dX9_person_66 ?_
            refine go_icmp_ne (tgt := 80) dX9_person_68 rfl (fun hc => ?_) (fun hc => ?_)
            · replace h := q_f h hc
              refine go_aload_n rfl 0 rfl dX9_person_80 ?_
              refine go_iload_n rfl 1 rfl dX9_person_81 ?_
              refine go_iload_n rfl 2 rfl dX9_person_82 ?_
              refine go_iload_n rfl 3 rfl dX9_person_83 ?_
              refine go_iload 4 rfl dX9_person_84 ?_
              refine go_iload 5 rfl dX9_person_86 ?_
              obtain ⟨r_17, h_18, h⟩ := q_b h
              refine h_callVi (st := []) [.int x1, .int x2, .int x3, .int x4, .int x5] (m_X9_newOne h_18) me_X9_newOne (g_recv cl7.1 rfl) tw_1069 tw_1071 tw_29 (hdd_of (by decide)) ⟨Nat.zero_le _, Nat.zero_le _⟩ rfl rfl (Nat.le_of_ble_eq_true rfl) dX9_person_88 ?_
              exact h_iret h dX9_person_91 rfl
            · replace h := q_t h hc
              refine go_aload_n rfl 0 rfl dX9_person_71 ?_
              refine go_bipush kz_bipush_m7 dX9_person_72 ?_
              obtain ⟨r_19, h_20, h⟩ := q_b h
              refine h_callVi (st := []) [.int (-7)] (m_X9_no h_20) me_X9_no (g_recv cl7.1 rfl) tw_1008 tw_1010 tw_23 (hdd_of (by decide)) ⟨Nat.zero_le _, Nat.zero_le _⟩ rfl rfl (Nat.le_of_ble_eq_true rfl) dX9_person_74 ?_
              refine go_goto (tgt := 91) dX9_person_77 rfl ?_
              exact h_iret h dX9_person_91 rfl
          · replace h := q_t h hc
            refine go_aload_n rfl 0 rfl dX9_person_55 ?_
            refine go_bipush kz_bipush_m6 dX9_person_56 ?_
            obtain ⟨r_21, h_22, h⟩ := q_b h
            refine h_callVi (st := []) [.int (-6)] (m_X9_no h_22) me_X9_no (g_recv cl7.1 rfl) tw_1008 tw_1010 tw_23 (hdd_of (by decide)) ⟨Nat.zero_le _, Nat.zero_le _⟩ rfl rfl (Nat.le_of_ble_eq_true rfl) dX9_person_58 ?_
            exact h_iret h dX9_person_61 rfl
  · replace h := q_t h hc
    refine go_aload_n rfl 0 rfl dX9_person_10 ?_
    refine go_iconst kz_iconst_m1 dX9_person_11 ?_
    obtain ⟨r_23, h_24, h⟩ := q_b h
    refine h_callVi (st := []) [.int (-1)] (m_X9_no h_24) me_X9_no (g_recv cl7.1 rfl) tw_1008 tw_1010 tw_23 (hdd_of (by decide)) ⟨Nat.zero_le _, Nat.zero_le _⟩ rfl rfl (Nat.le_of_ble_eq_true rfl) dX9_person_12 ?_
    exact h_iret h dX9_person_15 rfl
noncomputable def f_X9_personOf (x1 : Int32) (x2 : Int32) (ν : gN) : Option (Int32 × gN) :=
  (f_X9_isOne x1 ν).bind (fun r_1 =>
    if r_1.1 = 0 then
      (f_X9_no (-5) r_1.2).bind (fun r_26 =>
        some (r_26.1, r_26.2))
    else
      if x2 = 0 then
        if inb x1 7 = true then
          some (r_1.2.1 54 x1.toNatClampNeg, r_1.2)
        else none
      else
      if x2 = 1 then
        if inb x1 7 = true then
          some (r_1.2.1 55 x1.toNatClampNeg, r_1.2)
        else none
      else
      if x2 = 2 then
        if inb x1 7 = true then
          some (r_1.2.1 56 x1.toNatClampNeg, r_1.2)
        else none
      else
      if x2 = 3 then
        if inb x1 7 = true then
          some (r_1.2.1 57 x1.toNatClampNeg, r_1.2)
        else none
      else
      if x2 = 4 then
        if inb x1 7 = true then
          some (r_1.2.1 58 x1.toNatClampNeg, r_1.2)
        else none
      else
      if x2 = 5 then
        if inb x1 7 = true then
          some (r_1.2.1 59 x1.toNatClampNeg, r_1.2)
        else none
      else
      if x2 = 6 then
        (f_X9_smell x1 r_1.2).bind (fun r_16 =>
          some (r_16.1, r_16.2))
      else
      if x2 = 7 then
        (f_X9_flees x1 r_1.2).bind (fun r_19 =>
          if r_19.1 = 0 then
            some (0, r_19.2)
          else
            some (1, r_19.2))
      else
      if x2 = 8 then
        (f_X9_isOut x1 r_1.2).bind (fun r_22 =>
          if r_22.1 = 0 then
            some (0, r_22.2)
          else
            some (1, r_22.2))
      else
      (f_X9_no (-5) r_1.2).bind (fun r_24 =>
        some (r_24.1, r_24.2)))
theorem me_X9_personOf : g_me yX9_personOf cX9_personOf 3 ((Option.some .int)) 2 := ⟨tw_1100, tw_79, ⟨by decide +kernel, by decide +kernel, by decide +kernel⟩, by decide⟩
set_option maxRecDepth 20000 in
set_option maxHeartbeats 2000000 in
theorem m_X9_personOf {X : gX} {ad : Nat → Nat} {x1 : Int32} {x2 : Int32} {ν : gN} {r : Int32 × gN}  (h : f_X9_personOf x1 x2 ν = some r) : h_ct X ad yX9_personOf cX9_personOf 3 ((Option.some .int)) 3 [.ref (ad 53), .int x1, .int x2] ν (some (.int r.1), r.2) := by
  rw [f_X9_personOf] at h
  refine h_ct_of (l := [(0, .ref (ad 53)), (1, .int x1), (2, .int x2)]) (by decide) (Nat.le_of_ble_eq_true rfl) rfl ?_
  refine go_aload_n rfl 0 rfl dX9_personOf_0 ?_
  refine go_iload_n rfl 1 rfl dX9_personOf_1 ?_
  obtain ⟨r_1, h_2, h⟩ := q_b h
  refine h_callVi (st := []) [.int x1] (m_X9_isOne h_2) me_X9_isOne (g_recv cl7.1 rfl) tw_1036 tw_1038 tw_26 (hdd_of (by decide)) ⟨Nat.zero_le _, Nat.zero_le _⟩ rfl rfl (Nat.le_of_ble_eq_true rfl) dX9_personOf_2 ?_
  refine go_if_ne (tgt := 15) dX9_personOf_5 rfl (fun hc => ?_) (fun hc => ?_)
  · replace h := q_f h hc
    refine go_iload_n rfl 2 rfl dX9_personOf_15 ?_
    by_cases hk_3 : x2 = 0
    · replace h := q_t h hk_3
      refine h_tbT (tgt := 68) (off := 52) hk_3 dX9_personOf_16 (by decide) (by decide) rfl rfl ?_
      refine go_aload_n rfl 0 rfl dX9_personOf_68 ?_
      refine h_getr 1 cl7 rfl (by decide) tw_913 54 rfl dX9_personOf_69 ?_
      refine go_iload_n rfl 1 rfl dX9_personOf_72 ?_
      obtain ⟨hg_4, h⟩ := q_g h
      refine h_iald 7 rfl hg_4 dX9_personOf_73 ?_
      exact h_iret h dX9_personOf_74 rfl
    replace h := q_f h hk_3
    by_cases hk_5 : x2 = 1
    · replace h := q_t h hk_5
      refine h_tbT (tgt := 75) (off := 59) hk_5 dX9_personOf_16 (by decide) (by decide) rfl rfl ?_
      refine go_aload_n rfl 0 rfl dX9_personOf_75 ?_
      refine h_getr 2 cl7 rfl (by decide) tw_914 55 rfl dX9_personOf_76 ?_
      refine go_iload_n rfl 1 rfl dX9_personOf_79 ?_
      obtain ⟨hg_6, h⟩ := q_g h
      refine h_iald 7 rfl hg_6 dX9_personOf_80 ?_
      exact h_iret h dX9_personOf_81 rfl
    replace h := q_f h hk_5
    by_cases hk_7 : x2 = 2
    · replace h := q_t h hk_7
      refine h_tbT (tgt := 82) (off := 66) hk_7 dX9_personOf_16 (by decide) (by decide) rfl rfl ?_
      refine go_aload_n rfl 0 rfl dX9_personOf_82 ?_
      refine h_getr 3 cl7 rfl (by decide) tw_915 56 rfl dX9_personOf_83 ?_
      refine go_iload_n rfl 1 rfl dX9_personOf_86 ?_
      obtain ⟨hg_8, h⟩ := q_g h
      refine h_iald 7 rfl hg_8 dX9_personOf_87 ?_
      exact h_iret h dX9_personOf_88 rfl
    replace h := q_f h hk_7
    by_cases hk_9 : x2 = 3
    · replace h := q_t h hk_9
      refine h_tbT (tgt := 89) (off := 73) hk_9 dX9_personOf_16 (by decide) (by decide) rfl rfl ?_
      refine go_aload_n rfl 0 rfl dX9_personOf_89 ?_
      refine h_getr 4 cl7 rfl (by decide) tw_916 57 rfl dX9_personOf_90 ?_
      refine go_iload_n rfl 1 rfl dX9_personOf_93 ?_
      obtain ⟨hg_10, h⟩ := q_g h
      refine h_iald 7 rfl hg_10 dX9_personOf_94 ?_
      exact h_iret h dX9_personOf_95 rfl
    replace h := q_f h hk_9
    by_cases hk_11 : x2 = 4
    · replace h := q_t h hk_11
      refine h_tbT (tgt := 96) (off := 80) hk_11 dX9_personOf_16 (by decide) (by decide) rfl rfl ?_
      refine go_aload_n rfl 0 rfl dX9_personOf_96 ?_
      refine h_getr 5 cl7 rfl (by decide) tw_917 58 rfl dX9_personOf_97 ?_
      refine go_iload_n rfl 1 rfl dX9_personOf_100 ?_
      obtain ⟨hg_12, h⟩ := q_g h
      refine h_iald 7 rfl hg_12 dX9_personOf_101 ?_
      exact h_iret h dX9_personOf_102 rfl
    replace h := q_f h hk_11
    by_cases hk_13 : x2 = 5
    · replace h := q_t h hk_13
      refine h_tbT (tgt := 103) (off := 87) hk_13 dX9_personOf_16 (by decide) (by decide) rfl rfl ?_
      refine go_aload_n rfl 0 rfl dX9_personOf_103 ?_
      refine h_getr 6 cl7 rfl (by decide) tw_918 59 rfl dX9_personOf_104 ?_
      refine go_iload_n rfl 1 rfl dX9_personOf_107 ?_
      obtain ⟨hg_14, h⟩ := q_g h
      refine h_iald 7 rfl hg_14 dX9_personOf_108 ?_
      exact h_iret h dX9_personOf_109 rfl
    replace h := q_f h hk_13
    by_cases hk_15 : x2 = 6
    · replace h := q_t h hk_15
      refine h_tbT (tgt := 110) (off := 94) hk_15 dX9_personOf_16 (by decide) (by decide) rfl rfl ?_
      refine go_aload_n rfl 0 rfl dX9_personOf_110 ?_
      refine go_iload_n rfl 1 rfl dX9_personOf_111 ?_
      obtain ⟨r_16, h_17, h⟩ := q_b h
      refine h_callVi (st := []) [.int x1] (m_X9_smell h_17) me_X9_smell (g_recv cl7.1 rfl) tw_1054 tw_1056 tw_27 (hdd_of (by decide)) ⟨Nat.zero_le _, Nat.zero_le _⟩ rfl rfl (Nat.le_of_ble_eq_true rfl) dX9_personOf_112 ?_
      exact h_iret h dX9_personOf_115 rfl
    replace h := q_f h hk_15
    by_cases hk_18 : x2 = 7
    · replace h := q_t h hk_18
      refine h_tbT (tgt := 116) (off := 100) hk_18 dX9_personOf_16 (by decide) (by decide) rfl rfl ?_
      refine go_aload_n rfl 0 rfl dX9_personOf_116 ?_
      refine go_iload_n rfl 1 rfl dX9_personOf_117 ?_
      obtain ⟨r_19, h_20, h⟩ := q_b h
      refine h_callVi (st := []) [.int x1] (m_X9_flees h_20) me_X9_flees (g_recv cl7.1 rfl) tw_1101 tw_1103 tw_33 (hdd_of (by decide)) ⟨Nat.zero_le _, Nat.zero_le _⟩ rfl rfl (Nat.le_of_ble_eq_true rfl) dX9_personOf_118 ?_
      refine go_if_eq (tgt := 128) dX9_personOf_121 rfl (fun hc => ?_) (fun hc => ?_)
      · replace h := q_t h hc
        refine go_iconst kz_iconst_0 dX9_personOf_128 ?_
        exact h_iret h dX9_personOf_129 rfl
      · replace h := q_f h hc
        refine go_iconst kz_iconst_1 dX9_personOf_124 ?_
        refine go_goto (tgt := 129) dX9_personOf_125 rfl ?_
        exact h_iret h dX9_personOf_129 rfl
    replace h := q_f h hk_18
    by_cases hk_21 : x2 = 8
    · replace h := q_t h hk_21
      refine h_tbT (tgt := 130) (off := 114) hk_21 dX9_personOf_16 (by decide) (by decide) rfl rfl ?_
      refine go_aload_n rfl 0 rfl dX9_personOf_130 ?_
      refine go_iload_n rfl 1 rfl dX9_personOf_131 ?_
      obtain ⟨r_22, h_23, h⟩ := q_b h
      refine h_callVi (st := []) [.int x1] (m_X9_isOut h_23) me_X9_isOut (g_recv cl7.1 rfl) tw_1105 tw_1107 tw_34 (hdd_of (by decide)) ⟨Nat.zero_le _, Nat.zero_le _⟩ rfl rfl (Nat.le_of_ble_eq_true rfl) dX9_personOf_132 ?_
      refine go_if_eq (tgt := 142) dX9_personOf_135 rfl (fun hc => ?_) (fun hc => ?_)
      · replace h := q_t h hc
        refine go_iconst kz_iconst_0 dX9_personOf_142 ?_
        exact h_iret h dX9_personOf_143 rfl
      · replace h := q_f h hc
        refine go_iconst kz_iconst_1 dX9_personOf_138 ?_
        refine go_goto (tgt := 143) dX9_personOf_139 rfl ?_
        exact h_iret h dX9_personOf_143 rfl
    replace h := q_f h hk_21
    have hk_3 := h_nT hk_3 (a := 0) (by decide)
    have hk_5 := h_nT hk_5 (a := 1) (by decide)
    have hk_7 := h_nT hk_7 (a := 2) (by decide)
    have hk_9 := h_nT hk_9 (a := 3) (by decide)
    have hk_11 := h_nT hk_11 (a := 4) (by decide)
    have hk_13 := h_nT hk_13 (a := 5) (by decide)
    have hk_15 := h_nT hk_15 (a := 6) (by decide)
    have hk_18 := h_nT hk_18 (a := 7) (by decide)
    have hk_21 := h_nT hk_21 (a := 8) (by decide)
    refine go_tableOut (tgt := 144) dX9_personOf_16 (by omega) rfl ?_
    refine go_aload_n rfl 0 rfl dX9_personOf_144 ?_
    refine go_bipush kz_bipush_m5 dX9_personOf_145 ?_
    obtain ⟨r_24, h_25, h⟩ := q_b h
    refine h_callVi (st := []) [.int (-5)] (m_X9_no h_25) me_X9_no (g_recv cl7.1 rfl) tw_1008 tw_1010 tw_23 (hdd_of (by decide)) ⟨Nat.zero_le _, Nat.zero_le _⟩ rfl rfl (Nat.le_of_ble_eq_true rfl) dX9_personOf_147 ?_
    exact h_iret h dX9_personOf_150 rfl
  · replace h := q_t h hc
    refine go_aload_n rfl 0 rfl dX9_personOf_8 ?_
    refine go_bipush kz_bipush_m5 dX9_personOf_9 ?_
    obtain ⟨r_26, h_27, h⟩ := q_b h
    refine h_callVi (st := []) [.int (-5)] (m_X9_no h_27) me_X9_no (g_recv cl7.1 rfl) tw_1008 tw_1010 tw_23 (hdd_of (by decide)) ⟨Nat.zero_le _, Nat.zero_le _⟩ rfl rfl (Nat.le_of_ble_eq_true rfl) dX9_personOf_11 ?_
    exact h_iret h dX9_personOf_14 rfl
noncomputable def f_X9_port_L39 (y1 : Int32) (k99 : gN → Option (Int32 × gN)) : Nat → Int32 → Int32 → gN → Option (Int32 × gN)
  | 0, _, _, _ => none
  | n + 1, y3, y4, ν =>
    if y4 = 0 then
      k99  ν
    else
      (f_X9_item  ν).bind (fun r_9 =>
        if r_9.1 = 0 then
          if r_9.1 = 0 then
            if r_9.1 = 0 then
              f_X9_port_L39 y1 k99 n y3 r_9.1 r_9.2
            else
              (f_X9_is 59 r_9.2).bind (fun r_11 =>
                f_X9_port_L39 y1 k99 n y3 r_11.1 r_11.2)
          else
            if inb y1 8 = true then
              if (r_9.2.1 53 14) = (r_9.2.1 63 y1.toNatClampNeg) then
                qL (nWI r_9.2 53 16 (-1)) (fun ν_16 =>
                  some (y3, ν_16))
              else
                if r_9.1 = 0 then
                  f_X9_port_L39 y1 k99 n y3 r_9.1 r_9.2
                else
                  (f_X9_is 59 r_9.2).bind (fun r_14 =>
                    f_X9_port_L39 y1 k99 n y3 r_14.1 r_14.2)
            else none
        else
          if r_9.1 = 0 then
            if r_9.1 = 0 then
              f_X9_port_L39 y1 k99 n (y3 + 1) r_9.1 r_9.2
            else
              (f_X9_is 59 r_9.2).bind (fun r_18 =>
                f_X9_port_L39 y1 k99 n (y3 + 1) r_18.1 r_18.2)
          else
            if inb y1 8 = true then
              if (r_9.2.1 53 14) = (r_9.2.1 63 y1.toNatClampNeg) then
                qL (nWI r_9.2 53 16 (-1)) (fun ν_23 =>
                  some (y3 + 1, ν_23))
              else
                if r_9.1 = 0 then
                  f_X9_port_L39 y1 k99 n (y3 + 1) r_9.1 r_9.2
                else
                  (f_X9_is 59 r_9.2).bind (fun r_21 =>
                    f_X9_port_L39 y1 k99 n (y3 + 1) r_21.1 r_21.2)
            else none)
noncomputable def f_X9_port (x1 : Int32) (ν : gN) : Option (Int32 × gN) :=
  (f_X9_noRow x1 ν).bind (fun r_1 =>
    if 0 ≤ r_1.1 then
      (f_X9_keep 66 r_1.2).bind (fun r_3 =>
        qL (nWI r_3 53 13 x1) (fun ν_5 =>
          qL (nWI ν_5 53 14 0) (fun ν_7 =>
            f_X9_port_L39 x1 (fun ν_25 =>
              qL (nWI ν_25 53 16 (ν_25.1 53 14)) (fun ν_26 =>
                (f_X9_again 66 ν_26).bind (fun r_28 =>
                  (f_X9_no (-6) r_28).bind (fun r_30 =>
                    some (r_30.1, r_30.2))))) FU 0 1 ν_7)))
    else
      (f_X9_no r_1.1 r_1.2).bind (fun r_32 =>
        some (r_32.1, r_32.2)))
theorem me_X9_port : g_me yX9_port cX9_port 5 ((Option.some .int)) 1 := ⟨tw_1116, tw_79, ⟨by decide +kernel, by decide +kernel, by decide +kernel⟩, by decide⟩
set_option maxRecDepth 20000 in
set_option maxHeartbeats 2000000 in
theorem m_X9_port_L39 {X : gX} {ad : Nat → Nat} {y1 : Int32} {k99 : gN → Option (Int32 × gN)}  : ∀ (n : Nat) (y3 : Int32) (y4 : Int32) (ν : gN) (r : Int32 × gN), f_X9_port_L39 y1 k99 n y3 y4 ν = some r → (∀ (ν1 : gN), k99 ν1 = some r → h_go X ad RX9 "port" cX9_port 5 ((Option.some .int)) 8 (some (.int r.1), r.2) 99 [(0, .ref (ad 53))] [] ν1) → h_go X ad RX9 "port" cX9_port 5 ((Option.some .int)) 8 (some (.int r.1), r.2) 39 [(0, .ref (ad 53)), (1, .int y1), (3, .int y3), (4, .int y4)] [] ν := by
  intro n
  induction n with
  | zero => intro y3 y4 ν r h hk99; rw [f_X9_port_L39] at h; exact q_n h
  | succ n ih =>
    intro y3 y4 ν r h hk99
    rw [f_X9_port_L39] at h
    refine go_iload 3 rfl dX9_port_39 ?_
    refine go_if_eq (tgt := 99) dX9_port_41 rfl (fun hc => ?_) (fun hc => ?_)
    · replace h := q_t h hc
      refine go_sub (l' := [(0, .ref (ad 53))]) [0] rfl ?_
      exact hk99  _ h
    · replace h := q_f h hc
      refine go_aload_n rfl 0 rfl dX9_port_44 ?_
      obtain ⟨r_9, h_10, h⟩ := q_b h
      refine h_callVi (st := []) [] (m_X9_item h_10) me_X9_item (g_recv cl7.1 rfl) tw_1121 tw_1123 tw_36 (hdd_of (by decide)) ⟨Nat.zero_le _, Nat.zero_le _⟩ rfl rfl (Nat.le_of_ble_eq_true rfl) dX9_port_45 ?_
      refine go_istore (l' := [(4, .int r_9.1), (0, .ref (ad 53)), (1, .int y1), (3, .int y3)]) dX9_port_48 (by decide) rfl ?_
      refine go_iload 0 rfl dX9_port_50 ?_
      refine go_if_eq (tgt := 58) dX9_port_52 rfl (fun hc => ?_) (fun hc => ?_)
      · replace h := q_t h hc
        refine go_iload 0 rfl dX9_port_58 ?_
        refine go_if_eq (tgt := 83) dX9_port_60 rfl (fun hc => ?_) (fun hc => ?_)
        · replace h := q_t h hc
          refine go_iload 0 rfl dX9_port_83 ?_
          refine go_if_eq (tgt := 39) dX9_port_85 rfl (fun hc => ?_) (fun hc => ?_)
          · replace h := q_t h hc
            refine go_sub (l' := [(0, .ref (ad 53)), (1, .int y1), (3, .int y3), (4, .int r_9.1)]) [1, 2, 3, 0] rfl ?_
            exact ih _ _ _ _ h hk99
          · replace h := q_f h hc
            refine go_aload_n rfl 1 rfl dX9_port_88 ?_
            refine go_bipush kz_bipush_59 dX9_port_89 ?_
            obtain ⟨r_11, h_12, h⟩ := q_b h
            refine h_callVi (st := []) [.int 59] (m_X9_is h_12) me_X9_is (g_recv cl7.1 rfl) tw_1136 tw_1138 tw_39 (hdd_of (by decide)) ⟨Nat.zero_le _, Nat.zero_le _⟩ rfl rfl (Nat.le_of_ble_eq_true rfl) dX9_port_91 ?_
            refine go_istore (l' := [(4, .int r_11.1), (0, .ref (ad 53)), (1, .int y1), (3, .int y3)]) dX9_port_94 (by decide) rfl ?_
            refine go_goto (tgt := 39) dX9_port_96 rfl ?_
            refine go_sub (l' := [(0, .ref (ad 53)), (1, .int y1), (3, .int y3), (4, .int r_11.1)]) [1, 2, 3, 0] rfl ?_
            exact ih _ _ _ _ h hk99
        · replace h := q_f h hc
          refine go_aload_n rfl 1 rfl dX9_port_63 ?_
          refine h_geti 14 cl7 rfl (by decide) tw_926 rfl dX9_port_64 ?_
          refine go_aload_n rfl 1 rfl dX9_port_67 ?_
          refine h_getr 11 cl7 rfl (by decide) tw_923 63 rfl dX9_port_68 ?_
          refine go_iload_n rfl 2 rfl dX9_port_71 ?_
          obtain ⟨hg_13, h⟩ := q_g h
          refine h_iald 8 rfl hg_13 dX9_port_72 ?_
          refine go_icmp_ne (tgt := 83) dX9_port_73 rfl (fun hc => ?_) (fun hc => ?_)
          · replace h := q_f h hc
            refine go_iload 0 rfl dX9_port_83 ?_
            refine go_if_eq (tgt := 39) dX9_port_85 rfl (fun hc => ?_) (fun hc => ?_)
            · replace h := q_t h hc
              refine go_sub (l' := [(0, .ref (ad 53)), (1, .int y1), (3, .int y3), (4, .int r_9.1)]) [1, 2, 3, 0] rfl ?_
              exact ih _ _ _ _ h hk99
            · replace h := q_f h hc
              refine go_aload_n rfl 1 rfl dX9_port_88 ?_
              refine go_bipush kz_bipush_59 dX9_port_89 ?_
              obtain ⟨r_14, h_15, h⟩ := q_b h
              refine h_callVi (st := []) [.int 59] (m_X9_is h_15) me_X9_is (g_recv cl7.1 rfl) tw_1136 tw_1138 tw_39 (hdd_of (by decide)) ⟨Nat.zero_le _, Nat.zero_le _⟩ rfl rfl (Nat.le_of_ble_eq_true rfl) dX9_port_91 ?_
              refine go_istore (l' := [(4, .int r_14.1), (0, .ref (ad 53)), (1, .int y1), (3, .int y3)]) dX9_port_94 (by decide) rfl ?_
              refine go_goto (tgt := 39) dX9_port_96 rfl ?_
              refine go_sub (l' := [(0, .ref (ad 53)), (1, .int y1), (3, .int y3), (4, .int r_14.1)]) [1, 2, 3, 0] rfl ?_
              exact ih _ _ _ _ h hk99
          · replace h := q_t h hc
            refine go_aload_n rfl 1 rfl dX9_port_76 ?_
            refine go_iconst kz_iconst_m1 dX9_port_77 ?_
            obtain ⟨ν_16, e_17, h⟩ := q_l h
            refine h_puti 16 cl7 rfl (by decide) tw_928 rfl rfl e_17 dX9_port_78 ?_
            refine go_iload_n rfl 3 rfl dX9_port_81 ?_
            exact h_iret h dX9_port_82 rfl
      · replace h := q_f h hc
        refine h_iinc (l' := [(3, .int (y3 + 1)), (4, .int r_9.1), (0, .ref (ad 53)), (1, .int y1)]) dX9_port_55 3 rfl kz_iconst_1 (by decide) rfl ?_
        refine go_iload 1 rfl dX9_port_58 ?_
        refine go_if_eq (tgt := 83) dX9_port_60 rfl (fun hc => ?_) (fun hc => ?_)
        · replace h := q_t h hc
          refine go_iload 1 rfl dX9_port_83 ?_
          refine go_if_eq (tgt := 39) dX9_port_85 rfl (fun hc => ?_) (fun hc => ?_)
          · replace h := q_t h hc
            refine go_sub (l' := [(0, .ref (ad 53)), (1, .int y1), (3, .int (y3 + 1)), (4, .int r_9.1)]) [2, 3, 0, 1] rfl ?_
            exact ih _ _ _ _ h hk99
          · replace h := q_f h hc
            refine go_aload_n rfl 2 rfl dX9_port_88 ?_
            refine go_bipush kz_bipush_59 dX9_port_89 ?_
            obtain ⟨r_18, h_19, h⟩ := q_b h
            refine h_callVi (st := []) [.int 59] (m_X9_is h_19) me_X9_is (g_recv cl7.1 rfl) tw_1136 tw_1138 tw_39 (hdd_of (by decide)) ⟨Nat.zero_le _, Nat.zero_le _⟩ rfl rfl (Nat.le_of_ble_eq_true rfl) dX9_port_91 ?_
            refine go_istore (l' := [(4, .int r_18.1), (3, .int (y3 + 1)), (0, .ref (ad 53)), (1, .int y1)]) dX9_port_94 (by decide) rfl ?_
            refine go_goto (tgt := 39) dX9_port_96 rfl ?_
            refine go_sub (l' := [(0, .ref (ad 53)), (1, .int y1), (3, .int (y3 + 1)), (4, .int r_18.1)]) [2, 3, 1, 0] rfl ?_
            exact ih _ _ _ _ h hk99
        · replace h := q_f h hc
          refine go_aload_n rfl 2 rfl dX9_port_63 ?_
          refine h_geti 14 cl7 rfl (by decide) tw_926 rfl dX9_port_64 ?_
          refine go_aload_n rfl 2 rfl dX9_port_67 ?_
          refine h_getr 11 cl7 rfl (by decide) tw_923 63 rfl dX9_port_68 ?_
          refine go_iload_n rfl 3 rfl dX9_port_71 ?_
          obtain ⟨hg_20, h⟩ := q_g h
          refine h_iald 8 rfl hg_20 dX9_port_72 ?_
          refine go_icmp_ne (tgt := 83) dX9_port_73 rfl (fun hc => ?_) (fun hc => ?_)
          · replace h := q_f h hc
            refine go_iload 1 rfl dX9_port_83 ?_
            refine go_if_eq (tgt := 39) dX9_port_85 rfl (fun hc => ?_) (fun hc => ?_)
            · replace h := q_t h hc
              refine go_sub (l' := [(0, .ref (ad 53)), (1, .int y1), (3, .int (y3 + 1)), (4, .int r_9.1)]) [2, 3, 0, 1] rfl ?_
              exact ih _ _ _ _ h hk99
            · replace h := q_f h hc
              refine go_aload_n rfl 2 rfl dX9_port_88 ?_
              refine go_bipush kz_bipush_59 dX9_port_89 ?_
              obtain ⟨r_21, h_22, h⟩ := q_b h
              refine h_callVi (st := []) [.int 59] (m_X9_is h_22) me_X9_is (g_recv cl7.1 rfl) tw_1136 tw_1138 tw_39 (hdd_of (by decide)) ⟨Nat.zero_le _, Nat.zero_le _⟩ rfl rfl (Nat.le_of_ble_eq_true rfl) dX9_port_91 ?_
              refine go_istore (l' := [(4, .int r_21.1), (3, .int (y3 + 1)), (0, .ref (ad 53)), (1, .int y1)]) dX9_port_94 (by decide) rfl ?_
              refine go_goto (tgt := 39) dX9_port_96 rfl ?_
              refine go_sub (l' := [(0, .ref (ad 53)), (1, .int y1), (3, .int (y3 + 1)), (4, .int r_21.1)]) [2, 3, 1, 0] rfl ?_
              exact ih _ _ _ _ h hk99
          · replace h := q_t h hc
            refine go_aload_n rfl 2 rfl dX9_port_76 ?_
            refine go_iconst kz_iconst_m1 dX9_port_77 ?_
            obtain ⟨ν_23, e_24, h⟩ := q_l h
            refine h_puti 16 cl7 rfl (by decide) tw_928 rfl rfl e_24 dX9_port_78 ?_
            refine go_iload_n rfl 0 rfl dX9_port_81 ?_
            exact h_iret h dX9_port_82 rfl
set_option maxRecDepth 20000 in
set_option maxHeartbeats 2000000 in
theorem m_X9_port {X : gX} {ad : Nat → Nat} {x1 : Int32} {ν : gN} {r : Int32 × gN}  (h : f_X9_port x1 ν = some r) : h_ct X ad yX9_port cX9_port 5 ((Option.some .int)) 8 [.ref (ad 53), .int x1] ν (some (.int r.1), r.2) := by
  rw [f_X9_port] at h
  refine h_ct_of (l := [(0, .ref (ad 53)), (1, .int x1)]) (by decide) (Nat.le_of_ble_eq_true rfl) rfl ?_
  refine go_aload_n rfl 0 rfl dX9_port_0 ?_
  refine go_iload_n rfl 1 rfl dX9_port_1 ?_
  obtain ⟨r_1, h_2, h⟩ := q_b h
  refine h_callVi (st := []) [.int x1] (m_X9_noRow h_2) me_X9_noRow (g_recv cl7.1 rfl) tw_1016 tw_1018 tw_24 (hdd_of (by decide)) ⟨Nat.zero_le _, Nat.zero_le _⟩ rfl rfl (Nat.le_of_ble_eq_true rfl) dX9_port_2 ?_
  refine go_istore_n (l' := [(2, .int r_1.1), (0, .ref (ad 53)), (1, .int x1)]) dX9_port_5 rfl (by decide) rfl ?_
  refine go_iload_n rfl 0 rfl dX9_port_6 ?_
  refine go_if_ge (tgt := 16) dX9_port_7 rfl (fun hc => ?_) (fun hc => ?_)
  · replace h := q_t h hc
    refine go_aload_n rfl 1 rfl dX9_port_16 ?_
    refine go_aload_n rfl 1 rfl dX9_port_17 ?_
    refine h_getr 17 cl7 rfl (by decide) tw_929 66 rfl dX9_port_18 ?_
    obtain ⟨r_3, h_4, h⟩ := q_b h
    refine h_callVv (st := []) [.ref (ad 66)] (m_X9_keep rfl h_4) me_X9_keep (g_recv cl7.1 rfl) tw_1117 tw_1119 tw_35 (hdd_of (by decide)) ⟨Nat.zero_le _, Nat.zero_le _⟩ rfl rfl (Nat.le_of_ble_eq_true rfl) dX9_port_21 ?_
    refine go_aload_n rfl 1 rfl dX9_port_24 ?_
    refine go_iload_n rfl 2 rfl dX9_port_25 ?_
    obtain ⟨ν_5, e_6, h⟩ := q_l h
    refine h_puti 13 cl7 rfl (by decide) tw_925 rfl rfl e_6 dX9_port_26 ?_
    refine go_aload_n rfl 1 rfl dX9_port_29 ?_
    refine go_iconst kz_iconst_0 dX9_port_30 ?_
    obtain ⟨ν_7, e_8, h⟩ := q_l h
    refine h_puti 14 cl7 rfl (by decide) tw_926 rfl rfl e_8 dX9_port_31 ?_
    refine go_iconst kz_iconst_0 dX9_port_34 ?_
    refine go_istore_n (l' := [(3, .int 0), (2, .int r_1.1), (0, .ref (ad 53)), (1, .int x1)]) dX9_port_35 rfl (by decide) rfl ?_
    refine go_iconst kz_iconst_1 dX9_port_36 ?_
    refine go_istore (l' := [(4, .int 1), (3, .int 0), (2, .int r_1.1), (0, .ref (ad 53)), (1, .int x1)]) dX9_port_37 (by decide) rfl ?_
    refine go_sub (l' := [(0, .ref (ad 53)), (1, .int x1), (3, .int 0), (4, .int 1)]) [3, 4, 1, 0] rfl ?_
    refine m_X9_port_L39  FU _ _ _ _ h (fun ν_25 h => ?_)
    refine go_aload_n rfl 0 rfl dX9_port_99 ?_
    refine go_aload_n rfl 0 rfl dX9_port_100 ?_
    refine h_geti 14 cl7 rfl (by decide) tw_926 rfl dX9_port_101 ?_
    obtain ⟨ν_26, e_27, h⟩ := q_l h
    refine h_puti 16 cl7 rfl (by decide) tw_928 rfl rfl e_27 dX9_port_104 ?_
    refine go_aload_n rfl 0 rfl dX9_port_107 ?_
    refine go_aload_n rfl 0 rfl dX9_port_108 ?_
    refine h_getr 17 cl7 rfl (by decide) tw_929 66 rfl dX9_port_109 ?_
    obtain ⟨r_28, h_29, h⟩ := q_b h
    refine h_callVv (st := []) [.ref (ad 66)] (m_X9_again rfl h_29) me_X9_again (g_recv cl7.1 rfl) tw_1156 tw_1158 tw_43 (hdd_of (by decide)) ⟨Nat.zero_le _, Nat.zero_le _⟩ rfl rfl (Nat.le_of_ble_eq_true rfl) dX9_port_112 ?_
    refine go_aload_n rfl 0 rfl dX9_port_115 ?_
    refine go_bipush kz_bipush_m6 dX9_port_116 ?_
    obtain ⟨r_30, h_31, h⟩ := q_b h
    refine h_callVi (st := []) [.int (-6)] (m_X9_no h_31) me_X9_no (g_recv cl7.1 rfl) tw_1008 tw_1010 tw_23 (hdd_of (by decide)) ⟨Nat.zero_le _, Nat.zero_le _⟩ rfl rfl (Nat.le_of_ble_eq_true rfl) dX9_port_118 ?_
    exact h_iret h dX9_port_121 rfl
  · replace h := q_f h hc
    refine go_aload_n rfl 1 rfl dX9_port_10 ?_
    refine go_iload_n rfl 0 rfl dX9_port_11 ?_
    obtain ⟨r_32, h_33, h⟩ := q_b h
    refine h_callVi (st := []) [.int r_1.1] (m_X9_no h_33) me_X9_no (g_recv cl7.1 rfl) tw_1008 tw_1010 tw_23 (hdd_of (by decide)) ⟨Nat.zero_le _, Nat.zero_le _⟩ rfl rfl (Nat.le_of_ble_eq_true rfl) dX9_port_12 ?_
    exact h_iret h dX9_port_15 rfl
noncomputable def f_X9_power_L49 (y1 : Int32) (y2 : Int32) (k134 : Int32 → gN → Option (Int32 × gN)) : Nat → Int32 → Int32 → gN → Option (Int32 × gN)
  | 0, _, _, _ => none
  | n + 1, y3, y4, ν =>
    if y2 < y4 then
      k134 y3 ν
    else
      if (y4 &&& (y2 ^^^ (-1))) = 0 then
        if ((j_shr y4 y1) &&& 1) = 1 then
          f_X9_power_L49 y1 y2 k134 n y3 (y4 + 1) ν
        else
          (f_X9_carry y4 y2 ν).bind (fun r_5 =>
            if r_5.1 = 0 then
              (f_X9_carry (y4 ||| (j_shl 1 y1)) y2 r_5.2).bind (fun r_7 =>
                if r_7.1 = 0 then
                  f_X9_power_L49 y1 y2 k134 n y3 (y4 + 1) r_7.2
                else
                  (f_J6_bitCount_0f7a4 y4 r_7.2).bind (fun r_9 =>
                    (f_X9_orders 10 r_9.1 r_9.2).bind (fun r_11 =>
                      (f_J6_bitCount_0f7a4 y2 r_11.2).bind (fun r_13 =>
                        (f_J6_bitCount_0f7a4 y4 r_13.2).bind (fun r_15 =>
                          (f_X9_orders 10 ((r_13.1 - r_15.1) - 1) r_15.2).bind (fun r_17 =>
                            f_X9_power_L49 y1 y2 k134 n (y3 + (r_11.1 * r_17.1)) (y4 + 1) r_17.2))))))
            else
              f_X9_power_L49 y1 y2 k134 n y3 (y4 + 1) r_5.2)
      else
        f_X9_power_L49 y1 y2 k134 n y3 (y4 + 1) ν
noncomputable def f_X9_power (x1 : Int32) (x2 : Int32) (ν : gN) : Option (Int32 × gN) :=
  (f_X9_isOne x1 ν).bind (fun r_1 =>
    if r_1.1 = 0 then
      (f_X9_no (-1) r_1.2).bind (fun r_25 =>
        some (r_25.1, r_25.2))
    else
      if ((j_shr x2 x1) &&& 1) = 0 then
        (f_X9_no (-5) r_1.2).bind (fun r_23 =>
          some (r_23.1, r_23.2))
      else
        (f_X9_areThere x2 r_1.2).bind (fun r_3 =>
          if r_3.1 = 0 then
            (f_X9_no (-6) r_3.2).bind (fun r_21 =>
              some (r_21.1, r_21.2))
          else
            f_X9_power_L49 x1 x2 (fun z3_19 ν_20 =>
              some (z3_19, ν_20)) FU 0 0 r_3.2))
theorem me_X9_power : g_me yX9_power cX9_power 5 ((Option.some .int)) 2 := ⟨tw_1279, tw_79, ⟨by decide +kernel, by decide +kernel, by decide +kernel⟩, by decide⟩
set_option maxRecDepth 20000 in
set_option maxHeartbeats 2000000 in
theorem m_X9_power_L49 {X : gX} {ad : Nat → Nat} {y1 : Int32} {y2 : Int32} {k134 : Int32 → gN → Option (Int32 × gN)}  : ∀ (n : Nat) (y3 : Int32) (y4 : Int32) (ν : gN) (r : Int32 × gN), f_X9_power_L49 y1 y2 k134 n y3 y4 ν = some r → (∀ (z3 : Int32) (ν1 : gN), k134 z3 ν1 = some r → h_go X ad RX9 "power" cX9_power 5 ((Option.some .int)) 12 (some (.int r.1), r.2) 134 [(3, .int z3)] [] ν1) → h_go X ad RX9 "power" cX9_power 5 ((Option.some .int)) 12 (some (.int r.1), r.2) 49 [(0, .ref (ad 53)), (1, .int y1), (2, .int y2), (3, .int y3), (4, .int y4)] [] ν := by
  intro n
  induction n with
  | zero => intro y3 y4 ν r h hk134; rw [f_X9_power_L49] at h; exact q_n h
  | succ n ih =>
    intro y3 y4 ν r h hk134
    rw [f_X9_power_L49] at h
    refine go_iload 4 rfl dX9_power_49 ?_
    refine go_iload_n rfl 2 rfl dX9_power_51 ?_
    refine go_icmp_gt (tgt := 134) dX9_power_52 rfl (fun hc => ?_) (fun hc => ?_)
    · replace h := q_t h hc
      refine go_sub (l' := [(3, .int y3)]) [3] rfl ?_
      exact hk134 _ _ h
    · replace h := q_f h hc
      refine go_iload 4 rfl dX9_power_55 ?_
      refine go_iload_n rfl 2 rfl dX9_power_57 ?_
      refine go_iconst kz_iconst_m1 dX9_power_58 ?_
      refine go_ixor dX9_power_59 ?_
      refine go_iand dX9_power_60 ?_
      refine go_if_ne (tgt := 128) dX9_power_61 rfl (fun hc => ?_) (fun hc => ?_)
      · replace h := q_f h hc
        refine h_iinc (l' := [(4, .int (y4 + 1)), (0, .ref (ad 53)), (1, .int y1), (2, .int y2), (3, .int y3)]) dX9_power_128 4 rfl kz_iconst_1 (by decide) rfl ?_
        refine go_goto (tgt := 49) dX9_power_131 rfl ?_
        refine go_sub (l' := [(0, .ref (ad 53)), (1, .int y1), (2, .int y2), (3, .int y3), (4, .int (y4 + 1))]) [1, 2, 3, 4, 0] rfl ?_
        exact ih _ _ _ _ h hk134
      · replace h := q_t h hc
        refine go_iload 4 rfl dX9_power_64 ?_
        refine go_iload_n rfl 1 rfl dX9_power_66 ?_
        refine h_ishr dX9_power_67 ?_
        refine go_iconst kz_iconst_1 dX9_power_68 ?_
        refine go_iand dX9_power_69 ?_
        refine go_iconst kz_iconst_1 dX9_power_70 ?_
        refine go_icmp_eq (tgt := 128) dX9_power_71 rfl (fun hc => ?_) (fun hc => ?_)
        · replace h := q_t h hc
          refine h_iinc (l' := [(4, .int (y4 + 1)), (0, .ref (ad 53)), (1, .int y1), (2, .int y2), (3, .int y3)]) dX9_power_128 4 rfl kz_iconst_1 (by decide) rfl ?_
          refine go_goto (tgt := 49) dX9_power_131 rfl ?_
          refine go_sub (l' := [(0, .ref (ad 53)), (1, .int y1), (2, .int y2), (3, .int y3), (4, .int (y4 + 1))]) [1, 2, 3, 4, 0] rfl ?_
          exact ih _ _ _ _ h hk134
        · replace h := q_f h hc
          refine go_aload_n rfl 0 rfl dX9_power_74 ?_
          refine go_iload 4 rfl dX9_power_75 ?_
          refine go_iload_n rfl 2 rfl dX9_power_77 ?_
          obtain ⟨r_5, h_6, h⟩ := q_b h
          refine h_callVi (st := []) [.int y4, .int y2] (m_X9_carry h_6) me_X9_carry (g_recv cl7.1 rfl) tw_1284 tw_1286 tw_61 (hdd_of (by decide)) ⟨Nat.zero_le _, Nat.zero_le _⟩ rfl rfl (Nat.le_of_ble_eq_true rfl) dX9_power_78 ?_
          refine go_if_ne (tgt := 128) dX9_power_81 rfl (fun hc => ?_) (fun hc => ?_)
          · replace h := q_f h hc
            refine h_iinc (l' := [(4, .int (y4 + 1)), (0, .ref (ad 53)), (1, .int y1), (2, .int y2), (3, .int y3)]) dX9_power_128 4 rfl kz_iconst_1 (by decide) rfl ?_
            refine go_goto (tgt := 49) dX9_power_131 rfl ?_
            refine go_sub (l' := [(0, .ref (ad 53)), (1, .int y1), (2, .int y2), (3, .int y3), (4, .int (y4 + 1))]) [1, 2, 3, 4, 0] rfl ?_
            exact ih _ _ _ _ h hk134
          · replace h := q_t h hc
            refine go_aload_n rfl 0 rfl dX9_power_84 ?_
            refine go_iload 4 rfl dX9_power_85 ?_
            refine go_iconst kz_iconst_1 dX9_power_87 ?_
            refine go_iload_n rfl 1 rfl dX9_power_88 ?_
            refine h_ishl dX9_power_89 ?_
            refine go_ior dX9_power_90 ?_
            refine go_iload_n rfl 2 rfl dX9_power_91 ?_
            obtain ⟨r_7, h_8, h⟩ := q_b h
            refine h_callVi (st := []) [.int (y4 ||| (j_shl 1 y1)), .int y2] (m_X9_carry h_8) me_X9_carry (g_recv cl7.1 rfl) tw_1284 tw_1286 tw_61 (hdd_of (by decide)) ⟨Nat.zero_le _, Nat.zero_le _⟩ rfl rfl (Nat.le_of_ble_eq_true rfl) dX9_power_92 ?_
            refine go_if_ne (tgt := 101) dX9_power_95 rfl (fun hc => ?_) (fun hc => ?_)
            · replace h := q_f h hc
              refine go_iload_n rfl 3 rfl dX9_power_101 ?_
              refine go_iload 4 rfl dX9_power_102 ?_
              obtain ⟨r_9, h_10, h⟩ := q_b h
              refine h_callSi (st := [.int y3]) [.int y4] (m_J6_bitCount_0f7a4 h_10) me_J6_bitCount_0f7a4 tw_1292 tw_795 (hdd_of (by decide)) ⟨Nat.zero_le _, Nat.zero_le _⟩ rfl rfl (Nat.le_of_ble_eq_true rfl) dX9_power_104 ?_
              obtain ⟨r_11, h_12, h⟩ := q_b h
              refine h_callSi (st := [.int y3]) [.int r_9.1] (m_X9_orders 10 _ _ _ h_12) me_X9_orders tw_1293 tw_1294 (hdd_of (by decide)) ⟨Nat.zero_le _, Nat.zero_le _⟩ rfl rfl (Nat.le_of_ble_eq_true rfl) dX9_power_107 ?_
              refine go_iload_n rfl 2 rfl dX9_power_110 ?_
              obtain ⟨r_13, h_14, h⟩ := q_b h
              refine h_callSi (st := [.int r_11.1, .int y3]) [.int y2] (m_J6_bitCount_0f7a4 h_14) me_J6_bitCount_0f7a4 tw_1292 tw_795 (hdd_of (by decide)) ⟨Nat.zero_le _, Nat.zero_le _⟩ rfl rfl (Nat.le_of_ble_eq_true rfl) dX9_power_111 ?_
              refine go_iload 4 rfl dX9_power_114 ?_
              obtain ⟨r_15, h_16, h⟩ := q_b h
              refine h_callSi (st := [.int r_13.1, .int r_11.1, .int y3]) [.int y4] (m_J6_bitCount_0f7a4 h_16) me_J6_bitCount_0f7a4 tw_1292 tw_795 (hdd_of (by decide)) ⟨Nat.zero_le _, Nat.zero_le _⟩ rfl rfl (Nat.le_of_ble_eq_true rfl) dX9_power_116 ?_
              refine go_isub dX9_power_119 ?_
              refine go_iconst kz_iconst_1 dX9_power_120 ?_
              refine go_isub dX9_power_121 ?_
              obtain ⟨r_17, h_18, h⟩ := q_b h
              refine h_callSi (st := [.int r_11.1, .int y3]) [.int ((r_13.1 - r_15.1) - 1)] (m_X9_orders 10 _ _ _ h_18) me_X9_orders tw_1293 tw_1294 (hdd_of (by decide)) ⟨Nat.zero_le _, Nat.zero_le _⟩ rfl rfl (Nat.le_of_ble_eq_true rfl) dX9_power_122 ?_
              refine go_imul dX9_power_125 ?_
              refine go_iadd dX9_power_126 ?_
              refine go_istore_n (l' := [(3, .int (y3 + (r_11.1 * r_17.1))), (0, .ref (ad 53)), (1, .int y1), (2, .int y2), (4, .int y4)]) dX9_power_127 rfl (by decide) rfl ?_
              refine h_iinc (l' := [(4, .int (y4 + 1)), (3, .int (y3 + (r_11.1 * r_17.1))), (0, .ref (ad 53)), (1, .int y1), (2, .int y2)]) dX9_power_128 4 rfl kz_iconst_1 (by decide) rfl ?_
              refine go_goto (tgt := 49) dX9_power_131 rfl ?_
              refine go_sub (l' := [(0, .ref (ad 53)), (1, .int y1), (2, .int y2), (3, .int (y3 + (r_11.1 * r_17.1))), (4, .int (y4 + 1))]) [2, 3, 4, 1, 0] rfl ?_
              exact ih _ _ _ _ h hk134
            · replace h := q_t h hc
              refine go_goto (tgt := 128) dX9_power_98 rfl ?_
              refine h_iinc (l' := [(4, .int (y4 + 1)), (0, .ref (ad 53)), (1, .int y1), (2, .int y2), (3, .int y3)]) dX9_power_128 4 rfl kz_iconst_1 (by decide) rfl ?_
              refine go_goto (tgt := 49) dX9_power_131 rfl ?_
              refine go_sub (l' := [(0, .ref (ad 53)), (1, .int y1), (2, .int y2), (3, .int y3), (4, .int (y4 + 1))]) [1, 2, 3, 4, 0] rfl ?_
              exact ih _ _ _ _ h hk134
set_option maxRecDepth 20000 in
set_option maxHeartbeats 2000000 in
theorem m_X9_power {X : gX} {ad : Nat → Nat} {x1 : Int32} {x2 : Int32} {ν : gN} {r : Int32 × gN}  (h : f_X9_power x1 x2 ν = some r) : h_ct X ad yX9_power cX9_power 5 ((Option.some .int)) 12 [.ref (ad 53), .int x1, .int x2] ν (some (.int r.1), r.2) := by
  rw [f_X9_power] at h
  refine h_ct_of (l := [(0, .ref (ad 53)), (1, .int x1), (2, .int x2)]) (by decide) (Nat.le_of_ble_eq_true rfl) rfl ?_
  refine go_aload_n rfl 0 rfl dX9_power_0 ?_
  refine go_iload_n rfl 1 rfl dX9_power_1 ?_
  obtain ⟨r_1, h_2, h⟩ := q_b h
  refine h_callVi (st := []) [.int x1] (m_X9_isOne h_2) me_X9_isOne (g_recv cl7.1 rfl) tw_1036 tw_1038 tw_26 (hdd_of (by decide)) ⟨Nat.zero_le _, Nat.zero_le _⟩ rfl rfl (Nat.le_of_ble_eq_true rfl) dX9_power_2 ?_
  refine go_if_ne (tgt := 14) dX9_power_5 rfl (fun hc => ?_) (fun hc => ?_)
  · replace h := q_f h hc
    refine go_iload_n rfl 2 rfl dX9_power_14 ?_
    refine go_iload_n rfl 1 rfl dX9_power_15 ?_
    refine h_ishr dX9_power_16 ?_
    refine go_iconst kz_iconst_1 dX9_power_17 ?_
    refine go_iand dX9_power_18 ?_
    refine go_if_ne (tgt := 29) dX9_power_19 rfl (fun hc => ?_) (fun hc => ?_)
    · replace h := q_f h hc
      refine go_aload_n rfl 0 rfl dX9_power_29 ?_
      refine go_iload_n rfl 2 rfl dX9_power_30 ?_
      obtain ⟨r_3, h_4, h⟩ := q_b h
      refine h_callVi (st := []) [.int x2] (m_X9_areThere h_4) me_X9_areThere (g_recv cl7.1 rfl) tw_1280 tw_1282 tw_60 (hdd_of (by decide)) ⟨Nat.zero_le _, Nat.zero_le _⟩ rfl rfl (Nat.le_of_ble_eq_true rfl) dX9_power_31 ?_
      refine go_if_ne (tgt := 44) dX9_power_34 rfl (fun hc => ?_) (fun hc => ?_)
      · replace h := q_f h hc
        refine go_iconst kz_iconst_0 dX9_power_44 ?_
        refine go_istore_n (l' := [(3, .int 0), (0, .ref (ad 53)), (1, .int x1), (2, .int x2)]) dX9_power_45 rfl (by decide) rfl ?_
        refine go_iconst kz_iconst_0 dX9_power_46 ?_
        refine go_istore (l' := [(4, .int 0), (3, .int 0), (0, .ref (ad 53)), (1, .int x1), (2, .int x2)]) dX9_power_47 (by decide) rfl ?_
        refine go_sub (l' := [(0, .ref (ad 53)), (1, .int x1), (2, .int x2), (3, .int 0), (4, .int 0)]) [2, 3, 4, 1, 0] rfl ?_
        refine m_X9_power_L49  FU _ _ _ _ h (fun z3_19 ν_20 h => ?_)
        refine go_iload_n rfl 0 rfl dX9_power_134 ?_
        exact h_iret h dX9_power_135 rfl
      · replace h := q_t h hc
        refine go_aload_n rfl 0 rfl dX9_power_37 ?_
        refine go_bipush kz_bipush_m6 dX9_power_38 ?_
        obtain ⟨r_21, h_22, h⟩ := q_b h
        refine h_callVi (st := []) [.int (-6)] (m_X9_no h_22) me_X9_no (g_recv cl7.1 rfl) tw_1008 tw_1010 tw_23 (hdd_of (by decide)) ⟨Nat.zero_le _, Nat.zero_le _⟩ rfl rfl (Nat.le_of_ble_eq_true rfl) dX9_power_40 ?_
        exact h_iret h dX9_power_43 rfl
    · replace h := q_t h hc
      refine go_aload_n rfl 0 rfl dX9_power_22 ?_
      refine go_bipush kz_bipush_m5 dX9_power_23 ?_
      obtain ⟨r_23, h_24, h⟩ := q_b h
      refine h_callVi (st := []) [.int (-5)] (m_X9_no h_24) me_X9_no (g_recv cl7.1 rfl) tw_1008 tw_1010 tw_23 (hdd_of (by decide)) ⟨Nat.zero_le _, Nat.zero_le _⟩ rfl rfl (Nat.le_of_ble_eq_true rfl) dX9_power_25 ?_
      exact h_iret h dX9_power_28 rfl
  · replace h := q_t h hc
    refine go_aload_n rfl 0 rfl dX9_power_8 ?_
    refine go_iconst kz_iconst_m1 dX9_power_9 ?_
    obtain ⟨r_25, h_26, h⟩ := q_b h
    refine h_callVi (st := []) [.int (-1)] (m_X9_no h_26) me_X9_no (g_recv cl7.1 rfl) tw_1008 tw_1010 tw_23 (hdd_of (by decide)) ⟨Nat.zero_le _, Nat.zero_le _⟩ rfl rfl (Nat.le_of_ble_eq_true rfl) dX9_power_10 ?_
    exact h_iret h dX9_power_13 rfl
noncomputable def f_X9_restore_L32  (k72 : gN → Option (Int32 × gN)) : Nat → Int32 → gN → Option (Int32 × gN)
  | 0, _, _ => none
  | n + 1, y1, ν =>
    if 8 ≤ y1 then
      k72  ν
    else
      (f_X9_isRow y1 ν).bind (fun r_5 =>
        if r_5.1 = 0 then
          if inb y1 8 = true then
            if (r_5.2.1 62 y1.toNatClampNeg) < (r_5.2.1 53 0) then
              f_X9_restore_L32 k72 n (y1 + 1) r_5.2
            else
              if inb y1 8 = true then
                qL (nWI r_5.2 62 y1.toNatClampNeg (-1)) (fun ν_9 =>
                  f_X9_restore_L32 k72 n (y1 + 1) ν_9)
              else none
          else none
        else
          f_X9_restore_L32 k72 n (y1 + 1) r_5.2)
noncomputable def f_X9_restore  (ν : gN) : Option (Int32 × gN) :=
  if (ν.1 53 21) = 0 then
    (f_X9_no (-6) ν).bind (fun r_12 =>
      some (r_12.1, r_12.2))
  else
    (f_X9_again 69 ν).bind (fun r_1 =>
      qL (nWI r_1 53 9 (r_1.1 53 23)) (fun ν_3 =>
        f_X9_restore_L32  (fun ν_11 =>
          some (ν_11.1 53 0, ν_11)) FU 0 ν_3))
theorem me_X9_restore : g_me yX9_restore cX9_restore 2 ((Option.some .int)) 0 := ⟨tw_1376, tw_79, ⟨by decide +kernel, by decide +kernel, by decide +kernel⟩, by decide⟩
set_option maxRecDepth 20000 in
set_option maxHeartbeats 2000000 in
theorem m_X9_restore_L32 {X : gX} {ad : Nat → Nat}  {k72 : gN → Option (Int32 × gN)}  : ∀ (n : Nat) (y1 : Int32) (ν : gN) (r : Int32 × gN), f_X9_restore_L32 k72 n y1 ν = some r → (∀ (ν1 : gN), k72 ν1 = some r → h_go X ad RX9 "restore" cX9_restore 2 ((Option.some .int)) 3 (some (.int r.1), r.2) 72 [(0, .ref (ad 53))] [] ν1) → h_go X ad RX9 "restore" cX9_restore 2 ((Option.some .int)) 3 (some (.int r.1), r.2) 32 [(0, .ref (ad 53)), (1, .int y1)] [] ν := by
  intro n
  induction n with
  | zero => intro y1 ν r h hk72; rw [f_X9_restore_L32] at h; exact q_n h
  | succ n ih =>
    intro y1 ν r h hk72
    rw [f_X9_restore_L32] at h
    refine go_iload_n rfl 1 rfl dX9_restore_32 ?_
    refine go_bipush kz_bipush_8 dX9_restore_33 ?_
    refine go_icmp_ge (tgt := 72) dX9_restore_35 rfl (fun hc => ?_) (fun hc => ?_)
    · replace h := q_t h hc
      refine go_sub (l' := [(0, .ref (ad 53))]) [0] rfl ?_
      exact hk72  _ h
    · replace h := q_f h hc
      refine go_aload_n rfl 0 rfl dX9_restore_38 ?_
      refine go_iload_n rfl 1 rfl dX9_restore_39 ?_
      obtain ⟨r_5, h_6, h⟩ := q_b h
      refine h_callVi (st := []) [.int y1] (m_X9_isRow h_6) me_X9_isRow (g_recv cl7.1 rfl) tw_1020 tw_1022 tw_25 (hdd_of (by decide)) ⟨Nat.zero_le _, Nat.zero_le _⟩ rfl rfl (Nat.le_of_ble_eq_true rfl) dX9_restore_40 ?_
      refine go_if_ne (tgt := 66) dX9_restore_43 rfl (fun hc => ?_) (fun hc => ?_)
      · replace h := q_f h hc
        refine h_iinc (l' := [(1, .int (y1 + 1)), (0, .ref (ad 53))]) dX9_restore_66 1 rfl kz_iconst_1 (by decide) rfl ?_
        refine go_goto (tgt := 32) dX9_restore_69 rfl ?_
        refine go_sub (l' := [(0, .ref (ad 53)), (1, .int (y1 + 1))]) [1, 0] rfl ?_
        exact ih _ _ _ h hk72
      · replace h := q_t h hc
        refine go_aload_n rfl 0 rfl dX9_restore_46 ?_
        refine h_getr 10 cl7 rfl (by decide) tw_922 62 rfl dX9_restore_47 ?_
        refine go_iload_n rfl 1 rfl dX9_restore_50 ?_
        obtain ⟨hg_7, h⟩ := q_g h
        refine h_iald 8 rfl hg_7 dX9_restore_51 ?_
        refine go_aload_n rfl 0 rfl dX9_restore_52 ?_
        refine h_geti 0 cl7 rfl (by decide) tw_912 rfl dX9_restore_53 ?_
        refine go_icmp_lt (tgt := 66) dX9_restore_56 rfl (fun hc => ?_) (fun hc => ?_)
        · replace h := q_t h hc
          refine h_iinc (l' := [(1, .int (y1 + 1)), (0, .ref (ad 53))]) dX9_restore_66 1 rfl kz_iconst_1 (by decide) rfl ?_
          refine go_goto (tgt := 32) dX9_restore_69 rfl ?_
          refine go_sub (l' := [(0, .ref (ad 53)), (1, .int (y1 + 1))]) [1, 0] rfl ?_
          exact ih _ _ _ h hk72
        · replace h := q_f h hc
          refine go_aload_n rfl 0 rfl dX9_restore_59 ?_
          refine h_getr 10 cl7 rfl (by decide) tw_922 62 rfl dX9_restore_60 ?_
          refine go_iload_n rfl 1 rfl dX9_restore_63 ?_
          refine go_iconst kz_iconst_m1 dX9_restore_64 ?_
          obtain ⟨hg_8, h⟩ := q_g h
          obtain ⟨ν_9, e_10, h⟩ := q_l h
          refine h_iast 8 rfl hg_8 e_10 dX9_restore_65 ?_
          refine h_iinc (l' := [(1, .int (y1 + 1)), (0, .ref (ad 53))]) dX9_restore_66 1 rfl kz_iconst_1 (by decide) rfl ?_
          refine go_goto (tgt := 32) dX9_restore_69 rfl ?_
          refine go_sub (l' := [(0, .ref (ad 53)), (1, .int (y1 + 1))]) [1, 0] rfl ?_
          exact ih _ _ _ h hk72
set_option maxRecDepth 20000 in
set_option maxHeartbeats 2000000 in
theorem m_X9_restore {X : gX} {ad : Nat → Nat}  {ν : gN} {r : Int32 × gN}  (h : f_X9_restore  ν = some r) : h_ct X ad yX9_restore cX9_restore 2 ((Option.some .int)) 3 [.ref (ad 53)] ν (some (.int r.1), r.2) := by
  rw [f_X9_restore] at h
  refine h_ct_of (l := [(0, .ref (ad 53))]) (by decide) (Nat.le_of_ble_eq_true rfl) rfl ?_
  refine go_aload_n rfl 0 rfl dX9_restore_0 ?_
  refine h_geti 21 cl7 rfl (by decide) tw_933 rfl dX9_restore_1 ?_
  refine go_if_ne (tgt := 14) dX9_restore_4 rfl (fun hc => ?_) (fun hc => ?_)
  · replace h := q_f h hc
    refine go_aload_n rfl 0 rfl dX9_restore_14 ?_
    refine go_aload_n rfl 0 rfl dX9_restore_15 ?_
    refine h_getr 22 cl7 rfl (by decide) tw_934 69 rfl dX9_restore_16 ?_
    obtain ⟨r_1, h_2, h⟩ := q_b h
    refine h_callVv (st := []) [.ref (ad 69)] (m_X9_again rfl h_2) me_X9_again (g_recv cl7.1 rfl) tw_1156 tw_1158 tw_43 (hdd_of (by decide)) ⟨Nat.zero_le _, Nat.zero_le _⟩ rfl rfl (Nat.le_of_ble_eq_true rfl) dX9_restore_19 ?_
    refine go_aload_n rfl 0 rfl dX9_restore_22 ?_
    refine go_aload_n rfl 0 rfl dX9_restore_23 ?_
    refine h_geti 23 cl7 rfl (by decide) tw_935 rfl dX9_restore_24 ?_
    obtain ⟨ν_3, e_4, h⟩ := q_l h
    refine h_puti 9 cl7 rfl (by decide) tw_921 rfl rfl e_4 dX9_restore_27 ?_
    refine go_iconst kz_iconst_0 dX9_restore_30 ?_
    refine go_istore_n (l' := [(1, .int 0), (0, .ref (ad 53))]) dX9_restore_31 rfl (by decide) rfl ?_
    refine go_sub (l' := [(0, .ref (ad 53)), (1, .int 0)]) [1, 0] rfl ?_
    refine m_X9_restore_L32  FU _ _ _ h (fun ν_11 h => ?_)
    refine go_aload_n rfl 0 rfl dX9_restore_72 ?_
    refine h_geti 0 cl7 rfl (by decide) tw_912 rfl dX9_restore_73 ?_
    exact h_iret h dX9_restore_76 rfl
  · replace h := q_t h hc
    refine go_aload_n rfl 0 rfl dX9_restore_7 ?_
    refine go_bipush kz_bipush_m6 dX9_restore_8 ?_
    obtain ⟨r_12, h_13, h⟩ := q_b h
    refine h_callVi (st := []) [.int (-6)] (m_X9_no h_13) me_X9_no (g_recv cl7.1 rfl) tw_1008 tw_1010 tw_23 (hdd_of (by decide)) ⟨Nat.zero_le _, Nat.zero_le _⟩ rfl rfl (Nat.le_of_ble_eq_true rfl) dX9_restore_10 ?_
    exact h_iret h dX9_restore_13 rfl
noncomputable def f_X9_row_L77 (y1 : Int32) (k105 : gN → Option (Int32 × gN)) : Nat → Int32 → gN → Option (Int32 × gN)
  | 0, _, _ => none
  | n + 1, y4, ν =>
    if 160 ≤ y4 then
      k105  ν
    else
      if inb ((160 * y1) + y4) 1280 = true then
        qL (nWL ν 64 ((160 * y1) + y4).toNatClampNeg 0) (fun ν_12 =>
          f_X9_row_L77 y1 k105 n (y4 + 1) ν_12)
      else none
noncomputable def f_X9_row (x1 : Int32) (x2 : Int32) (x3 : Int32) (ν : gN) : Option (Int32 × gN) :=
  (f_X9_within x1 0 7 ν).bind (fun r_1 =>
    if r_1.1 = 0 then
      (f_X9_no (-1) r_1.2).bind (fun r_21 =>
        some (r_21.1, r_21.2))
    else
      if 0 ≤ x3 then
        (f_X9_within x2 0 3 r_1.2).bind (fun r_3 =>
          if r_3.1 = 0 then
            (f_X9_no (-6) r_3.2).bind (fun r_17 =>
              some (r_17.1, r_17.2))
          else
            if x3 ≤ 160 then
              if inb x1 8 = true then
                qL (nWI r_3.2 62 x1.toNatClampNeg (100 + x2)) (fun ν_6 =>
                  if inb x1 8 = true then
                    qL (nWI ν_6 63 x1.toNatClampNeg x3) (fun ν_9 =>
                      f_X9_row_L77 x1 (fun ν_14 =>
                        some (1, ν_14)) FU 0 ν_9)
                  else none)
              else none
            else
              (f_X9_no (-7) r_3.2).bind (fun r_15 =>
                some (r_15.1, r_15.2)))
      else
        (f_X9_no (-4) r_1.2).bind (fun r_19 =>
          some (r_19.1, r_19.2)))
theorem me_X9_row : g_me yX9_row cX9_row 5 ((Option.some .int)) 3 := ⟨tw_1004, tw_79, ⟨by decide +kernel, by decide +kernel, by decide +kernel⟩, by decide⟩
set_option maxRecDepth 20000 in
set_option maxHeartbeats 2000000 in
theorem m_X9_row_L77 {X : gX} {ad : Nat → Nat} {y1 : Int32} {k105 : gN → Option (Int32 × gN)}  : ∀ (n : Nat) (y4 : Int32) (ν : gN) (r : Int32 × gN), f_X9_row_L77 y1 k105 n y4 ν = some r → (∀ (ν1 : gN), k105 ν1 = some r → h_go X ad RX9 "row" cX9_row 5 ((Option.some .int)) 2 (some (.int r.1), r.2) 105 [] [] ν1) → h_go X ad RX9 "row" cX9_row 5 ((Option.some .int)) 2 (some (.int r.1), r.2) 77 [(0, .ref (ad 53)), (1, .int y1), (4, .int y4)] [] ν := by
  intro n
  induction n with
  | zero => intro y4 ν r h hk105; rw [f_X9_row_L77] at h; exact q_n h
  | succ n ih =>
    intro y4 ν r h hk105
    rw [f_X9_row_L77] at h
    refine go_iload 2 rfl dX9_row_77 ?_
    refine go_sipush kz_sipush_160 dX9_row_79 ?_
    refine go_icmp_ge (tgt := 105) dX9_row_82 rfl (fun hc => ?_) (fun hc => ?_)
    · replace h := q_t h hc
      refine go_sub (l' := []) [] rfl ?_
      exact hk105  _ h
    · replace h := q_f h hc
      refine go_aload_n rfl 0 rfl dX9_row_85 ?_
      refine h_getr 12 cl7 rfl (by decide) tw_924 64 rfl dX9_row_86 ?_
      refine go_sipush kz_sipush_160 dX9_row_89 ?_
      refine go_iload_n rfl 1 rfl dX9_row_92 ?_
      refine go_imul dX9_row_93 ?_
      refine go_iload 2 rfl dX9_row_94 ?_
      refine go_iadd dX9_row_96 ?_
      refine go_lconst (v := 0) rfl dX9_row_97 ?_
      obtain ⟨hg_11, h⟩ := q_g h
      obtain ⟨ν_12, e_13, h⟩ := q_l h
      refine h_last 1280 rfl hg_11 e_13 dX9_row_98 ?_
      refine h_iinc (l' := [(4, .int (y4 + 1)), (0, .ref (ad 53)), (1, .int y1)]) dX9_row_99 2 rfl kz_iconst_1 (by decide) rfl ?_
      refine go_goto (tgt := 77) dX9_row_102 rfl ?_
      refine go_sub (l' := [(0, .ref (ad 53)), (1, .int y1), (4, .int (y4 + 1))]) [1, 2, 0] rfl ?_
      exact ih _ _ _ h hk105
set_option maxRecDepth 20000 in
set_option maxHeartbeats 2000000 in
theorem m_X9_row {X : gX} {ad : Nat → Nat} {x1 : Int32} {x2 : Int32} {x3 : Int32} {ν : gN} {r : Int32 × gN}  (h : f_X9_row x1 x2 x3 ν = some r) : h_ct X ad yX9_row cX9_row 5 ((Option.some .int)) 2 [.ref (ad 53), .int x1, .int x2, .int x3] ν (some (.int r.1), r.2) := by
  rw [f_X9_row] at h
  refine h_ct_of (l := [(0, .ref (ad 53)), (1, .int x1), (2, .int x2), (3, .int x3)]) (by decide) (Nat.le_of_ble_eq_true rfl) rfl ?_
  refine go_iload_n rfl 1 rfl dX9_row_0 ?_
  refine go_iconst kz_iconst_0 dX9_row_1 ?_
  refine go_bipush kz_bipush_7 dX9_row_2 ?_
  obtain ⟨r_1, h_2, h⟩ := q_b h
  refine h_callSi (st := []) [.int x1, .int 0, .int 7] (m_X9_within h_2) me_X9_within tw_1005 tw_1006 (hdd_of (by decide)) ⟨Nat.zero_le _, Nat.zero_le _⟩ rfl rfl (Nat.le_of_ble_eq_true rfl) dX9_row_4 ?_
  refine go_if_ne (tgt := 16) dX9_row_7 rfl (fun hc => ?_) (fun hc => ?_)
  · replace h := q_f h hc
    refine go_iload_n rfl 3 rfl dX9_row_16 ?_
    refine go_if_ge (tgt := 27) dX9_row_17 rfl (fun hc => ?_) (fun hc => ?_)
    · replace h := q_t h hc
      refine go_iload_n rfl 2 rfl dX9_row_27 ?_
      refine go_iconst kz_iconst_0 dX9_row_28 ?_
      refine go_iconst kz_iconst_3 dX9_row_29 ?_
      obtain ⟨r_3, h_4, h⟩ := q_b h
      refine h_callSi (st := []) [.int x2, .int 0, .int 3] (m_X9_within h_4) me_X9_within tw_1005 tw_1006 (hdd_of (by decide)) ⟨Nat.zero_le _, Nat.zero_le _⟩ rfl rfl (Nat.le_of_ble_eq_true rfl) dX9_row_30 ?_
      refine go_if_ne (tgt := 43) dX9_row_33 rfl (fun hc => ?_) (fun hc => ?_)
      · replace h := q_f h hc
        refine go_iload_n rfl 3 rfl dX9_row_43 ?_
        refine go_sipush kz_sipush_160 dX9_row_44 ?_
        refine go_icmp_le (tgt := 57) dX9_row_47 rfl (fun hc => ?_) (fun hc => ?_)
        · replace h := q_t h hc
          refine go_aload_n rfl 0 rfl dX9_row_57 ?_
          refine h_getr 10 cl7 rfl (by decide) tw_922 62 rfl dX9_row_58 ?_
          refine go_iload_n rfl 1 rfl dX9_row_61 ?_
          refine go_bipush kz_bipush_100 dX9_row_62 ?_
          refine go_iload_n rfl 2 rfl dX9_row_64 ?_
          refine go_iadd dX9_row_65 ?_
          obtain ⟨hg_5, h⟩ := q_g h
          obtain ⟨ν_6, e_7, h⟩ := q_l h
          refine h_iast 8 rfl hg_5 e_7 dX9_row_66 ?_
          refine go_aload_n rfl 0 rfl dX9_row_67 ?_
          refine h_getr 11 cl7 rfl (by decide) tw_923 63 rfl dX9_row_68 ?_
          refine go_iload_n rfl 1 rfl dX9_row_71 ?_
          refine go_iload_n rfl 3 rfl dX9_row_72 ?_
          obtain ⟨hg_8, h⟩ := q_g h
          obtain ⟨ν_9, e_10, h⟩ := q_l h
          refine h_iast 8 rfl hg_8 e_10 dX9_row_73 ?_
          refine go_iconst kz_iconst_0 dX9_row_74 ?_
          refine go_istore (l' := [(4, .int 0), (0, .ref (ad 53)), (1, .int x1), (2, .int x2), (3, .int x3)]) dX9_row_75 (by decide) rfl ?_
          refine go_sub (l' := [(0, .ref (ad 53)), (1, .int x1), (4, .int 0)]) [1, 2, 0] rfl ?_
          refine m_X9_row_L77  FU _ _ _ h (fun ν_14 h => ?_)
          refine go_iconst kz_iconst_1 dX9_row_105 ?_
          exact h_iret h dX9_row_106 rfl
        · replace h := q_f h hc
          refine go_aload_n rfl 0 rfl dX9_row_50 ?_
          refine go_bipush kz_bipush_m7 dX9_row_51 ?_
          obtain ⟨r_15, h_16, h⟩ := q_b h
          refine h_callVi (st := []) [.int (-7)] (m_X9_no h_16) me_X9_no (g_recv cl7.1 rfl) tw_1008 tw_1010 tw_23 (hdd_of (by decide)) ⟨Nat.zero_le _, Nat.zero_le _⟩ rfl rfl (Nat.le_of_ble_eq_true rfl) dX9_row_53 ?_
          exact h_iret h dX9_row_56 rfl
      · replace h := q_t h hc
        refine go_aload_n rfl 0 rfl dX9_row_36 ?_
        refine go_bipush kz_bipush_m6 dX9_row_37 ?_
        obtain ⟨r_17, h_18, h⟩ := q_b h
        refine h_callVi (st := []) [.int (-6)] (m_X9_no h_18) me_X9_no (g_recv cl7.1 rfl) tw_1008 tw_1010 tw_23 (hdd_of (by decide)) ⟨Nat.zero_le _, Nat.zero_le _⟩ rfl rfl (Nat.le_of_ble_eq_true rfl) dX9_row_39 ?_
        exact h_iret h dX9_row_42 rfl
    · replace h := q_f h hc
      refine go_aload_n rfl 0 rfl dX9_row_20 ?_
      refine go_bipush kz_bipush_m4 dX9_row_21 ?_
      obtain ⟨r_19, h_20, h⟩ := q_b h
      refine h_callVi (st := []) [.int (-4)] (m_X9_no h_20) me_X9_no (g_recv cl7.1 rfl) tw_1008 tw_1010 tw_23 (hdd_of (by decide)) ⟨Nat.zero_le _, Nat.zero_le _⟩ rfl rfl (Nat.le_of_ble_eq_true rfl) dX9_row_23 ?_
      exact h_iret h dX9_row_26 rfl
  · replace h := q_t h hc
    refine go_aload_n rfl 0 rfl dX9_row_10 ?_
    refine go_iconst kz_iconst_m1 dX9_row_11 ?_
    obtain ⟨r_21, h_22, h⟩ := q_b h
    refine h_callVi (st := []) [.int (-1)] (m_X9_no h_22) me_X9_no (g_recv cl7.1 rfl) tw_1008 tw_1010 tw_23 (hdd_of (by decide)) ⟨Nat.zero_le _, Nat.zero_le _⟩ rfl rfl (Nat.le_of_ble_eq_true rfl) dX9_row_12 ?_
    exact h_iret h dX9_row_15 rfl
noncomputable def f_X9_run (x1 : Int32) (ν : gN) : Option (Int32 × gN) :=
  (f_X9_within x1 1 30 ν).bind (fun r_1 =>
    if r_1.1 = 0 then
      (f_X9_no (-6) r_1.2).bind (fun r_6 =>
        some (r_6.1, r_6.2))
    else
      (f_X9_goesOn x1 r_1.2).bind (fun r_3 =>
        if inb 2 4 = true then
          some (r_3.1 61 (2 : Int32).toNatClampNeg, r_3)
        else none))
theorem me_X9_run : g_me yX9_run cX9_run 2 ((Option.some .int)) 1 := ⟨tw_1323, tw_79, ⟨by decide +kernel, by decide +kernel, by decide +kernel⟩, by decide⟩
set_option maxRecDepth 20000 in
set_option maxHeartbeats 2000000 in
theorem m_X9_run {X : gX} {ad : Nat → Nat} {x1 : Int32} {ν : gN} {r : Int32 × gN}  (h : f_X9_run x1 ν = some r) : h_ct X ad yX9_run cX9_run 2 ((Option.some .int)) 10 [.ref (ad 53), .int x1] ν (some (.int r.1), r.2) := by
  rw [f_X9_run] at h
  refine h_ct_of (l := [(0, .ref (ad 53)), (1, .int x1)]) (by decide) (Nat.le_of_ble_eq_true rfl) rfl ?_
  refine go_iload_n rfl 1 rfl dX9_run_0 ?_
  refine go_iconst kz_iconst_1 dX9_run_1 ?_
  refine go_bipush kz_bipush_30 dX9_run_2 ?_
  obtain ⟨r_1, h_2, h⟩ := q_b h
  refine h_callSi (st := []) [.int x1, .int 1, .int 30] (m_X9_within h_2) me_X9_within tw_1005 tw_1006 (hdd_of (by decide)) ⟨Nat.zero_le _, Nat.zero_le _⟩ rfl rfl (Nat.le_of_ble_eq_true rfl) dX9_run_4 ?_
  refine go_if_ne (tgt := 17) dX9_run_7 rfl (fun hc => ?_) (fun hc => ?_)
  · replace h := q_f h hc
    refine go_aload_n rfl 0 rfl dX9_run_17 ?_
    refine go_iload_n rfl 1 rfl dX9_run_18 ?_
    obtain ⟨r_3, h_4, h⟩ := q_b h
    refine h_callVv (st := []) [.int x1] (m_X9_goesOn h_4) me_X9_goesOn (g_recv cl7.1 rfl) tw_1207 tw_1209 tw_51 (hdd_of (by decide)) ⟨Nat.zero_le _, Nat.zero_le _⟩ rfl rfl (Nat.le_of_ble_eq_true rfl) dX9_run_19 ?_
    refine go_aload_n rfl 0 rfl dX9_run_22 ?_
    refine h_getr 8 cl7 rfl (by decide) tw_920 61 rfl dX9_run_23 ?_
    refine go_iconst kz_iconst_2 dX9_run_26 ?_
    obtain ⟨hg_5, h⟩ := q_g h
    refine h_iald 4 rfl hg_5 dX9_run_27 ?_
    exact h_iret h dX9_run_28 rfl
  · replace h := q_t h hc
    refine go_aload_n rfl 0 rfl dX9_run_10 ?_
    refine go_bipush kz_bipush_m6 dX9_run_11 ?_
    obtain ⟨r_6, h_7, h⟩ := q_b h
    refine h_callVi (st := []) [.int (-6)] (m_X9_no h_7) me_X9_no (g_recv cl7.1 rfl) tw_1008 tw_1010 tw_23 (hdd_of (by decide)) ⟨Nat.zero_le _, Nat.zero_le _⟩ rfl rfl (Nat.le_of_ble_eq_true rfl) dX9_run_13 ?_
    exact h_iret h dX9_run_16 rfl
noncomputable def f_X9_says (x1 : Int32) (x2 : Int32) (ν : gN) : Option (Int32 × gN) :=
  (f_X9_within x1 0 7 ν).bind (fun r_1 =>
    if r_1.1 = 0 then
      (f_X9_no (-1) r_1.2).bind (fun r_3 =>
        some (r_3.1, r_3.2))
    else
      (f_X9_within x2 0 6 r_1.2).bind (fun r_5 =>
        if r_5.1 = 0 then
          (f_X9_no (-1) r_5.2).bind (fun r_53 =>
            some (r_53.1, r_53.2))
        else
          if inb x1 8 = true then
            if (r_5.2.1 62 x1.toNatClampNeg) < 0 then
              if 0 ≤ (r_5.2.1 62 x1.toNatClampNeg) then
                if x2 = 0 then
                  if inb (r_5.2.1 62 x1.toNatClampNeg) 7 = true then
                    some (r_5.2.1 58 (r_5.2.1 62 x1.toNatClampNeg).toNatClampNeg, r_5.2)
                  else none
                else
                if x2 = 1 then
                  (f_X9_smell (r_5.2.1 62 x1.toNatClampNeg) r_5.2).bind (fun r_11 =>
                    some (r_11.1, r_11.2))
                else
                if x2 = 2 then
                  if inb (r_5.2.1 62 x1.toNatClampNeg) 7 = true then
                    some (r_5.2.1 57 (r_5.2.1 62 x1.toNatClampNeg).toNatClampNeg, r_5.2)
                  else none
                else
                if x2 = 3 then
                  (f_X9_smell (r_5.2.1 62 x1.toNatClampNeg) r_5.2).bind (fun r_16 =>
                    some (r_16.1, r_16.2))
                else
                if x2 = 4 then
                  if inb (r_5.2.1 62 x1.toNatClampNeg) 7 = true then
                    some (r_5.2.1 56 (r_5.2.1 62 x1.toNatClampNeg).toNatClampNeg, r_5.2)
                  else none
                else
                if x2 = 5 then
                  if inb (r_5.2.1 62 x1.toNatClampNeg) 7 = true then
                    some (r_5.2.1 57 (r_5.2.1 62 x1.toNatClampNeg).toNatClampNeg, r_5.2)
                  else none
                else
                (f_X9_smell (r_5.2.1 62 x1.toNatClampNeg) r_5.2).bind (fun r_22 =>
                  some (r_22.1, r_22.2))
              else
                (f_X9_no (-3) r_5.2).bind (fun r_24 =>
                  some (r_24.1, r_24.2))
            else
              (f_X9_isRow x1 r_5.2).bind (fun r_26 =>
                if r_26.1 = 0 then
                  if inb (r_5.2.1 62 x1.toNatClampNeg) 7 = true then
                    (f_X9_isUnder (r_26.2.1 54 (r_5.2.1 62 x1.toNatClampNeg).toNatClampNeg) x2 r_26.2).bind (fun r_31 =>
                      if r_31.1 = 0 then
                        (f_X9_no (-2) r_31.2).bind (fun r_51 =>
                          some (r_51.1, r_51.2))
                      else
                        if 0 ≤ (r_5.2.1 62 x1.toNatClampNeg) then
                          if x2 = 0 then
                            if inb (r_5.2.1 62 x1.toNatClampNeg) 7 = true then
                              some (r_31.2.1 58 (r_5.2.1 62 x1.toNatClampNeg).toNatClampNeg, r_31.2)
                            else none
                          else
                          if x2 = 1 then
                            (f_X9_smell (r_5.2.1 62 x1.toNatClampNeg) r_31.2).bind (fun r_36 =>
                              some (r_36.1, r_36.2))
                          else
                          if x2 = 2 then
                            if inb (r_5.2.1 62 x1.toNatClampNeg) 7 = true then
                              some (r_31.2.1 57 (r_5.2.1 62 x1.toNatClampNeg).toNatClampNeg, r_31.2)
                            else none
                          else
                          if x2 = 3 then
                            (f_X9_smell (r_5.2.1 62 x1.toNatClampNeg) r_31.2).bind (fun r_41 =>
                              some (r_41.1, r_41.2))
                          else
                          if x2 = 4 then
                            if inb (r_5.2.1 62 x1.toNatClampNeg) 7 = true then
                              some (r_31.2.1 56 (r_5.2.1 62 x1.toNatClampNeg).toNatClampNeg, r_31.2)
                            else none
                          else
                          if x2 = 5 then
                            if inb (r_5.2.1 62 x1.toNatClampNeg) 7 = true then
                              some (r_31.2.1 57 (r_5.2.1 62 x1.toNatClampNeg).toNatClampNeg, r_31.2)
                            else none
                          else
                          (f_X9_smell (r_5.2.1 62 x1.toNatClampNeg) r_31.2).bind (fun r_47 =>
                            some (r_47.1, r_47.2))
                        else
                          (f_X9_no (-3) r_31.2).bind (fun r_49 =>
                            some (r_49.1, r_49.2)))
                  else none
                else
                  (f_X9_no (-2) r_26.2).bind (fun r_28 =>
                    some (r_28.1, r_28.2)))
          else none))
theorem me_X9_says : g_me yX9_says cX9_says 4 ((Option.some .int)) 2 := ⟨tw_1047, tw_79, ⟨by decide +kernel, by decide +kernel, by decide +kernel⟩, by decide⟩
set_option maxRecDepth 20000 in
set_option maxHeartbeats 2000000 in
theorem m_X9_says {X : gX} {ad : Nat → Nat} {x1 : Int32} {x2 : Int32} {ν : gN} {r : Int32 × gN}  (h : f_X9_says x1 x2 ν = some r) : h_ct X ad yX9_says cX9_says 4 ((Option.some .int)) 3 [.ref (ad 53), .int x1, .int x2] ν (some (.int r.1), r.2) := by
  rw [f_X9_says] at h
  refine h_ct_of (l := [(0, .ref (ad 53)), (1, .int x1), (2, .int x2)]) (by decide) (Nat.le_of_ble_eq_true rfl) rfl ?_
  refine go_iload_n rfl 1 rfl dX9_says_0 ?_
  refine go_iconst kz_iconst_0 dX9_says_1 ?_
  refine go_bipush kz_bipush_7 dX9_says_2 ?_
  obtain ⟨r_1, h_2, h⟩ := q_b h
  refine h_callSi (st := []) [.int x1, .int 0, .int 7] (m_X9_within h_2) me_X9_within tw_1005 tw_1006 (hdd_of (by decide)) ⟨Nat.zero_le _, Nat.zero_le _⟩ rfl rfl (Nat.le_of_ble_eq_true rfl) dX9_says_4 ?_
  refine go_if_eq (tgt := 20) dX9_says_7 rfl (fun hc => ?_) (fun hc => ?_)
  · replace h := q_t h hc
    refine go_aload_n rfl 0 rfl dX9_says_20 ?_
    refine go_iconst kz_iconst_m1 dX9_says_21 ?_
    obtain ⟨r_3, h_4, h⟩ := q_b h
    refine h_callVi (st := []) [.int (-1)] (m_X9_no h_4) me_X9_no (g_recv cl7.1 rfl) tw_1008 tw_1010 tw_23 (hdd_of (by decide)) ⟨Nat.zero_le _, Nat.zero_le _⟩ rfl rfl (Nat.le_of_ble_eq_true rfl) dX9_says_22 ?_
    exact h_iret h dX9_says_25 rfl
  · replace h := q_f h hc
    refine go_iload_n rfl 2 rfl dX9_says_10 ?_
    refine go_iconst kz_iconst_0 dX9_says_11 ?_
    refine go_bipush kz_bipush_6 dX9_says_12 ?_
    obtain ⟨r_5, h_6, h⟩ := q_b h
    refine h_callSi (st := []) [.int x2, .int 0, .int 6] (m_X9_within h_6) me_X9_within tw_1005 tw_1006 (hdd_of (by decide)) ⟨Nat.zero_le _, Nat.zero_le _⟩ rfl rfl (Nat.le_of_ble_eq_true rfl) dX9_says_14 ?_
    refine go_if_ne (tgt := 26) dX9_says_17 rfl (fun hc => ?_) (fun hc => ?_)
    · replace h := q_f h hc
      refine go_aload_n rfl 0 rfl dX9_says_26 ?_
      refine h_getr 10 cl7 rfl (by decide) tw_922 62 rfl dX9_says_27 ?_
      refine go_iload_n rfl 1 rfl dX9_says_30 ?_
      obtain ⟨hg_7, h⟩ := q_g h
      refine h_iald 8 rfl hg_7 dX9_says_31 ?_
      refine go_istore_n (l' := [(3, .int (r_5.2.1 62 x1.toNatClampNeg)), (0, .ref (ad 53)), (1, .int x1), (2, .int x2)]) dX9_says_32 rfl (by decide) rfl ?_
      refine go_iload_n rfl 0 rfl dX9_says_33 ?_
      refine go_if_lt (tgt := 65) dX9_says_34 rfl (fun hc => ?_) (fun hc => ?_)
      · replace h := q_t h hc
        refine go_iload_n rfl 0 rfl dX9_says_65 ?_
        refine go_if_ge (tgt := 76) dX9_says_66 rfl (fun hc => ?_) (fun hc => ?_)
        · replace h := q_t h hc
          refine go_iload_n rfl 3 rfl dX9_says_76 ?_
          by_cases hk_8 : x2 = 0
          · replace h := q_t h hk_8
            refine h_tbT (tgt := 116) (off := 39) hk_8 dX9_says_77 (by decide) (by decide) rfl rfl ?_
            refine go_aload_n rfl 1 rfl dX9_says_116 ?_
            refine h_getr 5 cl7 rfl (by decide) tw_917 58 rfl dX9_says_117 ?_
            refine go_iload_n rfl 0 rfl dX9_says_120 ?_
            obtain ⟨hg_9, h⟩ := q_g h
            refine h_iald 7 rfl hg_9 dX9_says_121 ?_
            exact h_iret h dX9_says_122 rfl
          replace h := q_f h hk_8
          by_cases hk_10 : x2 = 1
          · replace h := q_t h hk_10
            refine h_tbT (tgt := 137) (off := 60) hk_10 dX9_says_77 (by decide) (by decide) rfl rfl ?_
            refine go_aload_n rfl 1 rfl dX9_says_137 ?_
            refine go_iload_n rfl 0 rfl dX9_says_138 ?_
            obtain ⟨r_11, h_12, h⟩ := q_b h
            refine h_callVi (st := []) [.int (r_5.2.1 62 x1.toNatClampNeg)] (m_X9_smell h_12) me_X9_smell (g_recv cl7.1 rfl) tw_1054 tw_1056 tw_27 (hdd_of (by decide)) ⟨Nat.zero_le _, Nat.zero_le _⟩ rfl rfl (Nat.le_of_ble_eq_true rfl) dX9_says_139 ?_
            exact h_iret h dX9_says_142 rfl
          replace h := q_f h hk_10
          by_cases hk_13 : x2 = 2
          · replace h := q_t h hk_13
            refine h_tbT (tgt := 123) (off := 46) hk_13 dX9_says_77 (by decide) (by decide) rfl rfl ?_
            refine go_aload_n rfl 1 rfl dX9_says_123 ?_
            refine h_getr 4 cl7 rfl (by decide) tw_916 57 rfl dX9_says_124 ?_
            refine go_iload_n rfl 0 rfl dX9_says_127 ?_
            obtain ⟨hg_14, h⟩ := q_g h
            refine h_iald 7 rfl hg_14 dX9_says_128 ?_
            exact h_iret h dX9_says_129 rfl
          replace h := q_f h hk_13
          by_cases hk_15 : x2 = 3
          · replace h := q_t h hk_15
            refine h_tbT (tgt := 137) (off := 60) hk_15 dX9_says_77 (by decide) (by decide) rfl rfl ?_
            refine go_aload_n rfl 1 rfl dX9_says_137 ?_
            refine go_iload_n rfl 0 rfl dX9_says_138 ?_
            obtain ⟨r_16, h_17, h⟩ := q_b h
            refine h_callVi (st := []) [.int (r_5.2.1 62 x1.toNatClampNeg)] (m_X9_smell h_17) me_X9_smell (g_recv cl7.1 rfl) tw_1054 tw_1056 tw_27 (hdd_of (by decide)) ⟨Nat.zero_le _, Nat.zero_le _⟩ rfl rfl (Nat.le_of_ble_eq_true rfl) dX9_says_139 ?_
            exact h_iret h dX9_says_142 rfl
          replace h := q_f h hk_15
          by_cases hk_18 : x2 = 4
          · replace h := q_t h hk_18
            refine h_tbT (tgt := 130) (off := 53) hk_18 dX9_says_77 (by decide) (by decide) rfl rfl ?_
            refine go_aload_n rfl 1 rfl dX9_says_130 ?_
            refine h_getr 3 cl7 rfl (by decide) tw_915 56 rfl dX9_says_131 ?_
            refine go_iload_n rfl 0 rfl dX9_says_134 ?_
            obtain ⟨hg_19, h⟩ := q_g h
            refine h_iald 7 rfl hg_19 dX9_says_135 ?_
            exact h_iret h dX9_says_136 rfl
          replace h := q_f h hk_18
          by_cases hk_20 : x2 = 5
          · replace h := q_t h hk_20
            refine h_tbT (tgt := 123) (off := 46) hk_20 dX9_says_77 (by decide) (by decide) rfl rfl ?_
            refine go_aload_n rfl 1 rfl dX9_says_123 ?_
            refine h_getr 4 cl7 rfl (by decide) tw_916 57 rfl dX9_says_124 ?_
            refine go_iload_n rfl 0 rfl dX9_says_127 ?_
            obtain ⟨hg_21, h⟩ := q_g h
            refine h_iald 7 rfl hg_21 dX9_says_128 ?_
            exact h_iret h dX9_says_129 rfl
          replace h := q_f h hk_20
          have hk_8 := h_nT hk_8 (a := 0) (by decide)
          have hk_10 := h_nT hk_10 (a := 1) (by decide)
          have hk_13 := h_nT hk_13 (a := 2) (by decide)
          have hk_15 := h_nT hk_15 (a := 3) (by decide)
          have hk_18 := h_nT hk_18 (a := 4) (by decide)
          have hk_20 := h_nT hk_20 (a := 5) (by decide)
          refine go_tableOut (tgt := 137) dX9_says_77 (by omega) rfl ?_
          refine go_aload_n rfl 1 rfl dX9_says_137 ?_
          refine go_iload_n rfl 0 rfl dX9_says_138 ?_
          obtain ⟨r_22, h_23, h⟩ := q_b h
          refine h_callVi (st := []) [.int (r_5.2.1 62 x1.toNatClampNeg)] (m_X9_smell h_23) me_X9_smell (g_recv cl7.1 rfl) tw_1054 tw_1056 tw_27 (hdd_of (by decide)) ⟨Nat.zero_le _, Nat.zero_le _⟩ rfl rfl (Nat.le_of_ble_eq_true rfl) dX9_says_139 ?_
          exact h_iret h dX9_says_142 rfl
        · replace h := q_f h hc
          refine go_aload_n rfl 1 rfl dX9_says_69 ?_
          refine go_bipush kz_bipush_m3 dX9_says_70 ?_
          obtain ⟨r_24, h_25, h⟩ := q_b h
          refine h_callVi (st := []) [.int (-3)] (m_X9_no h_25) me_X9_no (g_recv cl7.1 rfl) tw_1008 tw_1010 tw_23 (hdd_of (by decide)) ⟨Nat.zero_le _, Nat.zero_le _⟩ rfl rfl (Nat.le_of_ble_eq_true rfl) dX9_says_72 ?_
          exact h_iret h dX9_says_75 rfl
      · replace h := q_f h hc
        refine go_aload_n rfl 1 rfl dX9_says_37 ?_
        refine go_iload_n rfl 2 rfl dX9_says_38 ?_
        obtain ⟨r_26, h_27, h⟩ := q_b h
        refine h_callVi (st := []) [.int x1] (m_X9_isRow h_27) me_X9_isRow (g_recv cl7.1 rfl) tw_1020 tw_1022 tw_25 (hdd_of (by decide)) ⟨Nat.zero_le _, Nat.zero_le _⟩ rfl rfl (Nat.le_of_ble_eq_true rfl) dX9_says_39 ?_
        refine go_if_ne (tgt := 58) dX9_says_42 rfl (fun hc => ?_) (fun hc => ?_)
        · replace h := q_f h hc
          refine go_aload_n rfl 1 rfl dX9_says_58 ?_
          refine go_bipush kz_bipush_m2 dX9_says_59 ?_
          obtain ⟨r_28, h_29, h⟩ := q_b h
          refine h_callVi (st := []) [.int (-2)] (m_X9_no h_29) me_X9_no (g_recv cl7.1 rfl) tw_1008 tw_1010 tw_23 (hdd_of (by decide)) ⟨Nat.zero_le _, Nat.zero_le _⟩ rfl rfl (Nat.le_of_ble_eq_true rfl) dX9_says_61 ?_
          exact h_iret h dX9_says_64 rfl
        · replace h := q_t h hc
          refine go_aload_n rfl 1 rfl dX9_says_45 ?_
          refine h_getr 1 cl7 rfl (by decide) tw_913 54 rfl dX9_says_46 ?_
          refine go_iload_n rfl 0 rfl dX9_says_49 ?_
          obtain ⟨hg_30, h⟩ := q_g h
          refine h_iald 7 rfl hg_30 dX9_says_50 ?_
          refine go_iload_n rfl 3 rfl dX9_says_51 ?_
          obtain ⟨r_31, h_32, h⟩ := q_b h
          refine h_callSi (st := []) [.int (r_26.2.1 54 (r_5.2.1 62 x1.toNatClampNeg).toNatClampNeg), .int x2] (m_X9_isUnder h_32) me_X9_isUnder tw_1048 tw_1049 (hdd_of (by decide)) ⟨Nat.zero_le _, Nat.zero_le _⟩ rfl rfl (Nat.le_of_ble_eq_true rfl) dX9_says_52 ?_
          refine go_if_ne (tgt := 65) dX9_says_55 rfl (fun hc => ?_) (fun hc => ?_)
          · replace h := q_f h hc
            refine go_iload_n rfl 0 rfl dX9_says_65 ?_
            refine go_if_ge (tgt := 76) dX9_says_66 rfl (fun hc => ?_) (fun hc => ?_)
            · replace h := q_t h hc
              refine go_iload_n rfl 3 rfl dX9_says_76 ?_
              by_cases hk_33 : x2 = 0
              · replace h := q_t h hk_33
                refine h_tbT (tgt := 116) (off := 39) hk_33 dX9_says_77 (by decide) (by decide) rfl rfl ?_
                refine go_aload_n rfl 1 rfl dX9_says_116 ?_
                refine h_getr 5 cl7 rfl (by decide) tw_917 58 rfl dX9_says_117 ?_
                refine go_iload_n rfl 0 rfl dX9_says_120 ?_
                obtain ⟨hg_34, h⟩ := q_g h
                refine h_iald 7 rfl hg_34 dX9_says_121 ?_
                exact h_iret h dX9_says_122 rfl
              replace h := q_f h hk_33
              by_cases hk_35 : x2 = 1
              · replace h := q_t h hk_35
                refine h_tbT (tgt := 137) (off := 60) hk_35 dX9_says_77 (by decide) (by decide) rfl rfl ?_
                refine go_aload_n rfl 1 rfl dX9_says_137 ?_
                refine go_iload_n rfl 0 rfl dX9_says_138 ?_
                obtain ⟨r_36, h_37, h⟩ := q_b h
                refine h_callVi (st := []) [.int (r_5.2.1 62 x1.toNatClampNeg)] (m_X9_smell h_37) me_X9_smell (g_recv cl7.1 rfl) tw_1054 tw_1056 tw_27 (hdd_of (by decide)) ⟨Nat.zero_le _, Nat.zero_le _⟩ rfl rfl (Nat.le_of_ble_eq_true rfl) dX9_says_139 ?_
                exact h_iret h dX9_says_142 rfl
              replace h := q_f h hk_35
              by_cases hk_38 : x2 = 2
              · replace h := q_t h hk_38
                refine h_tbT (tgt := 123) (off := 46) hk_38 dX9_says_77 (by decide) (by decide) rfl rfl ?_
                refine go_aload_n rfl 1 rfl dX9_says_123 ?_
                refine h_getr 4 cl7 rfl (by decide) tw_916 57 rfl dX9_says_124 ?_
                refine go_iload_n rfl 0 rfl dX9_says_127 ?_
                obtain ⟨hg_39, h⟩ := q_g h
                refine h_iald 7 rfl hg_39 dX9_says_128 ?_
                exact h_iret h dX9_says_129 rfl
              replace h := q_f h hk_38
              by_cases hk_40 : x2 = 3
              · replace h := q_t h hk_40
                refine h_tbT (tgt := 137) (off := 60) hk_40 dX9_says_77 (by decide) (by decide) rfl rfl ?_
                refine go_aload_n rfl 1 rfl dX9_says_137 ?_
                refine go_iload_n rfl 0 rfl dX9_says_138 ?_
                obtain ⟨r_41, h_42, h⟩ := q_b h
                refine h_callVi (st := []) [.int (r_5.2.1 62 x1.toNatClampNeg)] (m_X9_smell h_42) me_X9_smell (g_recv cl7.1 rfl) tw_1054 tw_1056 tw_27 (hdd_of (by decide)) ⟨Nat.zero_le _, Nat.zero_le _⟩ rfl rfl (Nat.le_of_ble_eq_true rfl) dX9_says_139 ?_
                exact h_iret h dX9_says_142 rfl
              replace h := q_f h hk_40
              by_cases hk_43 : x2 = 4
              · replace h := q_t h hk_43
                refine h_tbT (tgt := 130) (off := 53) hk_43 dX9_says_77 (by decide) (by decide) rfl rfl ?_
                refine go_aload_n rfl 1 rfl dX9_says_130 ?_
                refine h_getr 3 cl7 rfl (by decide) tw_915 56 rfl dX9_says_131 ?_
                refine go_iload_n rfl 0 rfl dX9_says_134 ?_
                obtain ⟨hg_44, h⟩ := q_g h
                refine h_iald 7 rfl hg_44 dX9_says_135 ?_
                exact h_iret h dX9_says_136 rfl
              replace h := q_f h hk_43
              by_cases hk_45 : x2 = 5
              · replace h := q_t h hk_45
                refine h_tbT (tgt := 123) (off := 46) hk_45 dX9_says_77 (by decide) (by decide) rfl rfl ?_
                refine go_aload_n rfl 1 rfl dX9_says_123 ?_
                refine h_getr 4 cl7 rfl (by decide) tw_916 57 rfl dX9_says_124 ?_
                refine go_iload_n rfl 0 rfl dX9_says_127 ?_
                obtain ⟨hg_46, h⟩ := q_g h
                refine h_iald 7 rfl hg_46 dX9_says_128 ?_
                exact h_iret h dX9_says_129 rfl
              replace h := q_f h hk_45
              have hk_33 := h_nT hk_33 (a := 0) (by decide)
              have hk_35 := h_nT hk_35 (a := 1) (by decide)
              have hk_38 := h_nT hk_38 (a := 2) (by decide)
              have hk_40 := h_nT hk_40 (a := 3) (by decide)
              have hk_43 := h_nT hk_43 (a := 4) (by decide)
              have hk_45 := h_nT hk_45 (a := 5) (by decide)
              refine go_tableOut (tgt := 137) dX9_says_77 (by omega) rfl ?_
              refine go_aload_n rfl 1 rfl dX9_says_137 ?_
              refine go_iload_n rfl 0 rfl dX9_says_138 ?_
              obtain ⟨r_47, h_48, h⟩ := q_b h
              refine h_callVi (st := []) [.int (r_5.2.1 62 x1.toNatClampNeg)] (m_X9_smell h_48) me_X9_smell (g_recv cl7.1 rfl) tw_1054 tw_1056 tw_27 (hdd_of (by decide)) ⟨Nat.zero_le _, Nat.zero_le _⟩ rfl rfl (Nat.le_of_ble_eq_true rfl) dX9_says_139 ?_
              exact h_iret h dX9_says_142 rfl
            · replace h := q_f h hc
              refine go_aload_n rfl 1 rfl dX9_says_69 ?_
              refine go_bipush kz_bipush_m3 dX9_says_70 ?_
              obtain ⟨r_49, h_50, h⟩ := q_b h
              refine h_callVi (st := []) [.int (-3)] (m_X9_no h_50) me_X9_no (g_recv cl7.1 rfl) tw_1008 tw_1010 tw_23 (hdd_of (by decide)) ⟨Nat.zero_le _, Nat.zero_le _⟩ rfl rfl (Nat.le_of_ble_eq_true rfl) dX9_says_72 ?_
              exact h_iret h dX9_says_75 rfl
          · replace h := q_t h hc
            refine go_aload_n rfl 1 rfl dX9_says_58 ?_
            refine go_bipush kz_bipush_m2 dX9_says_59 ?_
            obtain ⟨r_51, h_52, h⟩ := q_b h
            refine h_callVi (st := []) [.int (-2)] (m_X9_no h_52) me_X9_no (g_recv cl7.1 rfl) tw_1008 tw_1010 tw_23 (hdd_of (by decide)) ⟨Nat.zero_le _, Nat.zero_le _⟩ rfl rfl (Nat.le_of_ble_eq_true rfl) dX9_says_61 ?_
            exact h_iret h dX9_says_64 rfl
    · replace h := q_t h hc
      refine go_aload_n rfl 0 rfl dX9_says_20 ?_
      refine go_iconst kz_iconst_m1 dX9_says_21 ?_
      obtain ⟨r_53, h_54, h⟩ := q_b h
      refine h_callVi (st := []) [.int (-1)] (m_X9_no h_54) me_X9_no (g_recv cl7.1 rfl) tw_1008 tw_1010 tw_23 (hdd_of (by decide)) ⟨Nat.zero_le _, Nat.zero_le _⟩ rfl rfl (Nat.le_of_ble_eq_true rfl) dX9_says_22 ?_
      exact h_iret h dX9_says_25 rfl
noncomputable def f_X9_seed (x1 : Int32) (ν : gN) : Option (Int32 × gN) :=
  qL (nWI ν 53 9 x1) (fun ν_1 =>
    some (ν.1 53 9, ν_1))
theorem me_X9_seed : g_me yX9_seed cX9_seed 3 ((Option.some .int)) 1 := ⟨tw_1344, tw_79, ⟨by decide +kernel, by decide +kernel, by decide +kernel⟩, by decide⟩
set_option maxRecDepth 20000 in
set_option maxHeartbeats 2000000 in
theorem m_X9_seed {X : gX} {ad : Nat → Nat} {x1 : Int32} {ν : gN} {r : Int32 × gN}  (h : f_X9_seed x1 ν = some r) : h_ct X ad yX9_seed cX9_seed 3 ((Option.some .int)) 1 [.ref (ad 53), .int x1] ν (some (.int r.1), r.2) := by
  rw [f_X9_seed] at h
  refine h_ct_of (l := [(0, .ref (ad 53)), (1, .int x1)]) (by decide) (Nat.le_of_ble_eq_true rfl) rfl ?_
  refine go_aload_n rfl 0 rfl dX9_seed_0 ?_
  refine h_geti 9 cl7 rfl (by decide) tw_921 rfl dX9_seed_1 ?_
  refine go_istore_n (l' := [(2, .int (ν.1 53 9)), (0, .ref (ad 53)), (1, .int x1)]) dX9_seed_4 rfl (by decide) rfl ?_
  refine go_aload_n rfl 1 rfl dX9_seed_5 ?_
  refine go_iload_n rfl 2 rfl dX9_seed_6 ?_
  obtain ⟨ν_1, e_2, h⟩ := q_l h
  refine h_puti 9 cl7 rfl (by decide) tw_921 rfl rfl e_2 dX9_seed_7 ?_
  refine go_iload_n rfl 0 rfl dX9_seed_10 ?_
  exact h_iret h dX9_seed_11 rfl
noncomputable def f_X9_set (x1 : Int32) (x2 : Int32) (x3 : Int64) (ν : gN) : Option (Int32 × gN) :=
  (f_X9_noRow x1 ν).bind (fun r_1 =>
    if 0 ≤ r_1.1 then
      if inb x1 8 = true then
        (f_X9_within x2 0 ((r_1.2.1 63 x1.toNatClampNeg) - 1) r_1.2).bind (fun r_4 =>
          if r_4.1 = 0 then
            (f_X9_no (-5) r_4.2).bind (fun r_19 =>
              some (r_19.1, r_19.2))
          else
            if inb x1 8 = true then
              if ((r_4.2.1 62 x1.toNatClampNeg) - 100) = 0 then
                if inb ((160 * x1) + x2) 1280 = true then
                  qL (nWL r_4.2 64 ((160 * x1) + x2).toNatClampNeg ((j_i2b x3.toInt32).toInt64)) (fun ν_17 =>
                    some (1, ν_17))
                else none
              else
                if ((r_4.2.1 62 x1.toNatClampNeg) - 100) = 1 then
                  if inb ((160 * x1) + x2) 1280 = true then
                    qL (nWL r_4.2 64 ((160 * x1) + x2).toNatClampNeg ((j_i2s x3.toInt32).toInt64)) (fun ν_14 =>
                      some (1, ν_14))
                  else none
                else
                  if ((r_4.2.1 62 x1.toNatClampNeg) - 100) = 2 then
                    if inb ((160 * x1) + x2) 1280 = true then
                      qL (nWL r_4.2 64 ((160 * x1) + x2).toNatClampNeg x3.toInt32.toInt64) (fun ν_11 =>
                        some (1, ν_11))
                    else none
                  else
                    if inb ((160 * x1) + x2) 1280 = true then
                      qL (nWL r_4.2 64 ((160 * x1) + x2).toNatClampNeg x3) (fun ν_8 =>
                        some (1, ν_8))
                    else none
            else none)
      else none
    else
      (f_X9_no r_1.1 r_1.2).bind (fun r_21 =>
        some (r_21.1, r_21.2)))
theorem me_X9_set : g_me yX9_set cX9_set 7 ((Option.some .int)) 3 := ⟨tw_1015, tw_79, ⟨by decide +kernel, by decide +kernel, by decide +kernel⟩, by decide⟩
set_option maxRecDepth 20000 in
set_option maxHeartbeats 2000000 in
theorem m_X9_set {X : gX} {ad : Nat → Nat} {x1 : Int32} {x2 : Int32} {x3 : Int64} {ν : gN} {r : Int32 × gN}  (h : f_X9_set x1 x2 x3 ν = some r) : h_ct X ad yX9_set cX9_set 7 ((Option.some .int)) 3 [.ref (ad 53), .int x1, .int x2, .long x3] ν (some (.int r.1), r.2) := by
  rw [f_X9_set] at h
  refine h_ct_of (l := [(0, .ref (ad 53)), (1, .int x1), (2, .int x2), (3, .long x3)]) (by decide) (Nat.le_of_ble_eq_true rfl) rfl ?_
  refine go_aload_n rfl 0 rfl dX9_set_0 ?_
  refine go_iload_n rfl 1 rfl dX9_set_1 ?_
  obtain ⟨r_1, h_2, h⟩ := q_b h
  refine h_callVi (st := []) [.int x1] (m_X9_noRow h_2) me_X9_noRow (g_recv cl7.1 rfl) tw_1016 tw_1018 tw_24 (hdd_of (by decide)) ⟨Nat.zero_le _, Nat.zero_le _⟩ rfl rfl (Nat.le_of_ble_eq_true rfl) dX9_set_2 ?_
  refine go_istore (l' := [(5, .int r_1.1), (0, .ref (ad 53)), (1, .int x1), (2, .int x2), (3, .long x3)]) dX9_set_5 (by decide) rfl ?_
  refine go_iload 0 rfl dX9_set_7 ?_
  refine go_if_ge (tgt := 19) dX9_set_9 rfl (fun hc => ?_) (fun hc => ?_)
  · replace h := q_t h hc
    refine go_iload_n rfl 3 rfl dX9_set_19 ?_
    refine go_iconst kz_iconst_0 dX9_set_20 ?_
    refine go_aload_n rfl 1 rfl dX9_set_21 ?_
    refine h_getr 11 cl7 rfl (by decide) tw_923 63 rfl dX9_set_22 ?_
    refine go_iload_n rfl 2 rfl dX9_set_25 ?_
    obtain ⟨hg_3, h⟩ := q_g h
    refine h_iald 8 rfl hg_3 dX9_set_26 ?_
    refine go_iconst kz_iconst_1 dX9_set_27 ?_
    refine go_isub dX9_set_28 ?_
    obtain ⟨r_4, h_5, h⟩ := q_b h
    refine h_callSi (st := []) [.int x2, .int 0, .int ((r_1.2.1 63 x1.toNatClampNeg) - 1)] (m_X9_within h_5) me_X9_within tw_1005 tw_1006 (hdd_of (by decide)) ⟨Nat.zero_le _, Nat.zero_le _⟩ rfl rfl (Nat.le_of_ble_eq_true rfl) dX9_set_29 ?_
    refine go_if_ne (tgt := 42) dX9_set_32 rfl (fun hc => ?_) (fun hc => ?_)
    · replace h := q_f h hc
      refine go_aload_n rfl 1 rfl dX9_set_42 ?_
      refine h_getr 10 cl7 rfl (by decide) tw_922 62 rfl dX9_set_43 ?_
      refine go_iload_n rfl 2 rfl dX9_set_46 ?_
      obtain ⟨hg_6, h⟩ := q_g h
      refine h_iald 8 rfl hg_6 dX9_set_47 ?_
      refine go_bipush kz_bipush_100 dX9_set_48 ?_
      refine go_isub dX9_set_50 ?_
      refine go_istore (l' := [(6, .int ((r_4.2.1 62 x1.toNatClampNeg) - 100)), (5, .int r_1.1), (0, .ref (ad 53)), (1, .int x1), (2, .int x2), (3, .long x3)]) dX9_set_51 (by decide) rfl ?_
      refine go_aload_n rfl 2 rfl dX9_set_53 ?_
      refine h_getr 12 cl7 rfl (by decide) tw_924 64 rfl dX9_set_54 ?_
      refine go_sipush kz_sipush_160 dX9_set_57 ?_
      refine go_iload_n rfl 3 rfl dX9_set_60 ?_
      refine go_imul dX9_set_61 ?_
      refine go_iload_n rfl 4 rfl dX9_set_62 ?_
      refine go_iadd dX9_set_63 ?_
      refine go_iload 0 rfl dX9_set_64 ?_
      refine go_if_ne (tgt := 76) dX9_set_66 rfl (fun hc => ?_) (fun hc => ?_)
      · replace h := q_f h hc
        refine go_iload 0 rfl dX9_set_76 ?_
        refine go_iconst kz_iconst_1 dX9_set_78 ?_
        refine go_icmp_ne (tgt := 89) dX9_set_79 rfl (fun hc => ?_) (fun hc => ?_)
        · replace h := q_f h hc
          refine go_iload 0 rfl dX9_set_89 ?_
          refine go_iconst kz_iconst_2 dX9_set_91 ?_
          refine go_icmp_ne (tgt := 101) dX9_set_92 rfl (fun hc => ?_) (fun hc => ?_)
          · replace h := q_f h hc
            refine go_lload_n rfl 5 rfl dX9_set_101 ?_
            obtain ⟨hg_7, h⟩ := q_g h
            obtain ⟨ν_8, e_9, h⟩ := q_l h
            refine h_last 1280 rfl hg_7 e_9 dX9_set_102 ?_
            refine go_iconst kz_iconst_1 dX9_set_103 ?_
            exact h_iret h dX9_set_104 rfl
          · replace h := q_t h hc
            refine go_lload_n rfl 5 rfl dX9_set_95 ?_
            refine go_l2i dX9_set_96 ?_
            refine go_i2l dX9_set_97 ?_
            refine go_goto (tgt := 102) dX9_set_98 rfl ?_
            obtain ⟨hg_10, h⟩ := q_g h
            obtain ⟨ν_11, e_12, h⟩ := q_l h
            refine h_last 1280 rfl hg_10 e_12 dX9_set_102 ?_
            refine go_iconst kz_iconst_1 dX9_set_103 ?_
            exact h_iret h dX9_set_104 rfl
        · replace h := q_t h hc
          refine go_lload_n rfl 5 rfl dX9_set_82 ?_
          refine go_l2i dX9_set_83 ?_
          refine h_i2s dX9_set_84 ?_
          refine go_i2l dX9_set_85 ?_
          refine go_goto (tgt := 102) dX9_set_86 rfl ?_
          obtain ⟨hg_13, h⟩ := q_g h
          obtain ⟨ν_14, e_15, h⟩ := q_l h
          refine h_last 1280 rfl hg_13 e_15 dX9_set_102 ?_
          refine go_iconst kz_iconst_1 dX9_set_103 ?_
          exact h_iret h dX9_set_104 rfl
      · replace h := q_t h hc
        refine go_lload_n rfl 5 rfl dX9_set_69 ?_
        refine go_l2i dX9_set_70 ?_
        refine h_i2b dX9_set_71 ?_
        refine go_i2l dX9_set_72 ?_
        refine go_goto (tgt := 102) dX9_set_73 rfl ?_
        obtain ⟨hg_16, h⟩ := q_g h
        obtain ⟨ν_17, e_18, h⟩ := q_l h
        refine h_last 1280 rfl hg_16 e_18 dX9_set_102 ?_
        refine go_iconst kz_iconst_1 dX9_set_103 ?_
        exact h_iret h dX9_set_104 rfl
    · replace h := q_t h hc
      refine go_aload_n rfl 1 rfl dX9_set_35 ?_
      refine go_bipush kz_bipush_m5 dX9_set_36 ?_
      obtain ⟨r_19, h_20, h⟩ := q_b h
      refine h_callVi (st := []) [.int (-5)] (m_X9_no h_20) me_X9_no (g_recv cl7.1 rfl) tw_1008 tw_1010 tw_23 (hdd_of (by decide)) ⟨Nat.zero_le _, Nat.zero_le _⟩ rfl rfl (Nat.le_of_ble_eq_true rfl) dX9_set_38 ?_
      exact h_iret h dX9_set_41 rfl
  · replace h := q_f h hc
    refine go_aload_n rfl 1 rfl dX9_set_12 ?_
    refine go_iload 0 rfl dX9_set_13 ?_
    obtain ⟨r_21, h_22, h⟩ := q_b h
    refine h_callVi (st := []) [.int r_1.1] (m_X9_no h_22) me_X9_no (g_recv cl7.1 rfl) tw_1008 tw_1010 tw_23 (hdd_of (by decide)) ⟨Nat.zero_le _, Nat.zero_le _⟩ rfl rfl (Nat.le_of_ble_eq_true rfl) dX9_set_15 ?_
    exact h_iret h dX9_set_18 rfl
noncomputable def f_X9_show (x1 : Int32) (x2 : Int32) (ν : gN) : Option (Int32 × gN) :=
  (f_X9_within x1 0 7 ν).bind (fun r_1 =>
    if r_1.1 = 0 then
      (f_X9_no (-1) r_1.2).bind (fun r_3 =>
        some (r_3.1, r_3.2))
    else
      if x2 = (-1) then
        if inb x1 8 = true then
          qL (nWI r_1.2 62 x1.toNatClampNeg x2) (fun ν_6 =>
            if x2 = (-1) then
              some (0, ν_6)
            else
              some (1, ν_6))
        else none
      else
        (f_X9_isOne x2 r_1.2).bind (fun r_8 =>
          if r_8.1 = 0 then
            (f_X9_no (-1) r_8.2).bind (fun r_13 =>
              some (r_13.1, r_13.2))
          else
            if inb x1 8 = true then
              qL (nWI r_8.2 62 x1.toNatClampNeg x2) (fun ν_11 =>
                if x2 = (-1) then
                  some (0, ν_11)
                else
                  some (1, ν_11))
            else none))
theorem me_X9_show : g_me yX9_show cX9_show 3 ((Option.some .int)) 2 := ⟨tw_1035, tw_79, ⟨by decide +kernel, by decide +kernel, by decide +kernel⟩, by decide⟩
set_option maxRecDepth 20000 in
set_option maxHeartbeats 2000000 in
theorem m_X9_show {X : gX} {ad : Nat → Nat} {x1 : Int32} {x2 : Int32} {ν : gN} {r : Int32 × gN}  (h : f_X9_show x1 x2 ν = some r) : h_ct X ad yX9_show cX9_show 3 ((Option.some .int)) 3 [.ref (ad 53), .int x1, .int x2] ν (some (.int r.1), r.2) := by
  rw [f_X9_show] at h
  refine h_ct_of (l := [(0, .ref (ad 53)), (1, .int x1), (2, .int x2)]) (by decide) (Nat.le_of_ble_eq_true rfl) rfl ?_
  refine go_iload_n rfl 1 rfl dX9_show_0 ?_
  refine go_iconst kz_iconst_0 dX9_show_1 ?_
  refine go_bipush kz_bipush_7 dX9_show_2 ?_
  obtain ⟨r_1, h_2, h⟩ := q_b h
  refine h_callSi (st := []) [.int x1, .int 0, .int 7] (m_X9_within h_2) me_X9_within tw_1005 tw_1006 (hdd_of (by decide)) ⟨Nat.zero_le _, Nat.zero_le _⟩ rfl rfl (Nat.le_of_ble_eq_true rfl) dX9_show_4 ?_
  refine go_if_eq (tgt := 23) dX9_show_7 rfl (fun hc => ?_) (fun hc => ?_)
  · replace h := q_t h hc
    refine go_aload_n rfl 0 rfl dX9_show_23 ?_
    refine go_iconst kz_iconst_m1 dX9_show_24 ?_
    obtain ⟨r_3, h_4, h⟩ := q_b h
    refine h_callVi (st := []) [.int (-1)] (m_X9_no h_4) me_X9_no (g_recv cl7.1 rfl) tw_1008 tw_1010 tw_23 (hdd_of (by decide)) ⟨Nat.zero_le _, Nat.zero_le _⟩ rfl rfl (Nat.le_of_ble_eq_true rfl) dX9_show_25 ?_
    exact h_iret h dX9_show_28 rfl
  · replace h := q_f h hc
    refine go_iload_n rfl 2 rfl dX9_show_10 ?_
    refine go_iconst kz_iconst_m1 dX9_show_11 ?_
    refine go_icmp_eq (tgt := 29) dX9_show_12 rfl (fun hc => ?_) (fun hc => ?_)
    · replace h := q_t h hc
      refine go_aload_n rfl 0 rfl dX9_show_29 ?_
      refine h_getr 10 cl7 rfl (by decide) tw_922 62 rfl dX9_show_30 ?_
      refine go_iload_n rfl 1 rfl dX9_show_33 ?_
      refine go_iload_n rfl 2 rfl dX9_show_34 ?_
      obtain ⟨hg_5, h⟩ := q_g h
      obtain ⟨ν_6, e_7, h⟩ := q_l h
      refine h_iast 8 rfl hg_5 e_7 dX9_show_35 ?_
      refine go_iload_n rfl 2 rfl dX9_show_36 ?_
      refine go_iconst kz_iconst_m1 dX9_show_37 ?_
      refine go_icmp_ne (tgt := 45) dX9_show_38 rfl (fun hc => ?_) (fun hc => ?_)
      · replace h := q_f h hc
        refine go_iconst kz_iconst_1 dX9_show_45 ?_
        exact h_iret h dX9_show_46 rfl
      · replace h := q_t h hc
        refine go_iconst kz_iconst_0 dX9_show_41 ?_
        refine go_goto (tgt := 46) dX9_show_42 rfl ?_
        exact h_iret h dX9_show_46 rfl
    · replace h := q_f h hc
      refine go_aload_n rfl 0 rfl dX9_show_15 ?_
      refine go_iload_n rfl 2 rfl dX9_show_16 ?_
      obtain ⟨r_8, h_9, h⟩ := q_b h
      refine h_callVi (st := []) [.int x2] (m_X9_isOne h_9) me_X9_isOne (g_recv cl7.1 rfl) tw_1036 tw_1038 tw_26 (hdd_of (by decide)) ⟨Nat.zero_le _, Nat.zero_le _⟩ rfl rfl (Nat.le_of_ble_eq_true rfl) dX9_show_17 ?_
      refine go_if_ne (tgt := 29) dX9_show_20 rfl (fun hc => ?_) (fun hc => ?_)
      · replace h := q_f h hc
        refine go_aload_n rfl 0 rfl dX9_show_29 ?_
        refine h_getr 10 cl7 rfl (by decide) tw_922 62 rfl dX9_show_30 ?_
        refine go_iload_n rfl 1 rfl dX9_show_33 ?_
        refine go_iload_n rfl 2 rfl dX9_show_34 ?_
        obtain ⟨hg_10, h⟩ := q_g h
        obtain ⟨ν_11, e_12, h⟩ := q_l h
        refine h_iast 8 rfl hg_10 e_12 dX9_show_35 ?_
        refine go_iload_n rfl 2 rfl dX9_show_36 ?_
        refine go_iconst kz_iconst_m1 dX9_show_37 ?_
        refine go_icmp_ne (tgt := 45) dX9_show_38 rfl (fun hc => ?_) (fun hc => ?_)
        · replace h := q_f h hc
          refine go_iconst kz_iconst_1 dX9_show_45 ?_
          exact h_iret h dX9_show_46 rfl
        · replace h := q_t h hc
          refine go_iconst kz_iconst_0 dX9_show_41 ?_
          refine go_goto (tgt := 46) dX9_show_42 rfl ?_
          exact h_iret h dX9_show_46 rfl
      · replace h := q_t h hc
        refine go_aload_n rfl 0 rfl dX9_show_23 ?_
        refine go_iconst kz_iconst_m1 dX9_show_24 ?_
        obtain ⟨r_13, h_14, h⟩ := q_b h
        refine h_callVi (st := []) [.int (-1)] (m_X9_no h_14) me_X9_no (g_recv cl7.1 rfl) tw_1008 tw_1010 tw_23 (hdd_of (by decide)) ⟨Nat.zero_le _, Nat.zero_le _⟩ rfl rfl (Nat.le_of_ble_eq_true rfl) dX9_show_25 ?_
        exact h_iret h dX9_show_28 rfl
noncomputable def f_X9_spared_L34 (y1 : Int32) (y2 : Int32) (k96 : Int32 → gN → Option (Int32 × gN)) : Nat → Int32 → Int32 → gN → Option (Int32 × gN)
  | 0, _, _, _ => none
  | n + 1, y3, y4, ν =>
    if y4 < 0 then
      k96 y3 ν
    else
      (f_X9_isFree y4 ν).bind (fun r_5 =>
        if r_5.1 = 0 then
          f_X9_spared_L34 y1 y2 k96 n y3 (y4 + (-1)) r_5.2
        else
          if inb y4 49 = true then
            if (r_5.2.1 60 y4.toNatClampNeg) = 0 then
              (f_X9_fenced y4 1 r_5.2).bind (fun r_8 =>
                (f_X9_chosenBehind y2 r_8).bind (fun r_10 =>
                  if ((j_shr r_10.1 y1) &&& 1) = 0 then
                    (f_X9_fenced y4 0 r_10.2).bind (fun r_14 =>
                      f_X9_spared_L34 y1 y2 k96 n y4 (y4 + (-1)) r_14)
                  else
                    (f_X9_fenced y4 0 r_10.2).bind (fun r_12 =>
                      f_X9_spared_L34 y1 y2 k96 n y3 (y4 + (-1)) r_12)))
            else
              f_X9_spared_L34 y1 y2 k96 n y3 (y4 + (-1)) r_5.2
          else none)
noncomputable def f_X9_spared (x1 : Int32) (x2 : Int32) (ν : gN) : Option (Int32 × gN) :=
  (f_X9_isOne x1 ν).bind (fun r_1 =>
    if r_1.1 = 0 then
      (f_X9_no10 (-1) r_1.2).bind (fun r_20 =>
        some (r_20.1, r_20.2))
    else
      (f_X9_isTime x2 r_1.2).bind (fun r_3 =>
        if r_3.1 = 0 then
          (f_X9_no10 (-6) r_3.2).bind (fun r_18 =>
            some (r_18.1, r_18.2))
        else
          f_X9_spared_L34 x1 x2 (fun z3_16 ν_17 =>
            some (z3_16, ν_17)) FU (-1) 48 r_3.2))
theorem me_X9_spared : g_me yX9_spared cX9_spared 5 ((Option.some .int)) 2 := ⟨tw_1246, tw_79, ⟨by decide +kernel, by decide +kernel, by decide +kernel⟩, by decide⟩
set_option maxRecDepth 20000 in
set_option maxHeartbeats 2000000 in
theorem m_X9_spared_L34 {X : gX} {ad : Nat → Nat} {y1 : Int32} {y2 : Int32} {k96 : Int32 → gN → Option (Int32 × gN)}  : ∀ (n : Nat) (y3 : Int32) (y4 : Int32) (ν : gN) (r : Int32 × gN), f_X9_spared_L34 y1 y2 k96 n y3 y4 ν = some r → (∀ (z3 : Int32) (ν1 : gN), k96 z3 ν1 = some r → h_go X ad RX9 "spared" cX9_spared 5 ((Option.some .int)) 11 (some (.int r.1), r.2) 96 [(3, .int z3)] [] ν1) → h_go X ad RX9 "spared" cX9_spared 5 ((Option.some .int)) 11 (some (.int r.1), r.2) 34 [(0, .ref (ad 53)), (1, .int y1), (2, .int y2), (3, .int y3), (4, .int y4)] [] ν := by
  intro n
  induction n with
  | zero => intro y3 y4 ν r h hk96; rw [f_X9_spared_L34] at h; exact q_n h
  | succ n ih =>
    intro y3 y4 ν r h hk96
    rw [f_X9_spared_L34] at h
    refine go_iload 4 rfl dX9_spared_34 ?_
    refine go_if_lt (tgt := 96) dX9_spared_36 rfl (fun hc => ?_) (fun hc => ?_)
    · replace h := q_t h hc
      refine go_sub (l' := [(3, .int y3)]) [3] rfl ?_
      exact hk96 _ _ h
    · replace h := q_f h hc
      refine go_aload_n rfl 0 rfl dX9_spared_39 ?_
      refine go_iload 4 rfl dX9_spared_40 ?_
      obtain ⟨r_5, h_6, h⟩ := q_b h
      refine h_callVi (st := []) [.int y4] (m_X9_isFree h_6) me_X9_isFree (g_recv cl7.1 rfl) tw_1077 tw_1079 tw_30 (hdd_of (by decide)) ⟨Nat.zero_le _, Nat.zero_le _⟩ rfl rfl (Nat.le_of_ble_eq_true rfl) dX9_spared_42 ?_
      refine go_if_eq (tgt := 90) dX9_spared_45 rfl (fun hc => ?_) (fun hc => ?_)
      · replace h := q_t h hc
        refine h_iinc (l' := [(4, .int (y4 + (-1))), (0, .ref (ad 53)), (1, .int y1), (2, .int y2), (3, .int y3)]) dX9_spared_90 4 rfl kz_iconst_m1 (by decide) rfl ?_
        refine go_goto (tgt := 34) dX9_spared_93 rfl ?_
        refine go_sub (l' := [(0, .ref (ad 53)), (1, .int y1), (2, .int y2), (3, .int y3), (4, .int (y4 + (-1)))]) [1, 2, 3, 4, 0] rfl ?_
        exact ih _ _ _ _ h hk96
      · replace h := q_f h hc
        refine go_aload_n rfl 0 rfl dX9_spared_48 ?_
        refine h_getr 7 cl7 rfl (by decide) tw_919 60 rfl dX9_spared_49 ?_
        refine go_iload 4 rfl dX9_spared_52 ?_
        obtain ⟨hg_7, h⟩ := q_g h
        refine h_zald 49 rfl hg_7 dX9_spared_54 ?_
        refine go_if_eq (tgt := 61) dX9_spared_55 rfl (fun hc => ?_) (fun hc => ?_)
        · replace h := q_t h hc
          refine go_aload_n rfl 0 rfl dX9_spared_61 ?_
          refine go_iload 4 rfl dX9_spared_62 ?_
          refine go_iconst kz_iconst_1 dX9_spared_64 ?_
          obtain ⟨r_8, h_9, h⟩ := q_b h
          refine h_callVv (st := []) [.int y4, .int 1] (m_X9_fenced h_9) me_X9_fenced (g_recv cl7.1 rfl) tw_1085 tw_1087 tw_32 (hdd_of (by decide)) ⟨Nat.zero_le _, Nat.zero_le _⟩ rfl rfl (Nat.le_of_ble_eq_true rfl) dX9_spared_65 ?_
          refine go_aload_n rfl 0 rfl dX9_spared_68 ?_
          refine go_iload_n rfl 2 rfl dX9_spared_69 ?_
          obtain ⟨r_10, h_11, h⟩ := q_b h
          refine h_callVi (st := []) [.int y2] (m_X9_chosenBehind h_11) me_X9_chosenBehind (g_recv cl7.1 rfl) tw_1227 tw_1229 tw_55 (hdd_of (by decide)) ⟨Nat.zero_le _, Nat.zero_le _⟩ rfl rfl (Nat.le_of_ble_eq_true rfl) dX9_spared_70 ?_
          refine go_iload_n rfl 1 rfl dX9_spared_73 ?_
          refine h_ishr dX9_spared_74 ?_
          refine go_iconst kz_iconst_1 dX9_spared_75 ?_
          refine go_iand dX9_spared_76 ?_
          refine go_if_ne (tgt := 83) dX9_spared_77 rfl (fun hc => ?_) (fun hc => ?_)
          · replace h := q_f h hc
            refine go_aload_n rfl 0 rfl dX9_spared_83 ?_
            refine go_iload 4 rfl dX9_spared_84 ?_
            refine go_iconst kz_iconst_0 dX9_spared_86 ?_
            obtain ⟨r_12, h_13, h⟩ := q_b h
            refine h_callVv (st := []) [.int y4, .int 0] (m_X9_fenced h_13) me_X9_fenced (g_recv cl7.1 rfl) tw_1085 tw_1087 tw_32 (hdd_of (by decide)) ⟨Nat.zero_le _, Nat.zero_le _⟩ rfl rfl (Nat.le_of_ble_eq_true rfl) dX9_spared_87 ?_
            refine h_iinc (l' := [(4, .int (y4 + (-1))), (0, .ref (ad 53)), (1, .int y1), (2, .int y2), (3, .int y3)]) dX9_spared_90 4 rfl kz_iconst_m1 (by decide) rfl ?_
            refine go_goto (tgt := 34) dX9_spared_93 rfl ?_
            refine go_sub (l' := [(0, .ref (ad 53)), (1, .int y1), (2, .int y2), (3, .int y3), (4, .int (y4 + (-1)))]) [1, 2, 3, 4, 0] rfl ?_
            exact ih _ _ _ _ h hk96
          · replace h := q_t h hc
            refine go_iload 4 rfl dX9_spared_80 ?_
            refine go_istore_n (l' := [(3, .int y4), (0, .ref (ad 53)), (1, .int y1), (2, .int y2), (4, .int y4)]) dX9_spared_82 rfl (by decide) rfl ?_
            refine go_aload_n rfl 1 rfl dX9_spared_83 ?_
            refine go_iload 4 rfl dX9_spared_84 ?_
            refine go_iconst kz_iconst_0 dX9_spared_86 ?_
            obtain ⟨r_14, h_15, h⟩ := q_b h
            refine h_callVv (st := []) [.int y4, .int 0] (m_X9_fenced h_15) me_X9_fenced (g_recv cl7.1 rfl) tw_1085 tw_1087 tw_32 (hdd_of (by decide)) ⟨Nat.zero_le _, Nat.zero_le _⟩ rfl rfl (Nat.le_of_ble_eq_true rfl) dX9_spared_87 ?_
            refine h_iinc (l' := [(4, .int (y4 + (-1))), (3, .int y4), (0, .ref (ad 53)), (1, .int y1), (2, .int y2)]) dX9_spared_90 4 rfl kz_iconst_m1 (by decide) rfl ?_
            refine go_goto (tgt := 34) dX9_spared_93 rfl ?_
            refine go_sub (l' := [(0, .ref (ad 53)), (1, .int y1), (2, .int y2), (3, .int y4), (4, .int (y4 + (-1)))]) [2, 3, 4, 1, 0] rfl ?_
            exact ih _ _ _ _ h hk96
        · replace h := q_f h hc
          refine go_goto (tgt := 90) dX9_spared_58 rfl ?_
          refine h_iinc (l' := [(4, .int (y4 + (-1))), (0, .ref (ad 53)), (1, .int y1), (2, .int y2), (3, .int y3)]) dX9_spared_90 4 rfl kz_iconst_m1 (by decide) rfl ?_
          refine go_goto (tgt := 34) dX9_spared_93 rfl ?_
          refine go_sub (l' := [(0, .ref (ad 53)), (1, .int y1), (2, .int y2), (3, .int y3), (4, .int (y4 + (-1)))]) [1, 2, 3, 4, 0] rfl ?_
          exact ih _ _ _ _ h hk96
set_option maxRecDepth 20000 in
set_option maxHeartbeats 2000000 in
theorem m_X9_spared {X : gX} {ad : Nat → Nat} {x1 : Int32} {x2 : Int32} {ν : gN} {r : Int32 × gN}  (h : f_X9_spared x1 x2 ν = some r) : h_ct X ad yX9_spared cX9_spared 5 ((Option.some .int)) 11 [.ref (ad 53), .int x1, .int x2] ν (some (.int r.1), r.2) := by
  rw [f_X9_spared] at h
  refine h_ct_of (l := [(0, .ref (ad 53)), (1, .int x1), (2, .int x2)]) (by decide) (Nat.le_of_ble_eq_true rfl) rfl ?_
  refine go_aload_n rfl 0 rfl dX9_spared_0 ?_
  refine go_iload_n rfl 1 rfl dX9_spared_1 ?_
  obtain ⟨r_1, h_2, h⟩ := q_b h
  refine h_callVi (st := []) [.int x1] (m_X9_isOne h_2) me_X9_isOne (g_recv cl7.1 rfl) tw_1036 tw_1038 tw_26 (hdd_of (by decide)) ⟨Nat.zero_le _, Nat.zero_le _⟩ rfl rfl (Nat.le_of_ble_eq_true rfl) dX9_spared_2 ?_
  refine go_if_ne (tgt := 14) dX9_spared_5 rfl (fun hc => ?_) (fun hc => ?_)
  · replace h := q_f h hc
    refine go_iload_n rfl 2 rfl dX9_spared_14 ?_
    obtain ⟨r_3, h_4, h⟩ := q_b h
    refine h_callSi (st := []) [.int x2] (m_X9_isTime h_4) me_X9_isTime tw_1204 tw_1205 (hdd_of (by decide)) ⟨Nat.zero_le _, Nat.zero_le _⟩ rfl rfl (Nat.le_of_ble_eq_true rfl) dX9_spared_15 ?_
    refine go_if_ne (tgt := 28) dX9_spared_18 rfl (fun hc => ?_) (fun hc => ?_)
    · replace h := q_f h hc
      refine go_iconst kz_iconst_m1 dX9_spared_28 ?_
      refine go_istore_n (l' := [(3, .int (-1)), (0, .ref (ad 53)), (1, .int x1), (2, .int x2)]) dX9_spared_29 rfl (by decide) rfl ?_
      refine go_bipush kz_bipush_48 dX9_spared_30 ?_
      refine go_istore (l' := [(4, .int 48), (3, .int (-1)), (0, .ref (ad 53)), (1, .int x1), (2, .int x2)]) dX9_spared_32 (by decide) rfl ?_
      refine go_sub (l' := [(0, .ref (ad 53)), (1, .int x1), (2, .int x2), (3, .int (-1)), (4, .int 48)]) [2, 3, 4, 1, 0] rfl ?_
      refine m_X9_spared_L34  FU _ _ _ _ h (fun z3_16 ν_17 h => ?_)
      refine go_iload_n rfl 0 rfl dX9_spared_96 ?_
      exact h_iret h dX9_spared_97 rfl
    · replace h := q_t h hc
      refine go_aload_n rfl 0 rfl dX9_spared_21 ?_
      refine go_bipush kz_bipush_m6 dX9_spared_22 ?_
      obtain ⟨r_18, h_19, h⟩ := q_b h
      refine h_callVi (st := []) [.int (-6)] (m_X9_no10 h_19) me_X9_no10 (g_recv cl7.1 rfl) tw_1235 tw_1237 tw_56 (hdd_of (by decide)) ⟨Nat.zero_le _, Nat.zero_le _⟩ rfl rfl (Nat.le_of_ble_eq_true rfl) dX9_spared_24 ?_
      exact h_iret h dX9_spared_27 rfl
  · replace h := q_t h hc
    refine go_aload_n rfl 0 rfl dX9_spared_8 ?_
    refine go_iconst kz_iconst_m1 dX9_spared_9 ?_
    obtain ⟨r_20, h_21, h⟩ := q_b h
    refine h_callVi (st := []) [.int (-1)] (m_X9_no10 h_21) me_X9_no10 (g_recv cl7.1 rfl) tw_1235 tw_1237 tw_56 (hdd_of (by decide)) ⟨Nat.zero_le _, Nat.zero_le _⟩ rfl rfl (Nat.le_of_ble_eq_true rfl) dX9_spared_10 ?_
    exact h_iret h dX9_spared_13 rfl
noncomputable def f_X9_squareOf (x1 : Int32) (x2 : Int32) (ν : gN) : Option (Int32 × gN) :=
  (f_X9_isSquare x1 ν).bind (fun r_1 =>
    if r_1.1 = 0 then
      (f_X9_no (-5) r_1.2).bind (fun r_3 =>
        some (r_3.1, r_3.2))
    else
      (f_X9_within x2 0 1 r_1.2).bind (fun r_5 =>
        if r_5.1 = 0 then
          (f_X9_no (-5) r_5.2).bind (fun r_10 =>
            some (r_10.1, r_10.2))
        else
          if x2 = 1 then
            (f_X9_thoseAt x1 r_5.2).bind (fun r_8 =>
              some (r_8.1, r_8.2))
          else
            if inb x1 49 = true then
              if (r_5.2.1 60 x1.toNatClampNeg) = 0 then
                some (0, r_5.2)
              else
                some (1, r_5.2)
            else none))
theorem me_X9_squareOf : g_me yX9_squareOf cX9_squareOf 3 ((Option.some .int)) 2 := ⟨tw_1112, tw_79, ⟨by decide +kernel, by decide +kernel, by decide +kernel⟩, by decide⟩
set_option maxRecDepth 20000 in
set_option maxHeartbeats 2000000 in
theorem m_X9_squareOf {X : gX} {ad : Nat → Nat} {x1 : Int32} {x2 : Int32} {ν : gN} {r : Int32 × gN}  (h : f_X9_squareOf x1 x2 ν = some r) : h_ct X ad yX9_squareOf cX9_squareOf 3 ((Option.some .int)) 3 [.ref (ad 53), .int x1, .int x2] ν (some (.int r.1), r.2) := by
  rw [f_X9_squareOf] at h
  refine h_ct_of (l := [(0, .ref (ad 53)), (1, .int x1), (2, .int x2)]) (by decide) (Nat.le_of_ble_eq_true rfl) rfl ?_
  refine go_iload_n rfl 1 rfl dX9_squareOf_0 ?_
  obtain ⟨r_1, h_2, h⟩ := q_b h
  refine h_callSi (st := []) [.int x1] (m_X9_isSquare h_2) me_X9_isSquare tw_1066 tw_1067 (hdd_of (by decide)) ⟨Nat.zero_le _, Nat.zero_le _⟩ rfl rfl (Nat.le_of_ble_eq_true rfl) dX9_squareOf_1 ?_
  refine go_if_eq (tgt := 16) dX9_squareOf_4 rfl (fun hc => ?_) (fun hc => ?_)
  · replace h := q_t h hc
    refine go_aload_n rfl 0 rfl dX9_squareOf_16 ?_
    refine go_bipush kz_bipush_m5 dX9_squareOf_17 ?_
    obtain ⟨r_3, h_4, h⟩ := q_b h
    refine h_callVi (st := []) [.int (-5)] (m_X9_no h_4) me_X9_no (g_recv cl7.1 rfl) tw_1008 tw_1010 tw_23 (hdd_of (by decide)) ⟨Nat.zero_le _, Nat.zero_le _⟩ rfl rfl (Nat.le_of_ble_eq_true rfl) dX9_squareOf_19 ?_
    exact h_iret h dX9_squareOf_22 rfl
  · replace h := q_f h hc
    refine go_iload_n rfl 2 rfl dX9_squareOf_7 ?_
    refine go_iconst kz_iconst_0 dX9_squareOf_8 ?_
    refine go_iconst kz_iconst_1 dX9_squareOf_9 ?_
    obtain ⟨r_5, h_6, h⟩ := q_b h
    refine h_callSi (st := []) [.int x2, .int 0, .int 1] (m_X9_within h_6) me_X9_within tw_1005 tw_1006 (hdd_of (by decide)) ⟨Nat.zero_le _, Nat.zero_le _⟩ rfl rfl (Nat.le_of_ble_eq_true rfl) dX9_squareOf_10 ?_
    refine go_if_ne (tgt := 23) dX9_squareOf_13 rfl (fun hc => ?_) (fun hc => ?_)
    · replace h := q_f h hc
      refine go_iload_n rfl 2 rfl dX9_squareOf_23 ?_
      refine go_iconst kz_iconst_1 dX9_squareOf_24 ?_
      refine go_icmp_ne (tgt := 36) dX9_squareOf_25 rfl (fun hc => ?_) (fun hc => ?_)
      · replace h := q_f h hc
        refine go_aload_n rfl 0 rfl dX9_squareOf_36 ?_
        refine h_getr 7 cl7 rfl (by decide) tw_919 60 rfl dX9_squareOf_37 ?_
        refine go_iload_n rfl 1 rfl dX9_squareOf_40 ?_
        obtain ⟨hg_7, h⟩ := q_g h
        refine h_zald 49 rfl hg_7 dX9_squareOf_41 ?_
        refine go_if_eq (tgt := 49) dX9_squareOf_42 rfl (fun hc => ?_) (fun hc => ?_)
        · replace h := q_t h hc
          refine go_iconst kz_iconst_0 dX9_squareOf_49 ?_
          exact h_iret h dX9_squareOf_50 rfl
        · replace h := q_f h hc
          refine go_iconst kz_iconst_1 dX9_squareOf_45 ?_
          refine go_goto (tgt := 50) dX9_squareOf_46 rfl ?_
          exact h_iret h dX9_squareOf_50 rfl
      · replace h := q_t h hc
        refine go_aload_n rfl 0 rfl dX9_squareOf_28 ?_
        refine go_iload_n rfl 1 rfl dX9_squareOf_29 ?_
        obtain ⟨r_8, h_9, h⟩ := q_b h
        refine h_callVi (st := []) [.int x1] (m_X9_thoseAt h_9) me_X9_thoseAt (g_recv cl7.1 rfl) tw_1081 tw_1083 tw_31 (hdd_of (by decide)) ⟨Nat.zero_le _, Nat.zero_le _⟩ rfl rfl (Nat.le_of_ble_eq_true rfl) dX9_squareOf_30 ?_
        refine go_goto (tgt := 50) dX9_squareOf_33 rfl ?_
        exact h_iret h dX9_squareOf_50 rfl
    · replace h := q_t h hc
      refine go_aload_n rfl 0 rfl dX9_squareOf_16 ?_
      refine go_bipush kz_bipush_m5 dX9_squareOf_17 ?_
      obtain ⟨r_10, h_11, h⟩ := q_b h
      refine h_callVi (st := []) [.int (-5)] (m_X9_no h_11) me_X9_no (g_recv cl7.1 rfl) tw_1008 tw_1010 tw_23 (hdd_of (by decide)) ⟨Nat.zero_le _, Nat.zero_le _⟩ rfl rfl (Nat.le_of_ble_eq_true rfl) dX9_squareOf_19 ?_
      exact h_iret h dX9_squareOf_22 rfl
noncomputable def f_X9_status_L59  (k83 : Int32 → gN → Option (Int32 × gN)) : Nat → Int32 → Int32 → gN → Option (Int32 × gN)
  | 0, _, _, _ => none
  | n + 1, y2, y3, ν =>
    if 49 ≤ y3 then
      k83 y2 ν
    else
      if inb y3 49 = true then
        if (ν.1 60 y3.toNatClampNeg) = 0 then
          f_X9_status_L59 k83 n y2 (y3 + 1) ν
        else
          f_X9_status_L59 k83 n (y2 + 1) (y3 + 1) ν
      else none
noncomputable def f_X9_status_L96  (k119 : Int32 → gN → Option (Int32 × gN)) : Nat → Int32 → Int32 → gN → Option (Int32 × gN)
  | 0, _, _, _ => none
  | n + 1, y2, y3, ν =>
    if (ν.1 53 0) ≤ y3 then
      k119 y2 ν
    else
      if inb y3 7 = true then
        f_X9_status_L96 k119 n (y2 + (ν.1 59 y3.toNatClampNeg)) (y3 + 1) ν
      else none
noncomputable def f_X9_status (x1 : Int32) (ν : gN) : Option (Int32 × gN) :=
  if x1 = 0 then
    some (ν.1 53 0, ν)
  else
  if x1 = 1 then
    f_X9_status_L59  (fun z2_4 ν_5 =>
      some (z2_4, ν_5)) FU 0 0 ν
  else
  if x1 = 2 then
    if inb (x1 - 2) 4 = true then
      some (ν.1 61 (x1 - 2).toNatClampNeg, ν)
    else none
  else
  if x1 = 3 then
    if inb (x1 - 2) 4 = true then
      some (ν.1 61 (x1 - 2).toNatClampNeg, ν)
    else none
  else
  if x1 = 4 then
    if inb (x1 - 2) 4 = true then
      some (ν.1 61 (x1 - 2).toNatClampNeg, ν)
    else none
  else
  if x1 = 5 then
    if inb (x1 - 2) 4 = true then
      some (ν.1 61 (x1 - 2).toNatClampNeg, ν)
    else none
  else
  if x1 = 6 then
    f_X9_status_L96  (fun z2_16 ν_17 =>
      some (z2_16, ν_17)) FU 0 0 ν
  else
  if x1 = 7 then
    some (ν.1 53 9, ν)
  else
  if x1 = 8 then
    some (ν.1 53 18, ν)
  else
  (f_X9_within x1 11 17 ν).bind (fun r_20 =>
    if r_20.1 = 0 then
      some ((-1), r_20.2)
    else
      if inb (x1 - 10) 8 = true then
        some (r_20.2.1 68 (x1 - 10).toNatClampNeg, r_20.2)
      else none)
theorem me_X9_status : g_me yX9_status cX9_status 4 ((Option.some .int)) 1 := ⟨tw_1380, tw_79, ⟨by decide +kernel, by decide +kernel, by decide +kernel⟩, by decide⟩
set_option maxRecDepth 20000 in
set_option maxHeartbeats 2000000 in
theorem m_X9_status_L59 {X : gX} {ad : Nat → Nat}  {k83 : Int32 → gN → Option (Int32 × gN)}  : ∀ (n : Nat) (y2 : Int32) (y3 : Int32) (ν : gN) (r : Int32 × gN), f_X9_status_L59 k83 n y2 y3 ν = some r → (∀ (z2 : Int32) (ν1 : gN), k83 z2 ν1 = some r → h_go X ad RX9 "status" cX9_status 4 ((Option.some .int)) 2 (some (.int r.1), r.2) 83 [(2, .int z2)] [] ν1) → h_go X ad RX9 "status" cX9_status 4 ((Option.some .int)) 2 (some (.int r.1), r.2) 59 [(0, .ref (ad 53)), (2, .int y2), (3, .int y3)] [] ν := by
  intro n
  induction n with
  | zero => intro y2 y3 ν r h hk83; rw [f_X9_status_L59] at h; exact q_n h
  | succ n ih =>
    intro y2 y3 ν r h hk83
    rw [f_X9_status_L59] at h
    refine go_iload_n rfl 2 rfl dX9_status_59 ?_
    refine go_bipush kz_bipush_49 dX9_status_60 ?_
    refine go_icmp_ge (tgt := 83) dX9_status_62 rfl (fun hc => ?_) (fun hc => ?_)
    · replace h := q_t h hc
      refine go_sub (l' := [(2, .int y2)]) [1] rfl ?_
      exact hk83 _ _ h
    · replace h := q_f h hc
      refine go_aload_n rfl 0 rfl dX9_status_65 ?_
      refine h_getr 7 cl7 rfl (by decide) tw_919 60 rfl dX9_status_66 ?_
      refine go_iload_n rfl 2 rfl dX9_status_69 ?_
      obtain ⟨hg_3, h⟩ := q_g h
      refine h_zald 49 rfl hg_3 dX9_status_70 ?_
      refine go_if_eq (tgt := 77) dX9_status_71 rfl (fun hc => ?_) (fun hc => ?_)
      · replace h := q_t h hc
        refine h_iinc (l' := [(3, .int (y3 + 1)), (0, .ref (ad 53)), (2, .int y2)]) dX9_status_77 2 rfl kz_iconst_1 (by decide) rfl ?_
        refine go_goto (tgt := 59) dX9_status_80 rfl ?_
        refine go_sub (l' := [(0, .ref (ad 53)), (2, .int y2), (3, .int (y3 + 1))]) [1, 2, 0] rfl ?_
        exact ih _ _ _ _ h hk83
      · replace h := q_f h hc
        refine h_iinc (l' := [(2, .int (y2 + 1)), (0, .ref (ad 53)), (3, .int y3)]) dX9_status_74 1 rfl kz_iconst_1 (by decide) rfl ?_
        refine h_iinc (l' := [(3, .int (y3 + 1)), (2, .int (y2 + 1)), (0, .ref (ad 53))]) dX9_status_77 2 rfl kz_iconst_1 (by decide) rfl ?_
        refine go_goto (tgt := 59) dX9_status_80 rfl ?_
        refine go_sub (l' := [(0, .ref (ad 53)), (2, .int (y2 + 1)), (3, .int (y3 + 1))]) [2, 1, 0] rfl ?_
        exact ih _ _ _ _ h hk83
set_option maxRecDepth 20000 in
set_option maxHeartbeats 2000000 in
theorem m_X9_status_L96 {X : gX} {ad : Nat → Nat}  {k119 : Int32 → gN → Option (Int32 × gN)}  : ∀ (n : Nat) (y2 : Int32) (y3 : Int32) (ν : gN) (r : Int32 × gN), f_X9_status_L96 k119 n y2 y3 ν = some r → (∀ (z2 : Int32) (ν1 : gN), k119 z2 ν1 = some r → h_go X ad RX9 "status" cX9_status 4 ((Option.some .int)) 2 (some (.int r.1), r.2) 119 [(2, .int z2)] [] ν1) → h_go X ad RX9 "status" cX9_status 4 ((Option.some .int)) 2 (some (.int r.1), r.2) 96 [(0, .ref (ad 53)), (2, .int y2), (3, .int y3)] [] ν := by
  intro n
  induction n with
  | zero => intro y2 y3 ν r h hk119; rw [f_X9_status_L96] at h; exact q_n h
  | succ n ih =>
    intro y2 y3 ν r h hk119
    rw [f_X9_status_L96] at h
    refine go_iload_n rfl 2 rfl dX9_status_96 ?_
    refine go_aload_n rfl 0 rfl dX9_status_97 ?_
    refine h_geti 0 cl7 rfl (by decide) tw_912 rfl dX9_status_98 ?_
    refine go_icmp_ge (tgt := 119) dX9_status_101 rfl (fun hc => ?_) (fun hc => ?_)
    · replace h := q_t h hc
      refine go_sub (l' := [(2, .int y2)]) [1] rfl ?_
      exact hk119 _ _ h
    · replace h := q_f h hc
      refine go_iload_n rfl 1 rfl dX9_status_104 ?_
      refine go_aload_n rfl 0 rfl dX9_status_105 ?_
      refine h_getr 6 cl7 rfl (by decide) tw_918 59 rfl dX9_status_106 ?_
      refine go_iload_n rfl 2 rfl dX9_status_109 ?_
      obtain ⟨hg_15, h⟩ := q_g h
      refine h_iald 7 rfl hg_15 dX9_status_110 ?_
      refine go_iadd dX9_status_111 ?_
      refine go_istore_n (l' := [(2, .int (y2 + (ν.1 59 y3.toNatClampNeg))), (0, .ref (ad 53)), (3, .int y3)]) dX9_status_112 rfl (by decide) rfl ?_
      refine h_iinc (l' := [(3, .int (y3 + 1)), (2, .int (y2 + (ν.1 59 y3.toNatClampNeg))), (0, .ref (ad 53))]) dX9_status_113 2 rfl kz_iconst_1 (by decide) rfl ?_
      refine go_goto (tgt := 96) dX9_status_116 rfl ?_
      refine go_sub (l' := [(0, .ref (ad 53)), (2, .int (y2 + (ν.1 59 y3.toNatClampNeg))), (3, .int (y3 + 1))]) [2, 1, 0] rfl ?_
      exact ih _ _ _ _ h hk119
set_option maxRecDepth 20000 in
set_option maxHeartbeats 2000000 in
theorem m_X9_status {X : gX} {ad : Nat → Nat} {x1 : Int32} {ν : gN} {r : Int32 × gN}  (h : f_X9_status x1 ν = some r) : h_ct X ad yX9_status cX9_status 4 ((Option.some .int)) 2 [.ref (ad 53), .int x1] ν (some (.int r.1), r.2) := by
  rw [f_X9_status] at h
  refine h_ct_of (l := [(0, .ref (ad 53)), (1, .int x1)]) (by decide) (Nat.le_of_ble_eq_true rfl) rfl ?_
  refine go_iconst kz_iconst_0 dX9_status_0 ?_
  refine go_istore_n (l' := [(2, .int 0), (0, .ref (ad 53)), (1, .int x1)]) dX9_status_1 rfl (by decide) rfl ?_
  refine go_iload_n rfl 2 rfl dX9_status_2 ?_
  by_cases hk_1 : x1 = 0
  · replace h := q_t h hk_1
    refine h_tbT (tgt := 52) (off := 49) hk_1 dX9_status_3 (by decide) (by decide) rfl rfl ?_
    refine go_aload_n rfl 1 rfl dX9_status_52 ?_
    refine h_geti 0 cl7 rfl (by decide) tw_912 rfl dX9_status_53 ?_
    exact h_iret h dX9_status_56 rfl
  replace h := q_f h hk_1
  by_cases hk_2 : x1 = 1
  · replace h := q_t h hk_2
    refine h_tbT (tgt := 57) (off := 54) hk_2 dX9_status_3 (by decide) (by decide) rfl rfl ?_
    refine go_iconst kz_iconst_0 dX9_status_57 ?_
    refine go_istore_n (l' := [(3, .int 0), (2, .int 0), (0, .ref (ad 53)), (1, .int x1)]) dX9_status_58 rfl (by decide) rfl ?_
    refine go_sub (l' := [(0, .ref (ad 53)), (2, .int 0), (3, .int 0)]) [2, 1, 0] rfl ?_
    refine m_X9_status_L59  FU _ _ _ _ h (fun z2_4 ν_5 h => ?_)
    refine go_iload_n rfl 0 rfl dX9_status_83 ?_
    exact h_iret h dX9_status_84 rfl
  replace h := q_f h hk_2
  by_cases hk_6 : x1 = 2
  · replace h := q_t h hk_6
    refine h_tbT (tgt := 85) (off := 82) hk_6 dX9_status_3 (by decide) (by decide) rfl rfl ?_
    refine go_aload_n rfl 1 rfl dX9_status_85 ?_
    refine h_getr 8 cl7 rfl (by decide) tw_920 61 rfl dX9_status_86 ?_
    refine go_iload_n rfl 2 rfl dX9_status_89 ?_
    refine go_iconst kz_iconst_2 dX9_status_90 ?_
    refine go_isub dX9_status_91 ?_
    obtain ⟨hg_7, h⟩ := q_g h
    refine h_iald 4 rfl hg_7 dX9_status_92 ?_
    exact h_iret h dX9_status_93 rfl
  replace h := q_f h hk_6
  by_cases hk_8 : x1 = 3
  · replace h := q_t h hk_8
    refine h_tbT (tgt := 85) (off := 82) hk_8 dX9_status_3 (by decide) (by decide) rfl rfl ?_
    refine go_aload_n rfl 1 rfl dX9_status_85 ?_
    refine h_getr 8 cl7 rfl (by decide) tw_920 61 rfl dX9_status_86 ?_
    refine go_iload_n rfl 2 rfl dX9_status_89 ?_
    refine go_iconst kz_iconst_2 dX9_status_90 ?_
    refine go_isub dX9_status_91 ?_
    obtain ⟨hg_9, h⟩ := q_g h
    refine h_iald 4 rfl hg_9 dX9_status_92 ?_
    exact h_iret h dX9_status_93 rfl
  replace h := q_f h hk_8
  by_cases hk_10 : x1 = 4
  · replace h := q_t h hk_10
    refine h_tbT (tgt := 85) (off := 82) hk_10 dX9_status_3 (by decide) (by decide) rfl rfl ?_
    refine go_aload_n rfl 1 rfl dX9_status_85 ?_
    refine h_getr 8 cl7 rfl (by decide) tw_920 61 rfl dX9_status_86 ?_
    refine go_iload_n rfl 2 rfl dX9_status_89 ?_
    refine go_iconst kz_iconst_2 dX9_status_90 ?_
    refine go_isub dX9_status_91 ?_
    obtain ⟨hg_11, h⟩ := q_g h
    refine h_iald 4 rfl hg_11 dX9_status_92 ?_
    exact h_iret h dX9_status_93 rfl
  replace h := q_f h hk_10
  by_cases hk_12 : x1 = 5
  · replace h := q_t h hk_12
    refine h_tbT (tgt := 85) (off := 82) hk_12 dX9_status_3 (by decide) (by decide) rfl rfl ?_
    refine go_aload_n rfl 1 rfl dX9_status_85 ?_
    refine h_getr 8 cl7 rfl (by decide) tw_920 61 rfl dX9_status_86 ?_
    refine go_iload_n rfl 2 rfl dX9_status_89 ?_
    refine go_iconst kz_iconst_2 dX9_status_90 ?_
    refine go_isub dX9_status_91 ?_
    obtain ⟨hg_13, h⟩ := q_g h
    refine h_iald 4 rfl hg_13 dX9_status_92 ?_
    exact h_iret h dX9_status_93 rfl
  replace h := q_f h hk_12
  by_cases hk_14 : x1 = 6
  · replace h := q_t h hk_14
    refine h_tbT (tgt := 94) (off := 91) hk_14 dX9_status_3 (by decide) (by decide) rfl rfl ?_
    refine go_iconst kz_iconst_0 dX9_status_94 ?_
    refine go_istore_n (l' := [(3, .int 0), (2, .int 0), (0, .ref (ad 53)), (1, .int x1)]) dX9_status_95 rfl (by decide) rfl ?_
    refine go_sub (l' := [(0, .ref (ad 53)), (2, .int 0), (3, .int 0)]) [2, 1, 0] rfl ?_
    refine m_X9_status_L96  FU _ _ _ _ h (fun z2_16 ν_17 h => ?_)
    refine go_iload_n rfl 0 rfl dX9_status_119 ?_
    exact h_iret h dX9_status_120 rfl
  replace h := q_f h hk_14
  by_cases hk_18 : x1 = 7
  · replace h := q_t h hk_18
    refine h_tbT (tgt := 121) (off := 118) hk_18 dX9_status_3 (by decide) (by decide) rfl rfl ?_
    refine go_aload_n rfl 1 rfl dX9_status_121 ?_
    refine h_geti 9 cl7 rfl (by decide) tw_921 rfl dX9_status_122 ?_
    exact h_iret h dX9_status_125 rfl
  replace h := q_f h hk_18
  by_cases hk_19 : x1 = 8
  · replace h := q_t h hk_19
    refine h_tbT (tgt := 126) (off := 123) hk_19 dX9_status_3 (by decide) (by decide) rfl rfl ?_
    refine go_aload_n rfl 1 rfl dX9_status_126 ?_
    refine h_geti 18 cl7 rfl (by decide) tw_930 rfl dX9_status_127 ?_
    exact h_iret h dX9_status_130 rfl
  replace h := q_f h hk_19
  have hk_1 := h_nT hk_1 (a := 0) (by decide)
  have hk_2 := h_nT hk_2 (a := 1) (by decide)
  have hk_6 := h_nT hk_6 (a := 2) (by decide)
  have hk_8 := h_nT hk_8 (a := 3) (by decide)
  have hk_10 := h_nT hk_10 (a := 4) (by decide)
  have hk_12 := h_nT hk_12 (a := 5) (by decide)
  have hk_14 := h_nT hk_14 (a := 6) (by decide)
  have hk_18 := h_nT hk_18 (a := 7) (by decide)
  have hk_19 := h_nT hk_19 (a := 8) (by decide)
  refine go_tableOut (tgt := 131) dX9_status_3 (by omega) rfl ?_
  refine go_iload_n rfl 2 rfl dX9_status_131 ?_
  refine go_bipush kz_bipush_11 dX9_status_132 ?_
  refine go_bipush kz_bipush_17 dX9_status_134 ?_
  obtain ⟨r_20, h_21, h⟩ := q_b h
  refine h_callSi (st := []) [.int x1, .int 11, .int 17] (m_X9_within h_21) me_X9_within tw_1005 tw_1006 (hdd_of (by decide)) ⟨Nat.zero_le _, Nat.zero_le _⟩ rfl rfl (Nat.le_of_ble_eq_true rfl) dX9_status_136 ?_
  refine go_if_eq (tgt := 154) dX9_status_139 rfl (fun hc => ?_) (fun hc => ?_)
  · replace h := q_t h hc
    refine go_iconst kz_iconst_m1 dX9_status_154 ?_
    exact h_iret h dX9_status_155 rfl
  · replace h := q_f h hc
    refine go_aload_n rfl 1 rfl dX9_status_142 ?_
    refine h_getr 20 cl7 rfl (by decide) tw_932 68 rfl dX9_status_143 ?_
    refine go_iload_n rfl 2 rfl dX9_status_146 ?_
    refine go_bipush kz_bipush_10 dX9_status_147 ?_
    refine go_isub dX9_status_149 ?_
    obtain ⟨hg_22, h⟩ := q_g h
    refine h_iald 8 rfl hg_22 dX9_status_150 ?_
    refine go_goto (tgt := 155) dX9_status_151 rfl ?_
    exact h_iret h dX9_status_155 rfl
noncomputable def f_X9_tell (x1 : Int32) (x2 : Int32) (x3 : Int32) (ν : gN) : Option (Int32 × gN) :=
  (f_X9_isOne x1 ν).bind (fun r_1 =>
    if r_1.1 = 0 then
      (f_X9_no (-1) r_1.2).bind (fun r_109 =>
        some (r_109.1, r_109.2))
    else
      (f_X9_within x2 0 2 r_1.2).bind (fun r_3 =>
        if r_3.1 = 0 then
          (f_X9_no (-6) r_3.2).bind (fun r_5 =>
            some (r_5.1, r_5.2))
        else
          if x2 = 0 then
            (f_X9_within x3 0 20 r_3.2).bind (fun r_75 =>
              if r_75.1 = 0 then
                (f_X9_no (-6) r_75.2).bind (fun r_77 =>
                  some (r_77.1, r_77.2))
              else
                if x2 = 0 then
                  if inb x1 7 = true then
                    if x2 = 0 then
                      if inb x1 7 = true then
                        qL (nWI r_75.2 56 x1.toNatClampNeg x3) (fun ν_107 =>
                          some (r_75.2.1 56 x1.toNatClampNeg, ν_107))
                      else none
                    else
                      if x2 = 1 then
                        if inb x1 7 = true then
                          qL (nWI r_75.2 57 x1.toNatClampNeg x3) (fun ν_104 =>
                            some (r_75.2.1 56 x1.toNatClampNeg, ν_104))
                        else none
                      else
                        if inb x1 7 = true then
                          qL (nWI r_75.2 58 x1.toNatClampNeg x3) (fun ν_101 =>
                            some (r_75.2.1 56 x1.toNatClampNeg, ν_101))
                        else none
                  else none
                else
                  if x2 = 1 then
                    if inb x1 7 = true then
                      if x2 = 0 then
                        if inb x1 7 = true then
                          qL (nWI r_75.2 56 x1.toNatClampNeg x3) (fun ν_97 =>
                            some (r_75.2.1 57 x1.toNatClampNeg, ν_97))
                        else none
                      else
                        if x2 = 1 then
                          if inb x1 7 = true then
                            qL (nWI r_75.2 57 x1.toNatClampNeg x3) (fun ν_94 =>
                              some (r_75.2.1 57 x1.toNatClampNeg, ν_94))
                          else none
                        else
                          if inb x1 7 = true then
                            qL (nWI r_75.2 58 x1.toNatClampNeg x3) (fun ν_91 =>
                              some (r_75.2.1 57 x1.toNatClampNeg, ν_91))
                          else none
                    else none
                  else
                    if inb x1 7 = true then
                      if x2 = 0 then
                        if inb x1 7 = true then
                          qL (nWI r_75.2 56 x1.toNatClampNeg x3) (fun ν_87 =>
                            some (r_75.2.1 58 x1.toNatClampNeg, ν_87))
                        else none
                      else
                        if x2 = 1 then
                          if inb x1 7 = true then
                            qL (nWI r_75.2 57 x1.toNatClampNeg x3) (fun ν_84 =>
                              some (r_75.2.1 58 x1.toNatClampNeg, ν_84))
                          else none
                        else
                          if inb x1 7 = true then
                            qL (nWI r_75.2 58 x1.toNatClampNeg x3) (fun ν_81 =>
                              some (r_75.2.1 58 x1.toNatClampNeg, ν_81))
                          else none
                    else none)
          else
            if x2 = 1 then
              (f_X9_within x3 1 4 r_3.2).bind (fun r_41 =>
                if r_41.1 = 0 then
                  (f_X9_no (-6) r_41.2).bind (fun r_43 =>
                    some (r_43.1, r_43.2))
                else
                  if x2 = 0 then
                    if inb x1 7 = true then
                      if x2 = 0 then
                        if inb x1 7 = true then
                          qL (nWI r_41.2 56 x1.toNatClampNeg x3) (fun ν_73 =>
                            some (r_41.2.1 56 x1.toNatClampNeg, ν_73))
                        else none
                      else
                        if x2 = 1 then
                          if inb x1 7 = true then
                            qL (nWI r_41.2 57 x1.toNatClampNeg x3) (fun ν_70 =>
                              some (r_41.2.1 56 x1.toNatClampNeg, ν_70))
                          else none
                        else
                          if inb x1 7 = true then
                            qL (nWI r_41.2 58 x1.toNatClampNeg x3) (fun ν_67 =>
                              some (r_41.2.1 56 x1.toNatClampNeg, ν_67))
                          else none
                    else none
                  else
                    if x2 = 1 then
                      if inb x1 7 = true then
                        if x2 = 0 then
                          if inb x1 7 = true then
                            qL (nWI r_41.2 56 x1.toNatClampNeg x3) (fun ν_63 =>
                              some (r_41.2.1 57 x1.toNatClampNeg, ν_63))
                          else none
                        else
                          if x2 = 1 then
                            if inb x1 7 = true then
                              qL (nWI r_41.2 57 x1.toNatClampNeg x3) (fun ν_60 =>
                                some (r_41.2.1 57 x1.toNatClampNeg, ν_60))
                            else none
                          else
                            if inb x1 7 = true then
                              qL (nWI r_41.2 58 x1.toNatClampNeg x3) (fun ν_57 =>
                                some (r_41.2.1 57 x1.toNatClampNeg, ν_57))
                            else none
                      else none
                    else
                      if inb x1 7 = true then
                        if x2 = 0 then
                          if inb x1 7 = true then
                            qL (nWI r_41.2 56 x1.toNatClampNeg x3) (fun ν_53 =>
                              some (r_41.2.1 58 x1.toNatClampNeg, ν_53))
                          else none
                        else
                          if x2 = 1 then
                            if inb x1 7 = true then
                              qL (nWI r_41.2 57 x1.toNatClampNeg x3) (fun ν_50 =>
                                some (r_41.2.1 58 x1.toNatClampNeg, ν_50))
                            else none
                          else
                            if inb x1 7 = true then
                              qL (nWI r_41.2 58 x1.toNatClampNeg x3) (fun ν_47 =>
                                some (r_41.2.1 58 x1.toNatClampNeg, ν_47))
                            else none
                      else none)
            else
              (f_X9_isOpen x3 r_3.2).bind (fun r_7 =>
                if r_7.1 = 0 then
                  (f_X9_no (-6) r_7.2).bind (fun r_39 =>
                    some (r_39.1, r_39.2))
                else
                  if x2 = 0 then
                    if inb x1 7 = true then
                      if x2 = 0 then
                        if inb x1 7 = true then
                          qL (nWI r_7.2 56 x1.toNatClampNeg x3) (fun ν_37 =>
                            some (r_7.2.1 56 x1.toNatClampNeg, ν_37))
                        else none
                      else
                        if x2 = 1 then
                          if inb x1 7 = true then
                            qL (nWI r_7.2 57 x1.toNatClampNeg x3) (fun ν_34 =>
                              some (r_7.2.1 56 x1.toNatClampNeg, ν_34))
                          else none
                        else
                          if inb x1 7 = true then
                            qL (nWI r_7.2 58 x1.toNatClampNeg x3) (fun ν_31 =>
                              some (r_7.2.1 56 x1.toNatClampNeg, ν_31))
                          else none
                    else none
                  else
                    if x2 = 1 then
                      if inb x1 7 = true then
                        if x2 = 0 then
                          if inb x1 7 = true then
                            qL (nWI r_7.2 56 x1.toNatClampNeg x3) (fun ν_27 =>
                              some (r_7.2.1 57 x1.toNatClampNeg, ν_27))
                          else none
                        else
                          if x2 = 1 then
                            if inb x1 7 = true then
                              qL (nWI r_7.2 57 x1.toNatClampNeg x3) (fun ν_24 =>
                                some (r_7.2.1 57 x1.toNatClampNeg, ν_24))
                            else none
                          else
                            if inb x1 7 = true then
                              qL (nWI r_7.2 58 x1.toNatClampNeg x3) (fun ν_21 =>
                                some (r_7.2.1 57 x1.toNatClampNeg, ν_21))
                            else none
                      else none
                    else
                      if inb x1 7 = true then
                        if x2 = 0 then
                          if inb x1 7 = true then
                            qL (nWI r_7.2 56 x1.toNatClampNeg x3) (fun ν_17 =>
                              some (r_7.2.1 58 x1.toNatClampNeg, ν_17))
                          else none
                        else
                          if x2 = 1 then
                            if inb x1 7 = true then
                              qL (nWI r_7.2 57 x1.toNatClampNeg x3) (fun ν_14 =>
                                some (r_7.2.1 58 x1.toNatClampNeg, ν_14))
                            else none
                          else
                            if inb x1 7 = true then
                              qL (nWI r_7.2 58 x1.toNatClampNeg x3) (fun ν_11 =>
                                some (r_7.2.1 58 x1.toNatClampNeg, ν_11))
                            else none
                      else none)))
theorem me_X9_tell : g_me yX9_tell cX9_tell 5 ((Option.some .int)) 3 := ⟨tw_1092, tw_79, ⟨by decide +kernel, by decide +kernel, by decide +kernel⟩, by decide⟩
set_option maxRecDepth 20000 in
set_option maxHeartbeats 2000000 in
theorem m_X9_tell {X : gX} {ad : Nat → Nat} {x1 : Int32} {x2 : Int32} {x3 : Int32} {ν : gN} {r : Int32 × gN}  (h : f_X9_tell x1 x2 x3 ν = some r) : h_ct X ad yX9_tell cX9_tell 5 ((Option.some .int)) 4 [.ref (ad 53), .int x1, .int x2, .int x3] ν (some (.int r.1), r.2) := by
  rw [f_X9_tell] at h
  refine h_ct_of (l := [(0, .ref (ad 53)), (1, .int x1), (2, .int x2), (3, .int x3)]) (by decide) (Nat.le_of_ble_eq_true rfl) rfl ?_
  refine go_aload_n rfl 0 rfl dX9_tell_0 ?_
  refine go_iload_n rfl 1 rfl dX9_tell_1 ?_
  obtain ⟨r_1, h_2, h⟩ := q_b h
  refine h_callVi (st := []) [.int x1] (m_X9_isOne h_2) me_X9_isOne (g_recv cl7.1 rfl) tw_1036 tw_1038 tw_26 (hdd_of (by decide)) ⟨Nat.zero_le _, Nat.zero_le _⟩ rfl rfl (Nat.le_of_ble_eq_true rfl) dX9_tell_2 ?_
  refine go_if_ne (tgt := 14) dX9_tell_5 rfl (fun hc => ?_) (fun hc => ?_)
  · replace h := q_f h hc
    refine go_iload_n rfl 2 rfl dX9_tell_14 ?_
    refine go_iconst kz_iconst_0 dX9_tell_15 ?_
    refine go_iconst kz_iconst_2 dX9_tell_16 ?_
    obtain ⟨r_3, h_4, h⟩ := q_b h
    refine h_callSi (st := []) [.int x2, .int 0, .int 2] (m_X9_within h_4) me_X9_within tw_1005 tw_1006 (hdd_of (by decide)) ⟨Nat.zero_le _, Nat.zero_le _⟩ rfl rfl (Nat.le_of_ble_eq_true rfl) dX9_tell_17 ?_
    refine go_if_eq (tgt := 65) dX9_tell_20 rfl (fun hc => ?_) (fun hc => ?_)
    · replace h := q_t h hc
      refine go_aload_n rfl 0 rfl dX9_tell_65 ?_
      refine go_bipush kz_bipush_m6 dX9_tell_66 ?_
      obtain ⟨r_5, h_6, h⟩ := q_b h
      refine h_callVi (st := []) [.int (-6)] (m_X9_no h_6) me_X9_no (g_recv cl7.1 rfl) tw_1008 tw_1010 tw_23 (hdd_of (by decide)) ⟨Nat.zero_le _, Nat.zero_le _⟩ rfl rfl (Nat.le_of_ble_eq_true rfl) dX9_tell_68 ?_
      exact h_iret h dX9_tell_71 rfl
    · replace h := q_f h hc
      refine go_iload_n rfl 2 rfl dX9_tell_23 ?_
      refine go_if_ne (tgt := 40) dX9_tell_24 rfl (fun hc => ?_) (fun hc => ?_)
      · replace h := q_f h hc
        refine go_iload_n rfl 2 rfl dX9_tell_40 ?_
        refine go_iconst kz_iconst_1 dX9_tell_41 ?_
        refine go_icmp_ne (tgt := 57) dX9_tell_42 rfl (fun hc => ?_) (fun hc => ?_)
        · replace h := q_f h hc
          refine go_aload_n rfl 0 rfl dX9_tell_57 ?_
          refine go_iload_n rfl 3 rfl dX9_tell_58 ?_
          obtain ⟨r_7, h_8, h⟩ := q_b h
          refine h_callVi (st := []) [.int x3] (m_X9_isOpen h_8) me_X9_isOpen (g_recv cl7.1 rfl) tw_1062 tw_1064 tw_28 (hdd_of (by decide)) ⟨Nat.zero_le _, Nat.zero_le _⟩ rfl rfl (Nat.le_of_ble_eq_true rfl) dX9_tell_59 ?_
          refine go_if_ne (tgt := 72) dX9_tell_62 rfl (fun hc => ?_) (fun hc => ?_)
          · replace h := q_f h hc
            refine go_iload_n rfl 2 rfl dX9_tell_72 ?_
            refine go_if_ne (tgt := 85) dX9_tell_73 rfl (fun hc => ?_) (fun hc => ?_)
            · replace h := q_f h hc
              refine go_iload_n rfl 2 rfl dX9_tell_85 ?_
              refine go_iconst kz_iconst_1 dX9_tell_86 ?_
              refine go_icmp_ne (tgt := 99) dX9_tell_87 rfl (fun hc => ?_) (fun hc => ?_)
              · replace h := q_f h hc
                refine go_aload_n rfl 0 rfl dX9_tell_99 ?_
                refine h_getr 5 cl7 rfl (by decide) tw_917 58 rfl dX9_tell_100 ?_
                refine go_iload_n rfl 1 rfl dX9_tell_103 ?_
                obtain ⟨hg_9, h⟩ := q_g h
                refine h_iald 7 rfl hg_9 dX9_tell_104 ?_
                refine go_istore (l' := [(4, .int (r_7.2.1 58 x1.toNatClampNeg)), (0, .ref (ad 53)), (1, .int x1), (2, .int x2), (3, .int x3)]) dX9_tell_105 (by decide) rfl ?_
                refine go_iload_n rfl 3 rfl dX9_tell_107 ?_
                refine go_if_ne (tgt := 121) dX9_tell_108 rfl (fun hc => ?_) (fun hc => ?_)
                · replace h := q_f h hc
                  refine go_iload_n rfl 3 rfl dX9_tell_121 ?_
                  refine go_iconst kz_iconst_1 dX9_tell_122 ?_
                  refine go_icmp_ne (tgt := 136) dX9_tell_123 rfl (fun hc => ?_) (fun hc => ?_)
                  · replace h := q_f h hc
                    refine go_aload_n rfl 1 rfl dX9_tell_136 ?_
                    refine h_getr 5 cl7 rfl (by decide) tw_917 58 rfl dX9_tell_137 ?_
                    refine go_iload_n rfl 2 rfl dX9_tell_140 ?_
                    refine go_iload_n rfl 4 rfl dX9_tell_141 ?_
                    obtain ⟨hg_10, h⟩ := q_g h
                    obtain ⟨ν_11, e_12, h⟩ := q_l h
                    refine h_iast 7 rfl hg_10 e_12 dX9_tell_142 ?_
                    refine go_iload 0 rfl dX9_tell_143 ?_
                    exact h_iret h dX9_tell_145 rfl
                  · replace h := q_t h hc
                    refine go_aload_n rfl 1 rfl dX9_tell_126 ?_
                    refine h_getr 4 cl7 rfl (by decide) tw_916 57 rfl dX9_tell_127 ?_
                    refine go_iload_n rfl 2 rfl dX9_tell_130 ?_
                    refine go_iload_n rfl 4 rfl dX9_tell_131 ?_
                    obtain ⟨hg_13, h⟩ := q_g h
                    obtain ⟨ν_14, e_15, h⟩ := q_l h
                    refine h_iast 7 rfl hg_13 e_15 dX9_tell_132 ?_
                    refine go_goto (tgt := 143) dX9_tell_133 rfl ?_
                    refine go_iload 0 rfl dX9_tell_143 ?_
                    exact h_iret h dX9_tell_145 rfl
                · replace h := q_t h hc
                  refine go_aload_n rfl 1 rfl dX9_tell_111 ?_
                  refine h_getr 3 cl7 rfl (by decide) tw_915 56 rfl dX9_tell_112 ?_
                  refine go_iload_n rfl 2 rfl dX9_tell_115 ?_
                  refine go_iload_n rfl 4 rfl dX9_tell_116 ?_
                  obtain ⟨hg_16, h⟩ := q_g h
                  obtain ⟨ν_17, e_18, h⟩ := q_l h
                  refine h_iast 7 rfl hg_16 e_18 dX9_tell_117 ?_
                  refine go_goto (tgt := 143) dX9_tell_118 rfl ?_
                  refine go_iload 0 rfl dX9_tell_143 ?_
                  exact h_iret h dX9_tell_145 rfl
              · replace h := q_t h hc
                refine go_aload_n rfl 0 rfl dX9_tell_90 ?_
                refine h_getr 4 cl7 rfl (by decide) tw_916 57 rfl dX9_tell_91 ?_
                refine go_iload_n rfl 1 rfl dX9_tell_94 ?_
                obtain ⟨hg_19, h⟩ := q_g h
                refine h_iald 7 rfl hg_19 dX9_tell_95 ?_
                refine go_goto (tgt := 105) dX9_tell_96 rfl ?_
                refine go_istore (l' := [(4, .int (r_7.2.1 57 x1.toNatClampNeg)), (0, .ref (ad 53)), (1, .int x1), (2, .int x2), (3, .int x3)]) dX9_tell_105 (by decide) rfl ?_
                refine go_iload_n rfl 3 rfl dX9_tell_107 ?_
                refine go_if_ne (tgt := 121) dX9_tell_108 rfl (fun hc => ?_) (fun hc => ?_)
                · replace h := q_f h hc
                  refine go_iload_n rfl 3 rfl dX9_tell_121 ?_
                  refine go_iconst kz_iconst_1 dX9_tell_122 ?_
                  refine go_icmp_ne (tgt := 136) dX9_tell_123 rfl (fun hc => ?_) (fun hc => ?_)
                  · replace h := q_f h hc
                    refine go_aload_n rfl 1 rfl dX9_tell_136 ?_
                    refine h_getr 5 cl7 rfl (by decide) tw_917 58 rfl dX9_tell_137 ?_
                    refine go_iload_n rfl 2 rfl dX9_tell_140 ?_
                    refine go_iload_n rfl 4 rfl dX9_tell_141 ?_
                    obtain ⟨hg_20, h⟩ := q_g h
                    obtain ⟨ν_21, e_22, h⟩ := q_l h
                    refine h_iast 7 rfl hg_20 e_22 dX9_tell_142 ?_
                    refine go_iload 0 rfl dX9_tell_143 ?_
                    exact h_iret h dX9_tell_145 rfl
                  · replace h := q_t h hc
                    refine go_aload_n rfl 1 rfl dX9_tell_126 ?_
                    refine h_getr 4 cl7 rfl (by decide) tw_916 57 rfl dX9_tell_127 ?_
                    refine go_iload_n rfl 2 rfl dX9_tell_130 ?_
                    refine go_iload_n rfl 4 rfl dX9_tell_131 ?_
                    obtain ⟨hg_23, h⟩ := q_g h
                    obtain ⟨ν_24, e_25, h⟩ := q_l h
                    refine h_iast 7 rfl hg_23 e_25 dX9_tell_132 ?_
                    refine go_goto (tgt := 143) dX9_tell_133 rfl ?_
                    refine go_iload 0 rfl dX9_tell_143 ?_
                    exact h_iret h dX9_tell_145 rfl
                · replace h := q_t h hc
                  refine go_aload_n rfl 1 rfl dX9_tell_111 ?_
                  refine h_getr 3 cl7 rfl (by decide) tw_915 56 rfl dX9_tell_112 ?_
                  refine go_iload_n rfl 2 rfl dX9_tell_115 ?_
                  refine go_iload_n rfl 4 rfl dX9_tell_116 ?_
                  obtain ⟨hg_26, h⟩ := q_g h
                  obtain ⟨ν_27, e_28, h⟩ := q_l h
                  refine h_iast 7 rfl hg_26 e_28 dX9_tell_117 ?_
                  refine go_goto (tgt := 143) dX9_tell_118 rfl ?_
                  refine go_iload 0 rfl dX9_tell_143 ?_
                  exact h_iret h dX9_tell_145 rfl
            · replace h := q_t h hc
              refine go_aload_n rfl 0 rfl dX9_tell_76 ?_
              refine h_getr 3 cl7 rfl (by decide) tw_915 56 rfl dX9_tell_77 ?_
              refine go_iload_n rfl 1 rfl dX9_tell_80 ?_
              obtain ⟨hg_29, h⟩ := q_g h
              refine h_iald 7 rfl hg_29 dX9_tell_81 ?_
              refine go_goto (tgt := 105) dX9_tell_82 rfl ?_
              refine go_istore (l' := [(4, .int (r_7.2.1 56 x1.toNatClampNeg)), (0, .ref (ad 53)), (1, .int x1), (2, .int x2), (3, .int x3)]) dX9_tell_105 (by decide) rfl ?_
              refine go_iload_n rfl 3 rfl dX9_tell_107 ?_
              refine go_if_ne (tgt := 121) dX9_tell_108 rfl (fun hc => ?_) (fun hc => ?_)
              · replace h := q_f h hc
                refine go_iload_n rfl 3 rfl dX9_tell_121 ?_
                refine go_iconst kz_iconst_1 dX9_tell_122 ?_
                refine go_icmp_ne (tgt := 136) dX9_tell_123 rfl (fun hc => ?_) (fun hc => ?_)
                · replace h := q_f h hc
                  refine go_aload_n rfl 1 rfl dX9_tell_136 ?_
                  refine h_getr 5 cl7 rfl (by decide) tw_917 58 rfl dX9_tell_137 ?_
                  refine go_iload_n rfl 2 rfl dX9_tell_140 ?_
                  refine go_iload_n rfl 4 rfl dX9_tell_141 ?_
                  obtain ⟨hg_30, h⟩ := q_g h
                  obtain ⟨ν_31, e_32, h⟩ := q_l h
                  refine h_iast 7 rfl hg_30 e_32 dX9_tell_142 ?_
                  refine go_iload 0 rfl dX9_tell_143 ?_
                  exact h_iret h dX9_tell_145 rfl
                · replace h := q_t h hc
                  refine go_aload_n rfl 1 rfl dX9_tell_126 ?_
                  refine h_getr 4 cl7 rfl (by decide) tw_916 57 rfl dX9_tell_127 ?_
                  refine go_iload_n rfl 2 rfl dX9_tell_130 ?_
                  refine go_iload_n rfl 4 rfl dX9_tell_131 ?_
                  obtain ⟨hg_33, h⟩ := q_g h
                  obtain ⟨ν_34, e_35, h⟩ := q_l h
                  refine h_iast 7 rfl hg_33 e_35 dX9_tell_132 ?_
                  refine go_goto (tgt := 143) dX9_tell_133 rfl ?_
                  refine go_iload 0 rfl dX9_tell_143 ?_
                  exact h_iret h dX9_tell_145 rfl
              · replace h := q_t h hc
                refine go_aload_n rfl 1 rfl dX9_tell_111 ?_
                refine h_getr 3 cl7 rfl (by decide) tw_915 56 rfl dX9_tell_112 ?_
                refine go_iload_n rfl 2 rfl dX9_tell_115 ?_
                refine go_iload_n rfl 4 rfl dX9_tell_116 ?_
                obtain ⟨hg_36, h⟩ := q_g h
                obtain ⟨ν_37, e_38, h⟩ := q_l h
                refine h_iast 7 rfl hg_36 e_38 dX9_tell_117 ?_
                refine go_goto (tgt := 143) dX9_tell_118 rfl ?_
                refine go_iload 0 rfl dX9_tell_143 ?_
                exact h_iret h dX9_tell_145 rfl
          · replace h := q_t h hc
            refine go_aload_n rfl 0 rfl dX9_tell_65 ?_
            refine go_bipush kz_bipush_m6 dX9_tell_66 ?_
            obtain ⟨r_39, h_40, h⟩ := q_b h
            refine h_callVi (st := []) [.int (-6)] (m_X9_no h_40) me_X9_no (g_recv cl7.1 rfl) tw_1008 tw_1010 tw_23 (hdd_of (by decide)) ⟨Nat.zero_le _, Nat.zero_le _⟩ rfl rfl (Nat.le_of_ble_eq_true rfl) dX9_tell_68 ?_
            exact h_iret h dX9_tell_71 rfl
        · replace h := q_t h hc
          refine go_iload_n rfl 3 rfl dX9_tell_45 ?_
          refine go_iconst kz_iconst_1 dX9_tell_46 ?_
          refine go_iconst kz_iconst_4 dX9_tell_47 ?_
          obtain ⟨r_41, h_42, h⟩ := q_b h
          refine h_callSi (st := []) [.int x3, .int 1, .int 4] (m_X9_within h_42) me_X9_within tw_1005 tw_1006 (hdd_of (by decide)) ⟨Nat.zero_le _, Nat.zero_le _⟩ rfl rfl (Nat.le_of_ble_eq_true rfl) dX9_tell_48 ?_
          refine go_if_eq (tgt := 65) dX9_tell_51 rfl (fun hc => ?_) (fun hc => ?_)
          · replace h := q_t h hc
            refine go_aload_n rfl 0 rfl dX9_tell_65 ?_
            refine go_bipush kz_bipush_m6 dX9_tell_66 ?_
            obtain ⟨r_43, h_44, h⟩ := q_b h
            refine h_callVi (st := []) [.int (-6)] (m_X9_no h_44) me_X9_no (g_recv cl7.1 rfl) tw_1008 tw_1010 tw_23 (hdd_of (by decide)) ⟨Nat.zero_le _, Nat.zero_le _⟩ rfl rfl (Nat.le_of_ble_eq_true rfl) dX9_tell_68 ?_
            exact h_iret h dX9_tell_71 rfl
          · replace h := q_f h hc
            refine go_goto (tgt := 72) dX9_tell_54 rfl ?_
            refine go_iload_n rfl 2 rfl dX9_tell_72 ?_
            refine go_if_ne (tgt := 85) dX9_tell_73 rfl (fun hc => ?_) (fun hc => ?_)
            · replace h := q_f h hc
              refine go_iload_n rfl 2 rfl dX9_tell_85 ?_
              refine go_iconst kz_iconst_1 dX9_tell_86 ?_
              refine go_icmp_ne (tgt := 99) dX9_tell_87 rfl (fun hc => ?_) (fun hc => ?_)
              · replace h := q_f h hc
                refine go_aload_n rfl 0 rfl dX9_tell_99 ?_
                refine h_getr 5 cl7 rfl (by decide) tw_917 58 rfl dX9_tell_100 ?_
                refine go_iload_n rfl 1 rfl dX9_tell_103 ?_
                obtain ⟨hg_45, h⟩ := q_g h
                refine h_iald 7 rfl hg_45 dX9_tell_104 ?_
                refine go_istore (l' := [(4, .int (r_41.2.1 58 x1.toNatClampNeg)), (0, .ref (ad 53)), (1, .int x1), (2, .int x2), (3, .int x3)]) dX9_tell_105 (by decide) rfl ?_
                refine go_iload_n rfl 3 rfl dX9_tell_107 ?_
                refine go_if_ne (tgt := 121) dX9_tell_108 rfl (fun hc => ?_) (fun hc => ?_)
                · replace h := q_f h hc
                  refine go_iload_n rfl 3 rfl dX9_tell_121 ?_
                  refine go_iconst kz_iconst_1 dX9_tell_122 ?_
                  refine go_icmp_ne (tgt := 136) dX9_tell_123 rfl (fun hc => ?_) (fun hc => ?_)
                  · replace h := q_f h hc
                    refine go_aload_n rfl 1 rfl dX9_tell_136 ?_
                    refine h_getr 5 cl7 rfl (by decide) tw_917 58 rfl dX9_tell_137 ?_
                    refine go_iload_n rfl 2 rfl dX9_tell_140 ?_
                    refine go_iload_n rfl 4 rfl dX9_tell_141 ?_
                    obtain ⟨hg_46, h⟩ := q_g h
                    obtain ⟨ν_47, e_48, h⟩ := q_l h
                    refine h_iast 7 rfl hg_46 e_48 dX9_tell_142 ?_
                    refine go_iload 0 rfl dX9_tell_143 ?_
                    exact h_iret h dX9_tell_145 rfl
                  · replace h := q_t h hc
                    refine go_aload_n rfl 1 rfl dX9_tell_126 ?_
                    refine h_getr 4 cl7 rfl (by decide) tw_916 57 rfl dX9_tell_127 ?_
                    refine go_iload_n rfl 2 rfl dX9_tell_130 ?_
                    refine go_iload_n rfl 4 rfl dX9_tell_131 ?_
                    obtain ⟨hg_49, h⟩ := q_g h
                    obtain ⟨ν_50, e_51, h⟩ := q_l h
                    refine h_iast 7 rfl hg_49 e_51 dX9_tell_132 ?_
                    refine go_goto (tgt := 143) dX9_tell_133 rfl ?_
                    refine go_iload 0 rfl dX9_tell_143 ?_
                    exact h_iret h dX9_tell_145 rfl
                · replace h := q_t h hc
                  refine go_aload_n rfl 1 rfl dX9_tell_111 ?_
                  refine h_getr 3 cl7 rfl (by decide) tw_915 56 rfl dX9_tell_112 ?_
                  refine go_iload_n rfl 2 rfl dX9_tell_115 ?_
                  refine go_iload_n rfl 4 rfl dX9_tell_116 ?_
                  obtain ⟨hg_52, h⟩ := q_g h
                  obtain ⟨ν_53, e_54, h⟩ := q_l h
                  refine h_iast 7 rfl hg_52 e_54 dX9_tell_117 ?_
                  refine go_goto (tgt := 143) dX9_tell_118 rfl ?_
                  refine go_iload 0 rfl dX9_tell_143 ?_
                  exact h_iret h dX9_tell_145 rfl
              · replace h := q_t h hc
                refine go_aload_n rfl 0 rfl dX9_tell_90 ?_
                refine h_getr 4 cl7 rfl (by decide) tw_916 57 rfl dX9_tell_91 ?_
                refine go_iload_n rfl 1 rfl dX9_tell_94 ?_
                obtain ⟨hg_55, h⟩ := q_g h
                refine h_iald 7 rfl hg_55 dX9_tell_95 ?_
                refine go_goto (tgt := 105) dX9_tell_96 rfl ?_
                refine go_istore (l' := [(4, .int (r_41.2.1 57 x1.toNatClampNeg)), (0, .ref (ad 53)), (1, .int x1), (2, .int x2), (3, .int x3)]) dX9_tell_105 (by decide) rfl ?_
                refine go_iload_n rfl 3 rfl dX9_tell_107 ?_
                refine go_if_ne (tgt := 121) dX9_tell_108 rfl (fun hc => ?_) (fun hc => ?_)
                · replace h := q_f h hc
                  refine go_iload_n rfl 3 rfl dX9_tell_121 ?_
                  refine go_iconst kz_iconst_1 dX9_tell_122 ?_
                  refine go_icmp_ne (tgt := 136) dX9_tell_123 rfl (fun hc => ?_) (fun hc => ?_)
                  · replace h := q_f h hc
                    refine go_aload_n rfl 1 rfl dX9_tell_136 ?_
                    refine h_getr 5 cl7 rfl (by decide) tw_917 58 rfl dX9_tell_137 ?_
                    refine go_iload_n rfl 2 rfl dX9_tell_140 ?_
                    refine go_iload_n rfl 4 rfl dX9_tell_141 ?_
                    obtain ⟨hg_56, h⟩ := q_g h
                    obtain ⟨ν_57, e_58, h⟩ := q_l h
                    refine h_iast 7 rfl hg_56 e_58 dX9_tell_142 ?_
                    refine go_iload 0 rfl dX9_tell_143 ?_
                    exact h_iret h dX9_tell_145 rfl
                  · replace h := q_t h hc
                    refine go_aload_n rfl 1 rfl dX9_tell_126 ?_
                    refine h_getr 4 cl7 rfl (by decide) tw_916 57 rfl dX9_tell_127 ?_
                    refine go_iload_n rfl 2 rfl dX9_tell_130 ?_
                    refine go_iload_n rfl 4 rfl dX9_tell_131 ?_
                    obtain ⟨hg_59, h⟩ := q_g h
                    obtain ⟨ν_60, e_61, h⟩ := q_l h
                    refine h_iast 7 rfl hg_59 e_61 dX9_tell_132 ?_
                    refine go_goto (tgt := 143) dX9_tell_133 rfl ?_
                    refine go_iload 0 rfl dX9_tell_143 ?_
                    exact h_iret h dX9_tell_145 rfl
                · replace h := q_t h hc
                  refine go_aload_n rfl 1 rfl dX9_tell_111 ?_
                  refine h_getr 3 cl7 rfl (by decide) tw_915 56 rfl dX9_tell_112 ?_
                  refine go_iload_n rfl 2 rfl dX9_tell_115 ?_
                  refine go_iload_n rfl 4 rfl dX9_tell_116 ?_
                  obtain ⟨hg_62, h⟩ := q_g h
                  obtain ⟨ν_63, e_64, h⟩ := q_l h
                  refine h_iast 7 rfl hg_62 e_64 dX9_tell_117 ?_
                  refine go_goto (tgt := 143) dX9_tell_118 rfl ?_
                  refine go_iload 0 rfl dX9_tell_143 ?_
                  exact h_iret h dX9_tell_145 rfl
            · replace h := q_t h hc
              refine go_aload_n rfl 0 rfl dX9_tell_76 ?_
              refine h_getr 3 cl7 rfl (by decide) tw_915 56 rfl dX9_tell_77 ?_
              refine go_iload_n rfl 1 rfl dX9_tell_80 ?_
              obtain ⟨hg_65, h⟩ := q_g h
              refine h_iald 7 rfl hg_65 dX9_tell_81 ?_
              refine go_goto (tgt := 105) dX9_tell_82 rfl ?_
              refine go_istore (l' := [(4, .int (r_41.2.1 56 x1.toNatClampNeg)), (0, .ref (ad 53)), (1, .int x1), (2, .int x2), (3, .int x3)]) dX9_tell_105 (by decide) rfl ?_
              refine go_iload_n rfl 3 rfl dX9_tell_107 ?_
              refine go_if_ne (tgt := 121) dX9_tell_108 rfl (fun hc => ?_) (fun hc => ?_)
              · replace h := q_f h hc
                refine go_iload_n rfl 3 rfl dX9_tell_121 ?_
                refine go_iconst kz_iconst_1 dX9_tell_122 ?_
                refine go_icmp_ne (tgt := 136) dX9_tell_123 rfl (fun hc => ?_) (fun hc => ?_)
                · replace h := q_f h hc
                  refine go_aload_n rfl 1 rfl dX9_tell_136 ?_
                  refine h_getr 5 cl7 rfl (by decide) tw_917 58 rfl dX9_tell_137 ?_
                  refine go_iload_n rfl 2 rfl dX9_tell_140 ?_
                  refine go_iload_n rfl 4 rfl dX9_tell_141 ?_
                  obtain ⟨hg_66, h⟩ := q_g h
                  obtain ⟨ν_67, e_68, h⟩ := q_l h
                  refine h_iast 7 rfl hg_66 e_68 dX9_tell_142 ?_
                  refine go_iload 0 rfl dX9_tell_143 ?_
                  exact h_iret h dX9_tell_145 rfl
                · replace h := q_t h hc
                  refine go_aload_n rfl 1 rfl dX9_tell_126 ?_
                  refine h_getr 4 cl7 rfl (by decide) tw_916 57 rfl dX9_tell_127 ?_
                  refine go_iload_n rfl 2 rfl dX9_tell_130 ?_
                  refine go_iload_n rfl 4 rfl dX9_tell_131 ?_
                  obtain ⟨hg_69, h⟩ := q_g h
                  obtain ⟨ν_70, e_71, h⟩ := q_l h
                  refine h_iast 7 rfl hg_69 e_71 dX9_tell_132 ?_
                  refine go_goto (tgt := 143) dX9_tell_133 rfl ?_
                  refine go_iload 0 rfl dX9_tell_143 ?_
                  exact h_iret h dX9_tell_145 rfl
              · replace h := q_t h hc
                refine go_aload_n rfl 1 rfl dX9_tell_111 ?_
                refine h_getr 3 cl7 rfl (by decide) tw_915 56 rfl dX9_tell_112 ?_
                refine go_iload_n rfl 2 rfl dX9_tell_115 ?_
                refine go_iload_n rfl 4 rfl dX9_tell_116 ?_
                obtain ⟨hg_72, h⟩ := q_g h
                obtain ⟨ν_73, e_74, h⟩ := q_l h
                refine h_iast 7 rfl hg_72 e_74 dX9_tell_117 ?_
                refine go_goto (tgt := 143) dX9_tell_118 rfl ?_
                refine go_iload 0 rfl dX9_tell_143 ?_
                exact h_iret h dX9_tell_145 rfl
      · replace h := q_t h hc
        refine go_iload_n rfl 3 rfl dX9_tell_27 ?_
        refine go_iconst kz_iconst_0 dX9_tell_28 ?_
        refine go_bipush kz_bipush_20 dX9_tell_29 ?_
        obtain ⟨r_75, h_76, h⟩ := q_b h
        refine h_callSi (st := []) [.int x3, .int 0, .int 20] (m_X9_within h_76) me_X9_within tw_1005 tw_1006 (hdd_of (by decide)) ⟨Nat.zero_le _, Nat.zero_le _⟩ rfl rfl (Nat.le_of_ble_eq_true rfl) dX9_tell_31 ?_
        refine go_if_eq (tgt := 65) dX9_tell_34 rfl (fun hc => ?_) (fun hc => ?_)
        · replace h := q_t h hc
          refine go_aload_n rfl 0 rfl dX9_tell_65 ?_
          refine go_bipush kz_bipush_m6 dX9_tell_66 ?_
          obtain ⟨r_77, h_78, h⟩ := q_b h
          refine h_callVi (st := []) [.int (-6)] (m_X9_no h_78) me_X9_no (g_recv cl7.1 rfl) tw_1008 tw_1010 tw_23 (hdd_of (by decide)) ⟨Nat.zero_le _, Nat.zero_le _⟩ rfl rfl (Nat.le_of_ble_eq_true rfl) dX9_tell_68 ?_
          exact h_iret h dX9_tell_71 rfl
        · replace h := q_f h hc
          refine go_goto (tgt := 72) dX9_tell_37 rfl ?_
          refine go_iload_n rfl 2 rfl dX9_tell_72 ?_
          refine go_if_ne (tgt := 85) dX9_tell_73 rfl (fun hc => ?_) (fun hc => ?_)
          · replace h := q_f h hc
            refine go_iload_n rfl 2 rfl dX9_tell_85 ?_
            refine go_iconst kz_iconst_1 dX9_tell_86 ?_
            refine go_icmp_ne (tgt := 99) dX9_tell_87 rfl (fun hc => ?_) (fun hc => ?_)
            · replace h := q_f h hc
              refine go_aload_n rfl 0 rfl dX9_tell_99 ?_
              refine h_getr 5 cl7 rfl (by decide) tw_917 58 rfl dX9_tell_100 ?_
              refine go_iload_n rfl 1 rfl dX9_tell_103 ?_
              obtain ⟨hg_79, h⟩ := q_g h
              refine h_iald 7 rfl hg_79 dX9_tell_104 ?_
              refine go_istore (l' := [(4, .int (r_75.2.1 58 x1.toNatClampNeg)), (0, .ref (ad 53)), (1, .int x1), (2, .int x2), (3, .int x3)]) dX9_tell_105 (by decide) rfl ?_
              refine go_iload_n rfl 3 rfl dX9_tell_107 ?_
              refine go_if_ne (tgt := 121) dX9_tell_108 rfl (fun hc => ?_) (fun hc => ?_)
              · replace h := q_f h hc
                refine go_iload_n rfl 3 rfl dX9_tell_121 ?_
                refine go_iconst kz_iconst_1 dX9_tell_122 ?_
                refine go_icmp_ne (tgt := 136) dX9_tell_123 rfl (fun hc => ?_) (fun hc => ?_)
                · replace h := q_f h hc
                  refine go_aload_n rfl 1 rfl dX9_tell_136 ?_
                  refine h_getr 5 cl7 rfl (by decide) tw_917 58 rfl dX9_tell_137 ?_
                  refine go_iload_n rfl 2 rfl dX9_tell_140 ?_
                  refine go_iload_n rfl 4 rfl dX9_tell_141 ?_
                  obtain ⟨hg_80, h⟩ := q_g h
                  obtain ⟨ν_81, e_82, h⟩ := q_l h
                  refine h_iast 7 rfl hg_80 e_82 dX9_tell_142 ?_
                  refine go_iload 0 rfl dX9_tell_143 ?_
                  exact h_iret h dX9_tell_145 rfl
                · replace h := q_t h hc
                  refine go_aload_n rfl 1 rfl dX9_tell_126 ?_
                  refine h_getr 4 cl7 rfl (by decide) tw_916 57 rfl dX9_tell_127 ?_
                  refine go_iload_n rfl 2 rfl dX9_tell_130 ?_
                  refine go_iload_n rfl 4 rfl dX9_tell_131 ?_
                  obtain ⟨hg_83, h⟩ := q_g h
                  obtain ⟨ν_84, e_85, h⟩ := q_l h
                  refine h_iast 7 rfl hg_83 e_85 dX9_tell_132 ?_
                  refine go_goto (tgt := 143) dX9_tell_133 rfl ?_
                  refine go_iload 0 rfl dX9_tell_143 ?_
                  exact h_iret h dX9_tell_145 rfl
              · replace h := q_t h hc
                refine go_aload_n rfl 1 rfl dX9_tell_111 ?_
                refine h_getr 3 cl7 rfl (by decide) tw_915 56 rfl dX9_tell_112 ?_
                refine go_iload_n rfl 2 rfl dX9_tell_115 ?_
                refine go_iload_n rfl 4 rfl dX9_tell_116 ?_
                obtain ⟨hg_86, h⟩ := q_g h
                obtain ⟨ν_87, e_88, h⟩ := q_l h
                refine h_iast 7 rfl hg_86 e_88 dX9_tell_117 ?_
                refine go_goto (tgt := 143) dX9_tell_118 rfl ?_
                refine go_iload 0 rfl dX9_tell_143 ?_
                exact h_iret h dX9_tell_145 rfl
            · replace h := q_t h hc
              refine go_aload_n rfl 0 rfl dX9_tell_90 ?_
              refine h_getr 4 cl7 rfl (by decide) tw_916 57 rfl dX9_tell_91 ?_
              refine go_iload_n rfl 1 rfl dX9_tell_94 ?_
              obtain ⟨hg_89, h⟩ := q_g h
              refine h_iald 7 rfl hg_89 dX9_tell_95 ?_
              refine go_goto (tgt := 105) dX9_tell_96 rfl ?_
              refine go_istore (l' := [(4, .int (r_75.2.1 57 x1.toNatClampNeg)), (0, .ref (ad 53)), (1, .int x1), (2, .int x2), (3, .int x3)]) dX9_tell_105 (by decide) rfl ?_
              refine go_iload_n rfl 3 rfl dX9_tell_107 ?_
              refine go_if_ne (tgt := 121) dX9_tell_108 rfl (fun hc => ?_) (fun hc => ?_)
              · replace h := q_f h hc
                refine go_iload_n rfl 3 rfl dX9_tell_121 ?_
                refine go_iconst kz_iconst_1 dX9_tell_122 ?_
                refine go_icmp_ne (tgt := 136) dX9_tell_123 rfl (fun hc => ?_) (fun hc => ?_)
                · replace h := q_f h hc
                  refine go_aload_n rfl 1 rfl dX9_tell_136 ?_
                  refine h_getr 5 cl7 rfl (by decide) tw_917 58 rfl dX9_tell_137 ?_
                  refine go_iload_n rfl 2 rfl dX9_tell_140 ?_
                  refine go_iload_n rfl 4 rfl dX9_tell_141 ?_
                  obtain ⟨hg_90, h⟩ := q_g h
                  obtain ⟨ν_91, e_92, h⟩ := q_l h
                  refine h_iast 7 rfl hg_90 e_92 dX9_tell_142 ?_
                  refine go_iload 0 rfl dX9_tell_143 ?_
                  exact h_iret h dX9_tell_145 rfl
                · replace h := q_t h hc
                  refine go_aload_n rfl 1 rfl dX9_tell_126 ?_
                  refine h_getr 4 cl7 rfl (by decide) tw_916 57 rfl dX9_tell_127 ?_
                  refine go_iload_n rfl 2 rfl dX9_tell_130 ?_
                  refine go_iload_n rfl 4 rfl dX9_tell_131 ?_
                  obtain ⟨hg_93, h⟩ := q_g h
                  obtain ⟨ν_94, e_95, h⟩ := q_l h
                  refine h_iast 7 rfl hg_93 e_95 dX9_tell_132 ?_
                  refine go_goto (tgt := 143) dX9_tell_133 rfl ?_
                  refine go_iload 0 rfl dX9_tell_143 ?_
                  exact h_iret h dX9_tell_145 rfl
              · replace h := q_t h hc
                refine go_aload_n rfl 1 rfl dX9_tell_111 ?_
                refine h_getr 3 cl7 rfl (by decide) tw_915 56 rfl dX9_tell_112 ?_
                refine go_iload_n rfl 2 rfl dX9_tell_115 ?_
                refine go_iload_n rfl 4 rfl dX9_tell_116 ?_
                obtain ⟨hg_96, h⟩ := q_g h
                obtain ⟨ν_97, e_98, h⟩ := q_l h
                refine h_iast 7 rfl hg_96 e_98 dX9_tell_117 ?_
                refine go_goto (tgt := 143) dX9_tell_118 rfl ?_
                refine go_iload 0 rfl dX9_tell_143 ?_
                exact h_iret h dX9_tell_145 rfl
          · replace h := q_t h hc
            refine go_aload_n rfl 0 rfl dX9_tell_76 ?_
            refine h_getr 3 cl7 rfl (by decide) tw_915 56 rfl dX9_tell_77 ?_
            refine go_iload_n rfl 1 rfl dX9_tell_80 ?_
            obtain ⟨hg_99, h⟩ := q_g h
            refine h_iald 7 rfl hg_99 dX9_tell_81 ?_
            refine go_goto (tgt := 105) dX9_tell_82 rfl ?_
            refine go_istore (l' := [(4, .int (r_75.2.1 56 x1.toNatClampNeg)), (0, .ref (ad 53)), (1, .int x1), (2, .int x2), (3, .int x3)]) dX9_tell_105 (by decide) rfl ?_
            refine go_iload_n rfl 3 rfl dX9_tell_107 ?_
            refine go_if_ne (tgt := 121) dX9_tell_108 rfl (fun hc => ?_) (fun hc => ?_)
            · replace h := q_f h hc
              refine go_iload_n rfl 3 rfl dX9_tell_121 ?_
              refine go_iconst kz_iconst_1 dX9_tell_122 ?_
              refine go_icmp_ne (tgt := 136) dX9_tell_123 rfl (fun hc => ?_) (fun hc => ?_)
              · replace h := q_f h hc
                refine go_aload_n rfl 1 rfl dX9_tell_136 ?_
                refine h_getr 5 cl7 rfl (by decide) tw_917 58 rfl dX9_tell_137 ?_
                refine go_iload_n rfl 2 rfl dX9_tell_140 ?_
                refine go_iload_n rfl 4 rfl dX9_tell_141 ?_
                obtain ⟨hg_100, h⟩ := q_g h
                obtain ⟨ν_101, e_102, h⟩ := q_l h
                refine h_iast 7 rfl hg_100 e_102 dX9_tell_142 ?_
                refine go_iload 0 rfl dX9_tell_143 ?_
                exact h_iret h dX9_tell_145 rfl
              · replace h := q_t h hc
                refine go_aload_n rfl 1 rfl dX9_tell_126 ?_
                refine h_getr 4 cl7 rfl (by decide) tw_916 57 rfl dX9_tell_127 ?_
                refine go_iload_n rfl 2 rfl dX9_tell_130 ?_
                refine go_iload_n rfl 4 rfl dX9_tell_131 ?_
                obtain ⟨hg_103, h⟩ := q_g h
                obtain ⟨ν_104, e_105, h⟩ := q_l h
                refine h_iast 7 rfl hg_103 e_105 dX9_tell_132 ?_
                refine go_goto (tgt := 143) dX9_tell_133 rfl ?_
                refine go_iload 0 rfl dX9_tell_143 ?_
                exact h_iret h dX9_tell_145 rfl
            · replace h := q_t h hc
              refine go_aload_n rfl 1 rfl dX9_tell_111 ?_
              refine h_getr 3 cl7 rfl (by decide) tw_915 56 rfl dX9_tell_112 ?_
              refine go_iload_n rfl 2 rfl dX9_tell_115 ?_
              refine go_iload_n rfl 4 rfl dX9_tell_116 ?_
              obtain ⟨hg_106, h⟩ := q_g h
              obtain ⟨ν_107, e_108, h⟩ := q_l h
              refine h_iast 7 rfl hg_106 e_108 dX9_tell_117 ?_
              refine go_goto (tgt := 143) dX9_tell_118 rfl ?_
              refine go_iload 0 rfl dX9_tell_143 ?_
              exact h_iret h dX9_tell_145 rfl
  · replace h := q_t h hc
    refine go_aload_n rfl 0 rfl dX9_tell_8 ?_
    refine go_iconst kz_iconst_m1 dX9_tell_9 ?_
    obtain ⟨r_109, h_110, h⟩ := q_b h
    refine h_callVi (st := []) [.int (-1)] (m_X9_no h_110) me_X9_no (g_recv cl7.1 rfl) tw_1008 tw_1010 tw_23 (hdd_of (by decide)) ⟨Nat.zero_le _, Nat.zero_le _⟩ rfl rfl (Nat.le_of_ble_eq_true rfl) dX9_tell_10 ?_
    exact h_iret h dX9_tell_13 rfl
noncomputable def f_X9_tells_L38 (y1 : Int32) (y2 : Int32) (k77 : Int32 → Int32 → gN → Option (Int32 × gN)) : Nat → Int32 → Int32 → Int32 → gN → Option (Int32 × gN)
  | 0, _, _, _, _ => none
  | n + 1, y3, y4, y5, ν =>
    if 30 < y5 then
      k77 y3 y4 ν
    else
      (f_X9_ledTo y1 y5 ν).bind (fun r_5 =>
        if y4 < r_5.1 then
          f_X9_tells_L38 y1 y2 k77 n y5 r_5.1 (y5 + 1) r_5.2
        else
          f_X9_tells_L38 y1 y2 k77 n y3 y4 (y5 + 1) r_5.2)
noncomputable def f_X9_tells (x1 : Int32) (x2 : Int32) (ν : gN) : Option (Int32 × gN) :=
  (f_X9_isOne x1 ν).bind (fun r_1 =>
    if r_1.1 = 0 then
      (f_X9_no (-1) r_1.2).bind (fun r_12 =>
        some (r_12.1, r_12.2))
    else
      (f_X9_within x2 0 1 r_1.2).bind (fun r_3 =>
        if r_3.1 = 0 then
          (f_X9_no (-5) r_3.2).bind (fun r_10 =>
            some (r_10.1, r_10.2))
        else
          f_X9_tells_L38 x1 x2 (fun z3_7 z4_8 ν_9 =>
            if x2 = 0 then
              some (z3_7, ν_9)
            else
              some (z4_8, ν_9)) FU 0 0 1 r_3.2))
theorem me_X9_tells : g_me yX9_tells cX9_tells 7 ((Option.some .int)) 2 := ⟨tw_1270, tw_79, ⟨by decide +kernel, by decide +kernel, by decide +kernel⟩, by decide⟩
set_option maxRecDepth 20000 in
set_option maxHeartbeats 2000000 in
theorem m_X9_tells_L38 {X : gX} {ad : Nat → Nat} {y1 : Int32} {y2 : Int32} {k77 : Int32 → Int32 → gN → Option (Int32 × gN)}  : ∀ (n : Nat) (y3 : Int32) (y4 : Int32) (y5 : Int32) (ν : gN) (r : Int32 × gN), f_X9_tells_L38 y1 y2 k77 n y3 y4 y5 ν = some r → (∀ (z3 : Int32) (z4 : Int32) (ν1 : gN), k77 z3 z4 ν1 = some r → h_go X ad RX9 "tells" cX9_tells 7 ((Option.some .int)) 11 (some (.int r.1), r.2) 77 [(2, .int y2), (3, .int z3), (4, .int z4)] [] ν1) → h_go X ad RX9 "tells" cX9_tells 7 ((Option.some .int)) 11 (some (.int r.1), r.2) 38 [(0, .ref (ad 53)), (1, .int y1), (2, .int y2), (3, .int y3), (4, .int y4), (5, .int y5)] [] ν := by
  intro n
  induction n with
  | zero => intro y3 y4 y5 ν r h hk77; rw [f_X9_tells_L38] at h; exact q_n h
  | succ n ih =>
    intro y3 y4 y5 ν r h hk77
    rw [f_X9_tells_L38] at h
    refine go_iload 5 rfl dX9_tells_38 ?_
    refine go_bipush kz_bipush_30 dX9_tells_40 ?_
    refine go_icmp_gt (tgt := 77) dX9_tells_42 rfl (fun hc => ?_) (fun hc => ?_)
    · replace h := q_t h hc
      refine go_sub (l' := [(2, .int y2), (3, .int y3), (4, .int y4)]) [2, 3, 4] rfl ?_
      exact hk77 _ _ _ h
    · replace h := q_f h hc
      refine go_aload_n rfl 0 rfl dX9_tells_45 ?_
      refine go_iload_n rfl 1 rfl dX9_tells_46 ?_
      refine go_iload 5 rfl dX9_tells_47 ?_
      obtain ⟨r_5, h_6, h⟩ := q_b h
      refine h_callVi (st := []) [.int y1, .int y5] (m_X9_ledTo h_6) me_X9_ledTo (g_recv cl7.1 rfl) tw_1271 tw_1273 tw_59 (hdd_of (by decide)) ⟨Nat.zero_le _, Nat.zero_le _⟩ rfl rfl (Nat.le_of_ble_eq_true rfl) dX9_tells_49 ?_
      refine go_istore (l' := [(6, .int r_5.1), (0, .ref (ad 53)), (1, .int y1), (2, .int y2), (3, .int y3), (4, .int y4), (5, .int y5)]) dX9_tells_52 (by decide) rfl ?_
      refine go_iload 0 rfl dX9_tells_54 ?_
      refine go_iload 5 rfl dX9_tells_56 ?_
      refine go_icmp_gt (tgt := 64) dX9_tells_58 rfl (fun hc => ?_) (fun hc => ?_)
      · replace h := q_t h hc
        refine go_iload 0 rfl dX9_tells_64 ?_
        refine go_istore (l' := [(4, .int r_5.1), (6, .int r_5.1), (0, .ref (ad 53)), (1, .int y1), (2, .int y2), (3, .int y3), (5, .int y5)]) dX9_tells_66 (by decide) rfl ?_
        refine go_iload 6 rfl dX9_tells_68 ?_
        refine go_istore_n (l' := [(3, .int y5), (4, .int r_5.1), (6, .int r_5.1), (0, .ref (ad 53)), (1, .int y1), (2, .int y2), (5, .int y5)]) dX9_tells_70 rfl (by decide) rfl ?_
        refine h_iinc (l' := [(5, .int (y5 + 1)), (3, .int y5), (4, .int r_5.1), (6, .int r_5.1), (0, .ref (ad 53)), (1, .int y1), (2, .int y2)]) dX9_tells_71 6 rfl kz_iconst_1 (by decide) rfl ?_
        refine go_goto (tgt := 38) dX9_tells_74 rfl ?_
        refine go_sub (l' := [(0, .ref (ad 53)), (1, .int y1), (2, .int y2), (3, .int y5), (4, .int r_5.1), (5, .int (y5 + 1))]) [4, 5, 6, 1, 2, 0] rfl ?_
        exact ih _ _ _ _ _ h hk77
      · replace h := q_f h hc
        refine go_goto (tgt := 71) dX9_tells_61 rfl ?_
        refine h_iinc (l' := [(5, .int (y5 + 1)), (6, .int r_5.1), (0, .ref (ad 53)), (1, .int y1), (2, .int y2), (3, .int y3), (4, .int y4)]) dX9_tells_71 6 rfl kz_iconst_1 (by decide) rfl ?_
        refine go_goto (tgt := 38) dX9_tells_74 rfl ?_
        refine go_sub (l' := [(0, .ref (ad 53)), (1, .int y1), (2, .int y2), (3, .int y3), (4, .int y4), (5, .int (y5 + 1))]) [2, 3, 4, 5, 6, 0] rfl ?_
        exact ih _ _ _ _ _ h hk77
set_option maxRecDepth 20000 in
set_option maxHeartbeats 2000000 in
theorem m_X9_tells {X : gX} {ad : Nat → Nat} {x1 : Int32} {x2 : Int32} {ν : gN} {r : Int32 × gN}  (h : f_X9_tells x1 x2 ν = some r) : h_ct X ad yX9_tells cX9_tells 7 ((Option.some .int)) 11 [.ref (ad 53), .int x1, .int x2] ν (some (.int r.1), r.2) := by
  rw [f_X9_tells] at h
  refine h_ct_of (l := [(0, .ref (ad 53)), (1, .int x1), (2, .int x2)]) (by decide) (Nat.le_of_ble_eq_true rfl) rfl ?_
  refine go_aload_n rfl 0 rfl dX9_tells_0 ?_
  refine go_iload_n rfl 1 rfl dX9_tells_1 ?_
  obtain ⟨r_1, h_2, h⟩ := q_b h
  refine h_callVi (st := []) [.int x1] (m_X9_isOne h_2) me_X9_isOne (g_recv cl7.1 rfl) tw_1036 tw_1038 tw_26 (hdd_of (by decide)) ⟨Nat.zero_le _, Nat.zero_le _⟩ rfl rfl (Nat.le_of_ble_eq_true rfl) dX9_tells_2 ?_
  refine go_if_ne (tgt := 14) dX9_tells_5 rfl (fun hc => ?_) (fun hc => ?_)
  · replace h := q_f h hc
    refine go_iload_n rfl 2 rfl dX9_tells_14 ?_
    refine go_iconst kz_iconst_0 dX9_tells_15 ?_
    refine go_iconst kz_iconst_1 dX9_tells_16 ?_
    obtain ⟨r_3, h_4, h⟩ := q_b h
    refine h_callSi (st := []) [.int x2, .int 0, .int 1] (m_X9_within h_4) me_X9_within tw_1005 tw_1006 (hdd_of (by decide)) ⟨Nat.zero_le _, Nat.zero_le _⟩ rfl rfl (Nat.le_of_ble_eq_true rfl) dX9_tells_17 ?_
    refine go_if_ne (tgt := 30) dX9_tells_20 rfl (fun hc => ?_) (fun hc => ?_)
    · replace h := q_f h hc
      refine go_iconst kz_iconst_0 dX9_tells_30 ?_
      refine go_istore_n (l' := [(3, .int 0), (0, .ref (ad 53)), (1, .int x1), (2, .int x2)]) dX9_tells_31 rfl (by decide) rfl ?_
      refine go_iconst kz_iconst_0 dX9_tells_32 ?_
      refine go_istore (l' := [(4, .int 0), (3, .int 0), (0, .ref (ad 53)), (1, .int x1), (2, .int x2)]) dX9_tells_33 (by decide) rfl ?_
      refine go_iconst kz_iconst_1 dX9_tells_35 ?_
      refine go_istore (l' := [(5, .int 1), (4, .int 0), (3, .int 0), (0, .ref (ad 53)), (1, .int x1), (2, .int x2)]) dX9_tells_36 (by decide) rfl ?_
      refine go_sub (l' := [(0, .ref (ad 53)), (1, .int x1), (2, .int x2), (3, .int 0), (4, .int 0), (5, .int 1)]) [3, 4, 5, 2, 1, 0] rfl ?_
      refine m_X9_tells_L38  FU _ _ _ _ _ h (fun z3_7 z4_8 ν_9 h => ?_)
      refine go_iload_n rfl 0 rfl dX9_tells_77 ?_
      refine go_if_ne (tgt := 85) dX9_tells_78 rfl (fun hc => ?_) (fun hc => ?_)
      · replace h := q_f h hc
        refine go_iload 2 rfl dX9_tells_85 ?_
        exact h_iret h dX9_tells_87 rfl
      · replace h := q_t h hc
        refine go_iload_n rfl 1 rfl dX9_tells_81 ?_
        refine go_goto (tgt := 87) dX9_tells_82 rfl ?_
        exact h_iret h dX9_tells_87 rfl
    · replace h := q_t h hc
      refine go_aload_n rfl 0 rfl dX9_tells_23 ?_
      refine go_bipush kz_bipush_m5 dX9_tells_24 ?_
      obtain ⟨r_10, h_11, h⟩ := q_b h
      refine h_callVi (st := []) [.int (-5)] (m_X9_no h_11) me_X9_no (g_recv cl7.1 rfl) tw_1008 tw_1010 tw_23 (hdd_of (by decide)) ⟨Nat.zero_le _, Nat.zero_le _⟩ rfl rfl (Nat.le_of_ble_eq_true rfl) dX9_tells_26 ?_
      exact h_iret h dX9_tells_29 rfl
  · replace h := q_t h hc
    refine go_aload_n rfl 0 rfl dX9_tells_8 ?_
    refine go_iconst kz_iconst_m1 dX9_tells_9 ?_
    obtain ⟨r_12, h_13, h⟩ := q_b h
    refine h_callVi (st := []) [.int (-1)] (m_X9_no h_13) me_X9_no (g_recv cl7.1 rfl) tw_1008 tw_1010 tw_23 (hdd_of (by decide)) ⟨Nat.zero_le _, Nat.zero_le _⟩ rfl rfl (Nat.le_of_ble_eq_true rfl) dX9_tells_10 ?_
    exact h_iret h dX9_tells_13 rfl
noncomputable def f_X9_to (x1 : Int32) (x2 : Int32) (ν : gN) : Option (Int32 × gN) :=
  (f_X9_isOne x1 ν).bind (fun r_1 =>
    if r_1.1 = 0 then
      (f_X9_no10 (-1) r_1.2).bind (fun r_12 =>
        some (r_12.1, r_12.2))
    else
      (f_X9_isOpen x2 r_1.2).bind (fun r_3 =>
        if r_3.1 = 0 then
          (f_X9_no10 (-6) r_3.2).bind (fun r_10 =>
            some (r_10.1, r_10.2))
        else
          if inb x1 7 = true then
            (f_X9_spreads (r_3.2.1 58 x1.toNatClampNeg) 71 r_3.2).bind (fun r_6 =>
              if inb x2 49 = true then
                if (r_6.1 71 x2.toNatClampNeg) = 99 then
                  some ((-1), r_6)
                else
                  if inb x2 49 = true then
                    some (r_6.1 71 x2.toNatClampNeg, r_6)
                  else none
              else none)
          else none))
theorem me_X9_to : g_me yX9_to cX9_to 3 ((Option.some .int)) 2 := ⟨tw_1242, tw_79, ⟨by decide +kernel, by decide +kernel, by decide +kernel⟩, by decide⟩
set_option maxRecDepth 20000 in
set_option maxHeartbeats 2000000 in
theorem m_X9_to {X : gX} {ad : Nat → Nat} {x1 : Int32} {x2 : Int32} {ν : gN} {r : Int32 × gN}  (h : f_X9_to x1 x2 ν = some r) : h_ct X ad yX9_to cX9_to 3 ((Option.some .int)) 6 [.ref (ad 53), .int x1, .int x2] ν (some (.int r.1), r.2) := by
  rw [f_X9_to] at h
  refine h_ct_of (l := [(0, .ref (ad 53)), (1, .int x1), (2, .int x2)]) (by decide) (Nat.le_of_ble_eq_true rfl) rfl ?_
  refine go_aload_n rfl 0 rfl dX9_to_0 ?_
  refine go_iload_n rfl 1 rfl dX9_to_1 ?_
  obtain ⟨r_1, h_2, h⟩ := q_b h
  refine h_callVi (st := []) [.int x1] (m_X9_isOne h_2) me_X9_isOne (g_recv cl7.1 rfl) tw_1036 tw_1038 tw_26 (hdd_of (by decide)) ⟨Nat.zero_le _, Nat.zero_le _⟩ rfl rfl (Nat.le_of_ble_eq_true rfl) dX9_to_2 ?_
  refine go_if_ne (tgt := 14) dX9_to_5 rfl (fun hc => ?_) (fun hc => ?_)
  · replace h := q_f h hc
    refine go_aload_n rfl 0 rfl dX9_to_14 ?_
    refine go_iload_n rfl 2 rfl dX9_to_15 ?_
    obtain ⟨r_3, h_4, h⟩ := q_b h
    refine h_callVi (st := []) [.int x2] (m_X9_isOpen h_4) me_X9_isOpen (g_recv cl7.1 rfl) tw_1062 tw_1064 tw_28 (hdd_of (by decide)) ⟨Nat.zero_le _, Nat.zero_le _⟩ rfl rfl (Nat.le_of_ble_eq_true rfl) dX9_to_16 ?_
    refine go_if_ne (tgt := 29) dX9_to_19 rfl (fun hc => ?_) (fun hc => ?_)
    · replace h := q_f h hc
      refine go_aload_n rfl 0 rfl dX9_to_29 ?_
      refine go_aload_n rfl 0 rfl dX9_to_30 ?_
      refine h_getr 5 cl7 rfl (by decide) tw_917 58 rfl dX9_to_31 ?_
      refine go_iload_n rfl 1 rfl dX9_to_34 ?_
      obtain ⟨hg_5, h⟩ := q_g h
      refine h_iald 7 rfl hg_5 dX9_to_35 ?_
      refine go_aload_n rfl 0 rfl dX9_to_36 ?_
      refine h_getr 26 cl7 rfl (by decide) tw_938 71 rfl dX9_to_37 ?_
      obtain ⟨r_6, h_7, h⟩ := q_b h
      refine h_callVv (st := []) [.int (r_3.2.1 58 x1.toNatClampNeg), .ref (ad 71)] (m_X9_spreads rfl h_7) me_X9_spreads (g_recv cl7.1 rfl) tw_1172 tw_1174 tw_45 (hdd_of (by decide)) ⟨Nat.zero_le _, Nat.zero_le _⟩ rfl rfl (Nat.le_of_ble_eq_true rfl) dX9_to_40 ?_
      refine go_aload_n rfl 0 rfl dX9_to_43 ?_
      refine h_getr 26 cl7 rfl (by decide) tw_938 71 rfl dX9_to_44 ?_
      refine go_iload_n rfl 2 rfl dX9_to_47 ?_
      obtain ⟨hg_8, h⟩ := q_g h
      refine h_iald 49 rfl hg_8 dX9_to_48 ?_
      refine go_bipush kz_bipush_99 dX9_to_49 ?_
      refine go_icmp_ne (tgt := 58) dX9_to_51 rfl (fun hc => ?_) (fun hc => ?_)
      · replace h := q_f h hc
        refine go_aload_n rfl 0 rfl dX9_to_58 ?_
        refine h_getr 26 cl7 rfl (by decide) tw_938 71 rfl dX9_to_59 ?_
        refine go_iload_n rfl 2 rfl dX9_to_62 ?_
        obtain ⟨hg_9, h⟩ := q_g h
        refine h_iald 49 rfl hg_9 dX9_to_63 ?_
        exact h_iret h dX9_to_64 rfl
      · replace h := q_t h hc
        refine go_iconst kz_iconst_m1 dX9_to_54 ?_
        refine go_goto (tgt := 64) dX9_to_55 rfl ?_
        exact h_iret h dX9_to_64 rfl
    · replace h := q_t h hc
      refine go_aload_n rfl 0 rfl dX9_to_22 ?_
      refine go_bipush kz_bipush_m6 dX9_to_23 ?_
      obtain ⟨r_10, h_11, h⟩ := q_b h
      refine h_callVi (st := []) [.int (-6)] (m_X9_no10 h_11) me_X9_no10 (g_recv cl7.1 rfl) tw_1235 tw_1237 tw_56 (hdd_of (by decide)) ⟨Nat.zero_le _, Nat.zero_le _⟩ rfl rfl (Nat.le_of_ble_eq_true rfl) dX9_to_25 ?_
      exact h_iret h dX9_to_28 rfl
  · replace h := q_t h hc
    refine go_aload_n rfl 0 rfl dX9_to_8 ?_
    refine go_iconst kz_iconst_m1 dX9_to_9 ?_
    obtain ⟨r_12, h_13, h⟩ := q_b h
    refine h_callVi (st := []) [.int (-1)] (m_X9_no10 h_13) me_X9_no10 (g_recv cl7.1 rfl) tw_1235 tw_1237 tw_56 (hdd_of (by decide)) ⟨Nat.zero_le _, Nat.zero_le _⟩ rfl rfl (Nat.le_of_ble_eq_true rfl) dX9_to_10 ?_
    exact h_iret h dX9_to_13 rfl
noncomputable def f_X9_trace (x1 : Int32) (ν : gN) : Option (Int32 × gN) :=
  if x1 < 0 then
    some ((-1), ν)
  else
    if (ν.1 53 18) ≤ x1 then
      some ((-1), ν)
    else
      if 20 ≤ x1 then
        some ((-1), ν)
      else
        if inb x1 20 = true then
          some (ν.1 67 x1.toNatClampNeg, ν)
        else none
theorem me_X9_trace : g_me yX9_trace cX9_trace 2 ((Option.some .int)) 1 := ⟨tw_1368, tw_79, ⟨by decide +kernel, by decide +kernel, by decide +kernel⟩, by decide⟩
set_option maxRecDepth 20000 in
set_option maxHeartbeats 2000000 in
theorem m_X9_trace {X : gX} {ad : Nat → Nat} {x1 : Int32} {ν : gN} {r : Int32 × gN}  (h : f_X9_trace x1 ν = some r) : h_ct X ad yX9_trace cX9_trace 2 ((Option.some .int)) 1 [.ref (ad 53), .int x1] ν (some (.int r.1), r.2) := by
  rw [f_X9_trace] at h
  refine h_ct_of (l := [(0, .ref (ad 53)), (1, .int x1)]) (by decide) (Nat.le_of_ble_eq_true rfl) rfl ?_
  refine go_iload_n rfl 1 rfl dX9_trace_0 ?_
  refine go_if_lt (tgt := 27) dX9_trace_1 rfl (fun hc => ?_) (fun hc => ?_)
  · replace h := q_t h hc
    refine go_iconst kz_iconst_m1 dX9_trace_27 ?_
    exact h_iret h dX9_trace_28 rfl
  · replace h := q_f h hc
    refine go_iload_n rfl 1 rfl dX9_trace_4 ?_
    refine go_aload_n rfl 0 rfl dX9_trace_5 ?_
    refine h_geti 18 cl7 rfl (by decide) tw_930 rfl dX9_trace_6 ?_
    refine go_icmp_ge (tgt := 27) dX9_trace_9 rfl (fun hc => ?_) (fun hc => ?_)
    · replace h := q_t h hc
      refine go_iconst kz_iconst_m1 dX9_trace_27 ?_
      exact h_iret h dX9_trace_28 rfl
    · replace h := q_f h hc
      refine go_iload_n rfl 1 rfl dX9_trace_12 ?_
      refine go_bipush kz_bipush_20 dX9_trace_13 ?_
      refine go_icmp_ge (tgt := 27) dX9_trace_15 rfl (fun hc => ?_) (fun hc => ?_)
      · replace h := q_t h hc
        refine go_iconst kz_iconst_m1 dX9_trace_27 ?_
        exact h_iret h dX9_trace_28 rfl
      · replace h := q_f h hc
        refine go_aload_n rfl 0 rfl dX9_trace_18 ?_
        refine h_getr 19 cl7 rfl (by decide) tw_931 67 rfl dX9_trace_19 ?_
        refine go_iload_n rfl 1 rfl dX9_trace_22 ?_
        obtain ⟨hg_1, h⟩ := q_g h
        refine h_iald 20 rfl hg_1 dX9_trace_23 ?_
        refine go_goto (tgt := 28) dX9_trace_24 rfl ?_
        exact h_iret h dX9_trace_28 rfl
noncomputable def f_X9_votes_L7 (y1 : Int32) (k50 : gN → Option (Int32 × gN)) : Nat → Int32 → gN → Option (Int32 × gN)
  | 0, _, _ => none
  | n + 1, y2, ν =>
    if (ν.1 53 0) ≤ y2 then
      k50  ν
    else
      if ((j_shr y1 y2) &&& 1) = 0 then
        f_X9_votes_L7 y1 k50 n (y2 + 1) ν
      else
        if inb y2 7 = true then
          if inb y2 7 = true then
            qL (nWI ν 59 y2.toNatClampNeg ((ν.1 59 y2.toNatClampNeg) + 1)) (fun ν_5 =>
              if inb y2 7 = true then
                qL (nWI ν_5 58 y2.toNatClampNeg 24) (fun ν_8 =>
                  f_X9_votes_L7 y1 k50 n (y2 + 1) ν_8)
              else none)
          else none
        else none
noncomputable def f_X9_votes  (ν : gN) : Option (Int32 × gN) :=
  (f_X9_chosenNow  ν).bind (fun r_1 =>
    f_X9_votes_L7 r_1.1 (fun ν_10 =>
      if inb 3 4 = true then
        if inb 3 4 = true then
          qL (nWI ν_10 61 (3 : Int32).toNatClampNeg ((ν_10.1 61 (3 : Int32).toNatClampNeg) + 1)) (fun ν_13 =>
            some (r_1.1, ν_13))
        else none
      else none) FU 0 r_1.2)
theorem me_X9_votes : g_me yX9_votes cX9_votes 3 ((Option.some .int)) 0 := ⟨tw_1331, tw_79, ⟨by decide +kernel, by decide +kernel, by decide +kernel⟩, by decide⟩
set_option maxRecDepth 20000 in
set_option maxHeartbeats 2000000 in
theorem m_X9_votes_L7 {X : gX} {ad : Nat → Nat} {y1 : Int32} {k50 : gN → Option (Int32 × gN)}  : ∀ (n : Nat) (y2 : Int32) (ν : gN) (r : Int32 × gN), f_X9_votes_L7 y1 k50 n y2 ν = some r → (∀ (ν1 : gN), k50 ν1 = some r → h_go X ad RX9 "votes" cX9_votes 3 ((Option.some .int)) 9 (some (.int r.1), r.2) 50 [(0, .ref (ad 53)), (1, .int y1)] [] ν1) → h_go X ad RX9 "votes" cX9_votes 3 ((Option.some .int)) 9 (some (.int r.1), r.2) 7 [(0, .ref (ad 53)), (1, .int y1), (2, .int y2)] [] ν := by
  intro n
  induction n with
  | zero => intro y2 ν r h hk50; rw [f_X9_votes_L7] at h; exact q_n h
  | succ n ih =>
    intro y2 ν r h hk50
    rw [f_X9_votes_L7] at h
    refine go_iload_n rfl 2 rfl dX9_votes_7 ?_
    refine go_aload_n rfl 0 rfl dX9_votes_8 ?_
    refine h_geti 0 cl7 rfl (by decide) tw_912 rfl dX9_votes_9 ?_
    refine go_icmp_ge (tgt := 50) dX9_votes_12 rfl (fun hc => ?_) (fun hc => ?_)
    · replace h := q_t h hc
      refine go_sub (l' := [(0, .ref (ad 53)), (1, .int y1)]) [0, 1] rfl ?_
      exact hk50  _ h
    · replace h := q_f h hc
      refine go_iload_n rfl 1 rfl dX9_votes_15 ?_
      refine go_iload_n rfl 2 rfl dX9_votes_16 ?_
      refine h_ishr dX9_votes_17 ?_
      refine go_iconst kz_iconst_1 dX9_votes_18 ?_
      refine go_iand dX9_votes_19 ?_
      refine go_if_ne (tgt := 26) dX9_votes_20 rfl (fun hc => ?_) (fun hc => ?_)
      · replace h := q_f h hc
        refine go_aload_n rfl 0 rfl dX9_votes_26 ?_
        refine h_getr 6 cl7 rfl (by decide) tw_918 59 rfl dX9_votes_27 ?_
        refine go_iload_n rfl 2 rfl dX9_votes_30 ?_
        refine go_dup2 rfl rfl dX9_votes_31 ?_
        obtain ⟨hg_3, h⟩ := q_g h
        refine h_iald 7 rfl hg_3 dX9_votes_32 ?_
        refine go_iconst kz_iconst_1 dX9_votes_33 ?_
        refine go_iadd dX9_votes_34 ?_
        obtain ⟨hg_4, h⟩ := q_g h
        obtain ⟨ν_5, e_6, h⟩ := q_l h
        refine h_iast 7 rfl hg_4 e_6 dX9_votes_35 ?_
        refine go_aload_n rfl 0 rfl dX9_votes_36 ?_
        refine h_getr 5 cl7 rfl (by decide) tw_917 58 rfl dX9_votes_37 ?_
        refine go_iload_n rfl 2 rfl dX9_votes_40 ?_
        refine go_bipush kz_bipush_24 dX9_votes_41 ?_
        obtain ⟨hg_7, h⟩ := q_g h
        obtain ⟨ν_8, e_9, h⟩ := q_l h
        refine h_iast 7 rfl hg_7 e_9 dX9_votes_43 ?_
        refine h_iinc (l' := [(2, .int (y2 + 1)), (0, .ref (ad 53)), (1, .int y1)]) dX9_votes_44 2 rfl kz_iconst_1 (by decide) rfl ?_
        refine go_goto (tgt := 7) dX9_votes_47 rfl ?_
        refine go_sub (l' := [(0, .ref (ad 53)), (1, .int y1), (2, .int (y2 + 1))]) [1, 2, 0] rfl ?_
        exact ih _ _ _ h hk50
      · replace h := q_t h hc
        refine go_goto (tgt := 44) dX9_votes_23 rfl ?_
        refine h_iinc (l' := [(2, .int (y2 + 1)), (0, .ref (ad 53)), (1, .int y1)]) dX9_votes_44 2 rfl kz_iconst_1 (by decide) rfl ?_
        refine go_goto (tgt := 7) dX9_votes_47 rfl ?_
        refine go_sub (l' := [(0, .ref (ad 53)), (1, .int y1), (2, .int (y2 + 1))]) [1, 2, 0] rfl ?_
        exact ih _ _ _ h hk50
set_option maxRecDepth 20000 in
set_option maxHeartbeats 2000000 in
theorem m_X9_votes {X : gX} {ad : Nat → Nat}  {ν : gN} {r : Int32 × gN}  (h : f_X9_votes  ν = some r) : h_ct X ad yX9_votes cX9_votes 3 ((Option.some .int)) 9 [.ref (ad 53)] ν (some (.int r.1), r.2) := by
  rw [f_X9_votes] at h
  refine h_ct_of (l := [(0, .ref (ad 53))]) (by decide) (Nat.le_of_ble_eq_true rfl) rfl ?_
  refine go_aload_n rfl 0 rfl dX9_votes_0 ?_
  obtain ⟨r_1, h_2, h⟩ := q_b h
  refine h_callVi (st := []) [] (m_X9_chosenNow h_2) me_X9_chosenNow (g_recv cl7.1 rfl) tw_1184 tw_1186 tw_47 (hdd_of (by decide)) ⟨Nat.zero_le _, Nat.zero_le _⟩ rfl rfl (Nat.le_of_ble_eq_true rfl) dX9_votes_1 ?_
  refine go_istore_n (l' := [(1, .int r_1.1), (0, .ref (ad 53))]) dX9_votes_4 rfl (by decide) rfl ?_
  refine go_iconst kz_iconst_0 dX9_votes_5 ?_
  refine go_istore_n (l' := [(2, .int 0), (1, .int r_1.1), (0, .ref (ad 53))]) dX9_votes_6 rfl (by decide) rfl ?_
  refine go_sub (l' := [(0, .ref (ad 53)), (1, .int r_1.1), (2, .int 0)]) [2, 1, 0] rfl ?_
  refine m_X9_votes_L7  FU _ _ _ h (fun ν_10 h => ?_)
  refine go_aload_n rfl 0 rfl dX9_votes_50 ?_
  refine h_getr 8 cl7 rfl (by decide) tw_920 61 rfl dX9_votes_51 ?_
  refine go_iconst kz_iconst_3 dX9_votes_54 ?_
  refine go_dup2 rfl rfl dX9_votes_55 ?_
  obtain ⟨hg_11, h⟩ := q_g h
  refine h_iald 4 rfl hg_11 dX9_votes_56 ?_
  refine go_iconst kz_iconst_1 dX9_votes_57 ?_
  refine go_iadd dX9_votes_58 ?_
  obtain ⟨hg_12, h⟩ := q_g h
  obtain ⟨ν_13, e_14, h⟩ := q_l h
  refine h_iast 4 rfl hg_12 e_14 dX9_votes_59 ?_
  refine go_iload_n rfl 1 rfl dX9_votes_60 ?_
  exact h_iret h dX9_votes_61 rfl
noncomputable def f_X9_vote  (ν : gN) : Option (Int32 × gN) :=
  (f_X9_votes  ν).bind (fun r_1 =>
    some (r_1.1, r_1.2))
theorem me_X9_vote : g_me yX9_vote cX9_vote 1 ((Option.some .int)) 0 := ⟨tw_1327, tw_79, ⟨by decide +kernel, by decide +kernel, by decide +kernel⟩, by decide⟩
set_option maxRecDepth 20000 in
set_option maxHeartbeats 2000000 in
theorem m_X9_vote {X : gX} {ad : Nat → Nat}  {ν : gN} {r : Int32 × gN}  (h : f_X9_vote  ν = some r) : h_ct X ad yX9_vote cX9_vote 1 ((Option.some .int)) 10 [.ref (ad 53)] ν (some (.int r.1), r.2) := by
  rw [f_X9_vote] at h
  refine h_ct_of (l := [(0, .ref (ad 53))]) (by decide) (Nat.le_of_ble_eq_true rfl) rfl ?_
  refine go_aload_n rfl 0 rfl dX9_vote_0 ?_
  obtain ⟨r_1, h_2, h⟩ := q_b h
  refine h_callVi (st := []) [] (m_X9_votes h_2) me_X9_votes (g_recv cl7.1 rfl) tw_1328 tw_1330 tw_65 (hdd_of (by decide)) ⟨Nat.zero_le _, Nat.zero_le _⟩ rfl rfl (Nat.le_of_ble_eq_true rfl) dX9_vote_1 ?_
  exact h_iret h dX9_vote_4 rfl
noncomputable def f_X9_wanting_L58 (y1 : Int32) (y2 : Int32) (y3 : Int32) (y4 : Int32) (k112 : Int32 → gN → Option (Int32 × gN)) : Nat → Int32 → Int32 → gN → Option (Int32 × gN)
  | 0, _, _, _ => none
  | n + 1, y5, y6, ν =>
    if 20 < y6 then
      k112 y5 ν
    else
      if y3 = 0 then
        if inb y1 7 = true then
          qL (nWI ν 56 y1.toNatClampNeg (20 - y6)) (fun ν_14 =>
            (f_X9_chosenBehind y2 ν_14).bind (fun r_16 =>
              if ((j_shr r_16.1 y1) &&& 1) = 1 then
                f_X9_wanting_L58 y1 y2 y3 y4 k112 n (20 - y6) (y6 + 1) r_16.2
              else
                f_X9_wanting_L58 y1 y2 y3 y4 k112 n y5 (y6 + 1) r_16.2))
        else none
      else
        if inb y1 7 = true then
          qL (nWI ν 56 y1.toNatClampNeg y6) (fun ν_9 =>
            (f_X9_chosenBehind y2 ν_9).bind (fun r_11 =>
              if ((j_shr r_11.1 y1) &&& 1) = 1 then
                f_X9_wanting_L58 y1 y2 y3 y4 k112 n y6 (y6 + 1) r_11.2
              else
                f_X9_wanting_L58 y1 y2 y3 y4 k112 n y5 (y6 + 1) r_11.2))
        else none
noncomputable def f_X9_wanting (x1 : Int32) (x2 : Int32) (x3 : Int32) (ν : gN) : Option (Int32 × gN) :=
  (f_X9_isOne x1 ν).bind (fun r_1 =>
    if r_1.1 = 0 then
      (f_X9_no10 (-1) r_1.2).bind (fun r_27 =>
        some (r_27.1, r_27.2))
    else
      (f_X9_within x3 0 1 r_1.2).bind (fun r_3 =>
        if r_3.1 = 0 then
          (f_X9_no10 (-5) r_3.2).bind (fun r_25 =>
            some (r_25.1, r_25.2))
        else
          (f_X9_isTime x2 r_3.2).bind (fun r_5 =>
            if r_5.1 = 0 then
              (f_X9_no10 (-6) r_5.2).bind (fun r_23 =>
                some (r_23.1, r_23.2))
            else
              if inb x1 7 = true then
                f_X9_wanting_L58 x1 x2 x3 (r_5.2.1 56 x1.toNatClampNeg) (fun z5_18 ν_19 =>
                  if inb x1 7 = true then
                    qL (nWI ν_19 56 x1.toNatClampNeg (r_5.2.1 56 x1.toNatClampNeg)) (fun ν_21 =>
                      some (z5_18, ν_21))
                  else none) FU (-1) 0 r_5.2
              else none)))
theorem me_X9_wanting : g_me yX9_wanting cX9_wanting 8 ((Option.some .int)) 3 := ⟨tw_1250, tw_79, ⟨by decide +kernel, by decide +kernel, by decide +kernel⟩, by decide⟩
set_option maxRecDepth 20000 in
set_option maxHeartbeats 2000000 in
theorem m_X9_wanting_L58 {X : gX} {ad : Nat → Nat} {y1 : Int32} {y2 : Int32} {y3 : Int32} {y4 : Int32} {k112 : Int32 → gN → Option (Int32 × gN)}  : ∀ (n : Nat) (y5 : Int32) (y6 : Int32) (ν : gN) (r : Int32 × gN), f_X9_wanting_L58 y1 y2 y3 y4 k112 n y5 y6 ν = some r → (∀ (z5 : Int32) (ν1 : gN), k112 z5 ν1 = some r → h_go X ad RX9 "wanting" cX9_wanting 8 ((Option.some .int)) 11 (some (.int r.1), r.2) 112 [(0, .ref (ad 53)), (1, .int y1), (4, .int y4), (5, .int z5)] [] ν1) → h_go X ad RX9 "wanting" cX9_wanting 8 ((Option.some .int)) 11 (some (.int r.1), r.2) 58 [(0, .ref (ad 53)), (1, .int y1), (2, .int y2), (3, .int y3), (4, .int y4), (5, .int y5), (6, .int y6)] [] ν := by
  intro n
  induction n with
  | zero => intro y5 y6 ν r h hk112; rw [f_X9_wanting_L58] at h; exact q_n h
  | succ n ih =>
    intro y5 y6 ν r h hk112
    rw [f_X9_wanting_L58] at h
    refine go_iload 6 rfl dX9_wanting_58 ?_
    refine go_bipush kz_bipush_20 dX9_wanting_60 ?_
    refine go_icmp_gt (tgt := 112) dX9_wanting_62 rfl (fun hc => ?_) (fun hc => ?_)
    · replace h := q_t h hc
      refine go_sub (l' := [(0, .ref (ad 53)), (1, .int y1), (4, .int y4), (5, .int y5)]) [0, 1, 4, 5] rfl ?_
      exact hk112 _ _ h
    · replace h := q_f h hc
      refine go_iload_n rfl 3 rfl dX9_wanting_65 ?_
      refine go_if_ne (tgt := 77) dX9_wanting_66 rfl (fun hc => ?_) (fun hc => ?_)
      · replace h := q_f h hc
        refine go_iload 6 rfl dX9_wanting_77 ?_
        refine go_istore (l' := [(7, .int y6), (0, .ref (ad 53)), (1, .int y1), (2, .int y2), (3, .int y3), (4, .int y4), (5, .int y5), (6, .int y6)]) dX9_wanting_79 (by decide) rfl ?_
        refine go_aload_n rfl 1 rfl dX9_wanting_81 ?_
        refine h_getr 3 cl7 rfl (by decide) tw_915 56 rfl dX9_wanting_82 ?_
        refine go_iload_n rfl 2 rfl dX9_wanting_85 ?_
        refine go_iload 0 rfl dX9_wanting_86 ?_
        obtain ⟨hg_8, h⟩ := q_g h
        obtain ⟨ν_9, e_10, h⟩ := q_l h
        refine h_iast 7 rfl hg_8 e_10 dX9_wanting_88 ?_
        refine go_aload_n rfl 1 rfl dX9_wanting_89 ?_
        refine go_iload_n rfl 3 rfl dX9_wanting_90 ?_
        obtain ⟨r_11, h_12, h⟩ := q_b h
        refine h_callVi (st := []) [.int y2] (m_X9_chosenBehind h_12) me_X9_chosenBehind (g_recv cl7.1 rfl) tw_1227 tw_1229 tw_55 (hdd_of (by decide)) ⟨Nat.zero_le _, Nat.zero_le _⟩ rfl rfl (Nat.le_of_ble_eq_true rfl) dX9_wanting_91 ?_
        refine go_iload_n rfl 2 rfl dX9_wanting_94 ?_
        refine h_ishr dX9_wanting_95 ?_
        refine go_iconst kz_iconst_1 dX9_wanting_96 ?_
        refine go_iand dX9_wanting_97 ?_
        refine go_iconst kz_iconst_1 dX9_wanting_98 ?_
        refine go_icmp_ne (tgt := 106) dX9_wanting_99 rfl (fun hc => ?_) (fun hc => ?_)
        · replace h := q_f h hc
          refine h_iinc (l' := [(6, .int (y6 + 1)), (7, .int y6), (0, .ref (ad 53)), (1, .int y1), (2, .int y2), (3, .int y3), (4, .int y4), (5, .int y5)]) dX9_wanting_106 7 rfl kz_iconst_1 (by decide) rfl ?_
          refine go_goto (tgt := 58) dX9_wanting_109 rfl ?_
          refine go_sub (l' := [(0, .ref (ad 53)), (1, .int y1), (2, .int y2), (3, .int y3), (4, .int y4), (5, .int y5), (6, .int (y6 + 1))]) [2, 3, 4, 5, 6, 7, 0] rfl ?_
          exact ih _ _ _ _ h hk112
        · replace h := q_t h hc
          refine go_iload 0 rfl dX9_wanting_102 ?_
          refine go_istore (l' := [(5, .int y6), (7, .int y6), (0, .ref (ad 53)), (1, .int y1), (2, .int y2), (3, .int y3), (4, .int y4), (6, .int y6)]) dX9_wanting_104 (by decide) rfl ?_
          refine h_iinc (l' := [(6, .int (y6 + 1)), (5, .int y6), (7, .int y6), (0, .ref (ad 53)), (1, .int y1), (2, .int y2), (3, .int y3), (4, .int y4)]) dX9_wanting_106 7 rfl kz_iconst_1 (by decide) rfl ?_
          refine go_goto (tgt := 58) dX9_wanting_109 rfl ?_
          refine go_sub (l' := [(0, .ref (ad 53)), (1, .int y1), (2, .int y2), (3, .int y3), (4, .int y4), (5, .int y6), (6, .int (y6 + 1))]) [3, 4, 5, 6, 7, 1, 0] rfl ?_
          exact ih _ _ _ _ h hk112
      · replace h := q_t h hc
        refine go_bipush kz_bipush_20 dX9_wanting_69 ?_
        refine go_iload 6 rfl dX9_wanting_71 ?_
        refine go_isub dX9_wanting_73 ?_
        refine go_goto (tgt := 79) dX9_wanting_74 rfl ?_
        refine go_istore (l' := [(7, .int (20 - y6)), (0, .ref (ad 53)), (1, .int y1), (2, .int y2), (3, .int y3), (4, .int y4), (5, .int y5), (6, .int y6)]) dX9_wanting_79 (by decide) rfl ?_
        refine go_aload_n rfl 1 rfl dX9_wanting_81 ?_
        refine h_getr 3 cl7 rfl (by decide) tw_915 56 rfl dX9_wanting_82 ?_
        refine go_iload_n rfl 2 rfl dX9_wanting_85 ?_
        refine go_iload 0 rfl dX9_wanting_86 ?_
        obtain ⟨hg_13, h⟩ := q_g h
        obtain ⟨ν_14, e_15, h⟩ := q_l h
        refine h_iast 7 rfl hg_13 e_15 dX9_wanting_88 ?_
        refine go_aload_n rfl 1 rfl dX9_wanting_89 ?_
        refine go_iload_n rfl 3 rfl dX9_wanting_90 ?_
        obtain ⟨r_16, h_17, h⟩ := q_b h
        refine h_callVi (st := []) [.int y2] (m_X9_chosenBehind h_17) me_X9_chosenBehind (g_recv cl7.1 rfl) tw_1227 tw_1229 tw_55 (hdd_of (by decide)) ⟨Nat.zero_le _, Nat.zero_le _⟩ rfl rfl (Nat.le_of_ble_eq_true rfl) dX9_wanting_91 ?_
        refine go_iload_n rfl 2 rfl dX9_wanting_94 ?_
        refine h_ishr dX9_wanting_95 ?_
        refine go_iconst kz_iconst_1 dX9_wanting_96 ?_
        refine go_iand dX9_wanting_97 ?_
        refine go_iconst kz_iconst_1 dX9_wanting_98 ?_
        refine go_icmp_ne (tgt := 106) dX9_wanting_99 rfl (fun hc => ?_) (fun hc => ?_)
        · replace h := q_f h hc
          refine h_iinc (l' := [(6, .int (y6 + 1)), (7, .int (20 - y6)), (0, .ref (ad 53)), (1, .int y1), (2, .int y2), (3, .int y3), (4, .int y4), (5, .int y5)]) dX9_wanting_106 7 rfl kz_iconst_1 (by decide) rfl ?_
          refine go_goto (tgt := 58) dX9_wanting_109 rfl ?_
          refine go_sub (l' := [(0, .ref (ad 53)), (1, .int y1), (2, .int y2), (3, .int y3), (4, .int y4), (5, .int y5), (6, .int (y6 + 1))]) [2, 3, 4, 5, 6, 7, 0] rfl ?_
          exact ih _ _ _ _ h hk112
        · replace h := q_t h hc
          refine go_iload 0 rfl dX9_wanting_102 ?_
          refine go_istore (l' := [(5, .int (20 - y6)), (7, .int (20 - y6)), (0, .ref (ad 53)), (1, .int y1), (2, .int y2), (3, .int y3), (4, .int y4), (6, .int y6)]) dX9_wanting_104 (by decide) rfl ?_
          refine h_iinc (l' := [(6, .int (y6 + 1)), (5, .int (20 - y6)), (7, .int (20 - y6)), (0, .ref (ad 53)), (1, .int y1), (2, .int y2), (3, .int y3), (4, .int y4)]) dX9_wanting_106 7 rfl kz_iconst_1 (by decide) rfl ?_
          refine go_goto (tgt := 58) dX9_wanting_109 rfl ?_
          refine go_sub (l' := [(0, .ref (ad 53)), (1, .int y1), (2, .int y2), (3, .int y3), (4, .int y4), (5, .int (20 - y6)), (6, .int (y6 + 1))]) [3, 4, 5, 6, 7, 1, 0] rfl ?_
          exact ih _ _ _ _ h hk112
set_option maxRecDepth 20000 in
set_option maxHeartbeats 2000000 in
theorem m_X9_wanting {X : gX} {ad : Nat → Nat} {x1 : Int32} {x2 : Int32} {x3 : Int32} {ν : gN} {r : Int32 × gN}  (h : f_X9_wanting x1 x2 x3 ν = some r) : h_ct X ad yX9_wanting cX9_wanting 8 ((Option.some .int)) 11 [.ref (ad 53), .int x1, .int x2, .int x3] ν (some (.int r.1), r.2) := by
  rw [f_X9_wanting] at h
  refine h_ct_of (l := [(0, .ref (ad 53)), (1, .int x1), (2, .int x2), (3, .int x3)]) (by decide) (Nat.le_of_ble_eq_true rfl) rfl ?_
  refine go_aload_n rfl 0 rfl dX9_wanting_0 ?_
  refine go_iload_n rfl 1 rfl dX9_wanting_1 ?_
  obtain ⟨r_1, h_2, h⟩ := q_b h
  refine h_callVi (st := []) [.int x1] (m_X9_isOne h_2) me_X9_isOne (g_recv cl7.1 rfl) tw_1036 tw_1038 tw_26 (hdd_of (by decide)) ⟨Nat.zero_le _, Nat.zero_le _⟩ rfl rfl (Nat.le_of_ble_eq_true rfl) dX9_wanting_2 ?_
  refine go_if_ne (tgt := 14) dX9_wanting_5 rfl (fun hc => ?_) (fun hc => ?_)
  · replace h := q_f h hc
    refine go_iload_n rfl 3 rfl dX9_wanting_14 ?_
    refine go_iconst kz_iconst_0 dX9_wanting_15 ?_
    refine go_iconst kz_iconst_1 dX9_wanting_16 ?_
    obtain ⟨r_3, h_4, h⟩ := q_b h
    refine h_callSi (st := []) [.int x3, .int 0, .int 1] (m_X9_within h_4) me_X9_within tw_1005 tw_1006 (hdd_of (by decide)) ⟨Nat.zero_le _, Nat.zero_le _⟩ rfl rfl (Nat.le_of_ble_eq_true rfl) dX9_wanting_17 ?_
    refine go_if_ne (tgt := 30) dX9_wanting_20 rfl (fun hc => ?_) (fun hc => ?_)
    · replace h := q_f h hc
      refine go_iload_n rfl 2 rfl dX9_wanting_30 ?_
      obtain ⟨r_5, h_6, h⟩ := q_b h
      refine h_callSi (st := []) [.int x2] (m_X9_isTime h_6) me_X9_isTime tw_1204 tw_1205 (hdd_of (by decide)) ⟨Nat.zero_le _, Nat.zero_le _⟩ rfl rfl (Nat.le_of_ble_eq_true rfl) dX9_wanting_31 ?_
      refine go_if_ne (tgt := 44) dX9_wanting_34 rfl (fun hc => ?_) (fun hc => ?_)
      · replace h := q_f h hc
        refine go_aload_n rfl 0 rfl dX9_wanting_44 ?_
        refine h_getr 3 cl7 rfl (by decide) tw_915 56 rfl dX9_wanting_45 ?_
        refine go_iload_n rfl 1 rfl dX9_wanting_48 ?_
        obtain ⟨hg_7, h⟩ := q_g h
        refine h_iald 7 rfl hg_7 dX9_wanting_49 ?_
        refine go_istore (l' := [(4, .int (r_5.2.1 56 x1.toNatClampNeg)), (0, .ref (ad 53)), (1, .int x1), (2, .int x2), (3, .int x3)]) dX9_wanting_50 (by decide) rfl ?_
        refine go_iconst kz_iconst_m1 dX9_wanting_52 ?_
        refine go_istore (l' := [(5, .int (-1)), (4, .int (r_5.2.1 56 x1.toNatClampNeg)), (0, .ref (ad 53)), (1, .int x1), (2, .int x2), (3, .int x3)]) dX9_wanting_53 (by decide) rfl ?_
        refine go_iconst kz_iconst_0 dX9_wanting_55 ?_
        refine go_istore (l' := [(6, .int 0), (5, .int (-1)), (4, .int (r_5.2.1 56 x1.toNatClampNeg)), (0, .ref (ad 53)), (1, .int x1), (2, .int x2), (3, .int x3)]) dX9_wanting_56 (by decide) rfl ?_
        refine go_sub (l' := [(0, .ref (ad 53)), (1, .int x1), (2, .int x2), (3, .int x3), (4, .int (r_5.2.1 56 x1.toNatClampNeg)), (5, .int (-1)), (6, .int 0)]) [3, 4, 5, 6, 2, 1, 0] rfl ?_
        refine m_X9_wanting_L58  FU _ _ _ _ h (fun z5_18 ν_19 h => ?_)
        refine go_aload_n rfl 0 rfl dX9_wanting_112 ?_
        refine h_getr 3 cl7 rfl (by decide) tw_915 56 rfl dX9_wanting_113 ?_
        refine go_iload_n rfl 1 rfl dX9_wanting_116 ?_
        refine go_iload 2 rfl dX9_wanting_117 ?_
        obtain ⟨hg_20, h⟩ := q_g h
        obtain ⟨ν_21, e_22, h⟩ := q_l h
        refine h_iast 7 rfl hg_20 e_22 dX9_wanting_119 ?_
        refine go_iload 3 rfl dX9_wanting_120 ?_
        exact h_iret h dX9_wanting_122 rfl
      · replace h := q_t h hc
        refine go_aload_n rfl 0 rfl dX9_wanting_37 ?_
        refine go_bipush kz_bipush_m6 dX9_wanting_38 ?_
        obtain ⟨r_23, h_24, h⟩ := q_b h
        refine h_callVi (st := []) [.int (-6)] (m_X9_no10 h_24) me_X9_no10 (g_recv cl7.1 rfl) tw_1235 tw_1237 tw_56 (hdd_of (by decide)) ⟨Nat.zero_le _, Nat.zero_le _⟩ rfl rfl (Nat.le_of_ble_eq_true rfl) dX9_wanting_40 ?_
        exact h_iret h dX9_wanting_43 rfl
    · replace h := q_t h hc
      refine go_aload_n rfl 0 rfl dX9_wanting_23 ?_
      refine go_bipush kz_bipush_m5 dX9_wanting_24 ?_
      obtain ⟨r_25, h_26, h⟩ := q_b h
      refine h_callVi (st := []) [.int (-5)] (m_X9_no10 h_26) me_X9_no10 (g_recv cl7.1 rfl) tw_1235 tw_1237 tw_56 (hdd_of (by decide)) ⟨Nat.zero_le _, Nat.zero_le _⟩ rfl rfl (Nat.le_of_ble_eq_true rfl) dX9_wanting_26 ?_
      exact h_iret h dX9_wanting_29 rfl
  · replace h := q_t h hc
    refine go_aload_n rfl 0 rfl dX9_wanting_8 ?_
    refine go_iconst kz_iconst_m1 dX9_wanting_9 ?_
    obtain ⟨r_27, h_28, h⟩ := q_b h
    refine h_callVi (st := []) [.int (-1)] (m_X9_no10 h_28) me_X9_no10 (g_recv cl7.1 rfl) tw_1235 tw_1237 tw_56 (hdd_of (by decide)) ⟨Nat.zero_le _, Nat.zero_le _⟩ rfl rfl (Nat.le_of_ble_eq_true rfl) dX9_wanting_10 ?_
    exact h_iret h dX9_wanting_13 rfl
noncomputable def f_X9_where (x1 : Int32) (x2 : Int32) (ν : gN) : Option (Int32 × gN) :=
  (f_X9_isOne x1 ν).bind (fun r_1 =>
    if r_1.1 = 0 then
      (f_X9_no (-1) r_1.2).bind (fun r_14 =>
        some (r_14.1, r_14.2))
    else
      (f_X9_isTime x2 r_1.2).bind (fun r_3 =>
        if r_3.1 = 0 then
          (f_X9_no (-6) r_3.2).bind (fun r_12 =>
            some (r_12.1, r_12.2))
        else
          (f_X9_keep 72 r_3.2).bind (fun r_5 =>
            (f_X9_goesOn x2 r_5).bind (fun r_7 =>
              if inb x1 7 = true then
                (f_X9_again 72 r_7).bind (fun r_10 =>
                  some (r_7.1 58 x1.toNatClampNeg, r_10))
              else none))))
theorem me_X9_where : g_me yX9_where cX9_where 4 ((Option.some .int)) 2 := ⟨tw_1203, tw_79, ⟨by decide +kernel, by decide +kernel, by decide +kernel⟩, by decide⟩
set_option maxRecDepth 20000 in
set_option maxHeartbeats 2000000 in
theorem m_X9_where {X : gX} {ad : Nat → Nat} {x1 : Int32} {x2 : Int32} {ν : gN} {r : Int32 × gN}  (h : f_X9_where x1 x2 ν = some r) : h_ct X ad yX9_where cX9_where 4 ((Option.some .int)) 10 [.ref (ad 53), .int x1, .int x2] ν (some (.int r.1), r.2) := by
  rw [f_X9_where] at h
  refine h_ct_of (l := [(0, .ref (ad 53)), (1, .int x1), (2, .int x2)]) (by decide) (Nat.le_of_ble_eq_true rfl) rfl ?_
  refine go_aload_n rfl 0 rfl dX9_where_0 ?_
  refine go_iload_n rfl 1 rfl dX9_where_1 ?_
  obtain ⟨r_1, h_2, h⟩ := q_b h
  refine h_callVi (st := []) [.int x1] (m_X9_isOne h_2) me_X9_isOne (g_recv cl7.1 rfl) tw_1036 tw_1038 tw_26 (hdd_of (by decide)) ⟨Nat.zero_le _, Nat.zero_le _⟩ rfl rfl (Nat.le_of_ble_eq_true rfl) dX9_where_2 ?_
  refine go_if_ne (tgt := 14) dX9_where_5 rfl (fun hc => ?_) (fun hc => ?_)
  · replace h := q_f h hc
    refine go_iload_n rfl 2 rfl dX9_where_14 ?_
    obtain ⟨r_3, h_4, h⟩ := q_b h
    refine h_callSi (st := []) [.int x2] (m_X9_isTime h_4) me_X9_isTime tw_1204 tw_1205 (hdd_of (by decide)) ⟨Nat.zero_le _, Nat.zero_le _⟩ rfl rfl (Nat.le_of_ble_eq_true rfl) dX9_where_15 ?_
    refine go_if_ne (tgt := 28) dX9_where_18 rfl (fun hc => ?_) (fun hc => ?_)
    · replace h := q_f h hc
      refine go_aload_n rfl 0 rfl dX9_where_28 ?_
      refine go_aload_n rfl 0 rfl dX9_where_29 ?_
      refine h_getr 27 cl7 rfl (by decide) tw_939 72 rfl dX9_where_30 ?_
      obtain ⟨r_5, h_6, h⟩ := q_b h
      refine h_callVv (st := []) [.ref (ad 72)] (m_X9_keep rfl h_6) me_X9_keep (g_recv cl7.1 rfl) tw_1117 tw_1119 tw_35 (hdd_of (by decide)) ⟨Nat.zero_le _, Nat.zero_le _⟩ rfl rfl (Nat.le_of_ble_eq_true rfl) dX9_where_33 ?_
      refine go_aload_n rfl 0 rfl dX9_where_36 ?_
      refine go_iload_n rfl 2 rfl dX9_where_37 ?_
      obtain ⟨r_7, h_8, h⟩ := q_b h
      refine h_callVv (st := []) [.int x2] (m_X9_goesOn h_8) me_X9_goesOn (g_recv cl7.1 rfl) tw_1207 tw_1209 tw_51 (hdd_of (by decide)) ⟨Nat.zero_le _, Nat.zero_le _⟩ rfl rfl (Nat.le_of_ble_eq_true rfl) dX9_where_38 ?_
      refine go_aload_n rfl 0 rfl dX9_where_41 ?_
      refine h_getr 5 cl7 rfl (by decide) tw_917 58 rfl dX9_where_42 ?_
      refine go_iload_n rfl 1 rfl dX9_where_45 ?_
      obtain ⟨hg_9, h⟩ := q_g h
      refine h_iald 7 rfl hg_9 dX9_where_46 ?_
      refine go_istore_n (l' := [(3, .int (r_7.1 58 x1.toNatClampNeg)), (0, .ref (ad 53)), (1, .int x1), (2, .int x2)]) dX9_where_47 rfl (by decide) rfl ?_
      refine go_aload_n rfl 1 rfl dX9_where_48 ?_
      refine go_aload_n rfl 1 rfl dX9_where_49 ?_
      refine h_getr 27 cl7 rfl (by decide) tw_939 72 rfl dX9_where_50 ?_
      obtain ⟨r_10, h_11, h⟩ := q_b h
      refine h_callVv (st := []) [.ref (ad 72)] (m_X9_again rfl h_11) me_X9_again (g_recv cl7.1 rfl) tw_1156 tw_1158 tw_43 (hdd_of (by decide)) ⟨Nat.zero_le _, Nat.zero_le _⟩ rfl rfl (Nat.le_of_ble_eq_true rfl) dX9_where_53 ?_
      refine go_iload_n rfl 0 rfl dX9_where_56 ?_
      exact h_iret h dX9_where_57 rfl
    · replace h := q_t h hc
      refine go_aload_n rfl 0 rfl dX9_where_21 ?_
      refine go_bipush kz_bipush_m6 dX9_where_22 ?_
      obtain ⟨r_12, h_13, h⟩ := q_b h
      refine h_callVi (st := []) [.int (-6)] (m_X9_no h_13) me_X9_no (g_recv cl7.1 rfl) tw_1008 tw_1010 tw_23 (hdd_of (by decide)) ⟨Nat.zero_le _, Nat.zero_le _⟩ rfl rfl (Nat.le_of_ble_eq_true rfl) dX9_where_24 ?_
      exact h_iret h dX9_where_27 rfl
  · replace h := q_t h hc
    refine go_aload_n rfl 0 rfl dX9_where_8 ?_
    refine go_iconst kz_iconst_m1 dX9_where_9 ?_
    obtain ⟨r_14, h_15, h⟩ := q_b h
    refine h_callVi (st := []) [.int (-1)] (m_X9_no h_15) me_X9_no (g_recv cl7.1 rfl) tw_1008 tw_1010 tw_23 (hdd_of (by decide)) ⟨Nat.zero_le _, Nat.zero_le _⟩ rfl rfl (Nat.le_of_ble_eq_true rfl) dX9_where_10 ?_
    exact h_iret h dX9_where_13 rfl
noncomputable def f_X9_who (x1 : Int32) (ν : gN) : Option (Int32 × gN) :=
  if x1 = 0 then
    (f_X9_chosenNow  ν).bind (fun r_7 =>
      some (r_7.1, r_7.2))
  else
    if x1 = 1 then
      (f_X9_outNow  ν).bind (fun r_5 =>
        some (r_5.1, r_5.2))
    else
      if x1 = 2 then
        (f_X9_fleeing  ν).bind (fun r_3 =>
          some (r_3.1, r_3.2))
      else
        (f_X9_no (-5) ν).bind (fun r_1 =>
          some (r_1.1, r_1.2))
theorem me_X9_who : g_me yX9_who cX9_who 2 ((Option.some .int)) 1 := ⟨tw_1183, tw_79, ⟨by decide +kernel, by decide +kernel, by decide +kernel⟩, by decide⟩
set_option maxRecDepth 20000 in
set_option maxHeartbeats 2000000 in
theorem m_X9_who {X : gX} {ad : Nat → Nat} {x1 : Int32} {ν : gN} {r : Int32 × gN}  (h : f_X9_who x1 ν = some r) : h_ct X ad yX9_who cX9_who 2 ((Option.some .int)) 9 [.ref (ad 53), .int x1] ν (some (.int r.1), r.2) := by
  rw [f_X9_who] at h
  refine h_ct_of (l := [(0, .ref (ad 53)), (1, .int x1)]) (by decide) (Nat.le_of_ble_eq_true rfl) rfl ?_
  refine go_iload_n rfl 1 rfl dX9_who_0 ?_
  refine go_if_ne (tgt := 11) dX9_who_1 rfl (fun hc => ?_) (fun hc => ?_)
  · replace h := q_f h hc
    refine go_iload_n rfl 1 rfl dX9_who_11 ?_
    refine go_iconst kz_iconst_1 dX9_who_12 ?_
    refine go_icmp_ne (tgt := 23) dX9_who_13 rfl (fun hc => ?_) (fun hc => ?_)
    · replace h := q_f h hc
      refine go_iload_n rfl 1 rfl dX9_who_23 ?_
      refine go_iconst kz_iconst_2 dX9_who_24 ?_
      refine go_icmp_ne (tgt := 35) dX9_who_25 rfl (fun hc => ?_) (fun hc => ?_)
      · replace h := q_f h hc
        refine go_aload_n rfl 0 rfl dX9_who_35 ?_
        refine go_bipush kz_bipush_m5 dX9_who_36 ?_
        obtain ⟨r_1, h_2, h⟩ := q_b h
        refine h_callVi (st := []) [.int (-5)] (m_X9_no h_2) me_X9_no (g_recv cl7.1 rfl) tw_1008 tw_1010 tw_23 (hdd_of (by decide)) ⟨Nat.zero_le _, Nat.zero_le _⟩ rfl rfl (Nat.le_of_ble_eq_true rfl) dX9_who_38 ?_
        exact h_iret h dX9_who_41 rfl
      · replace h := q_t h hc
        refine go_aload_n rfl 0 rfl dX9_who_28 ?_
        obtain ⟨r_3, h_4, h⟩ := q_b h
        refine h_callVi (st := []) [] (m_X9_fleeing h_4) me_X9_fleeing (g_recv cl7.1 rfl) tw_1196 tw_1198 tw_50 (hdd_of (by decide)) ⟨Nat.zero_le _, Nat.zero_le _⟩ rfl rfl (Nat.le_of_ble_eq_true rfl) dX9_who_29 ?_
        refine go_goto (tgt := 41) dX9_who_32 rfl ?_
        exact h_iret h dX9_who_41 rfl
    · replace h := q_t h hc
      refine go_aload_n rfl 0 rfl dX9_who_16 ?_
      obtain ⟨r_5, h_6, h⟩ := q_b h
      refine h_callVi (st := []) [] (m_X9_outNow h_6) me_X9_outNow (g_recv cl7.1 rfl) tw_1192 tw_1194 tw_49 (hdd_of (by decide)) ⟨Nat.zero_le _, Nat.zero_le _⟩ rfl rfl (Nat.le_of_ble_eq_true rfl) dX9_who_17 ?_
      refine go_goto (tgt := 41) dX9_who_20 rfl ?_
      exact h_iret h dX9_who_41 rfl
  · replace h := q_t h hc
    refine go_aload_n rfl 0 rfl dX9_who_4 ?_
    obtain ⟨r_7, h_8, h⟩ := q_b h
    refine h_callVi (st := []) [] (m_X9_chosenNow h_8) me_X9_chosenNow (g_recv cl7.1 rfl) tw_1184 tw_1186 tw_47 (hdd_of (by decide)) ⟨Nat.zero_le _, Nat.zero_le _⟩ rfl rfl (Nat.le_of_ble_eq_true rfl) dX9_who_5 ?_
    refine go_goto (tgt := 41) dX9_who_8 rfl ?_
    exact h_iret h dX9_who_41 rfl
noncomputable def f_X9_without (x1 : Int32) (x2 : Int32) (ν : gN) : Option (Int32 × gN) :=
  (f_X9_isOne x1 ν).bind (fun r_1 =>
    if r_1.1 = 0 then
      (f_X9_no (-1) r_1.2).bind (fun r_13 =>
        some (r_13.1, r_13.2))
    else
      (f_X9_isTime x2 r_1.2).bind (fun r_3 =>
        if r_3.1 = 0 then
          (f_X9_no (-6) r_3.2).bind (fun r_11 =>
            some (r_11.1, r_11.2))
        else
          qL (nWI r_3.2 53 28 x1) (fun ν_5 =>
            (f_X9_chosenBehind x2 ν_5).bind (fun r_7 =>
              qL (nWI r_7.2 53 28 (-1)) (fun ν_9 =>
                some (r_7.1, ν_9))))))
theorem me_X9_without : g_me yX9_without cX9_without 4 ((Option.some .int)) 2 := ⟨tw_1254, tw_79, ⟨by decide +kernel, by decide +kernel, by decide +kernel⟩, by decide⟩
set_option maxRecDepth 20000 in
set_option maxHeartbeats 2000000 in
theorem m_X9_without {X : gX} {ad : Nat → Nat} {x1 : Int32} {x2 : Int32} {ν : gN} {r : Int32 × gN}  (h : f_X9_without x1 x2 ν = some r) : h_ct X ad yX9_without cX9_without 4 ((Option.some .int)) 11 [.ref (ad 53), .int x1, .int x2] ν (some (.int r.1), r.2) := by
  rw [f_X9_without] at h
  refine h_ct_of (l := [(0, .ref (ad 53)), (1, .int x1), (2, .int x2)]) (by decide) (Nat.le_of_ble_eq_true rfl) rfl ?_
  refine go_aload_n rfl 0 rfl dX9_without_0 ?_
  refine go_iload_n rfl 1 rfl dX9_without_1 ?_
  obtain ⟨r_1, h_2, h⟩ := q_b h
  refine h_callVi (st := []) [.int x1] (m_X9_isOne h_2) me_X9_isOne (g_recv cl7.1 rfl) tw_1036 tw_1038 tw_26 (hdd_of (by decide)) ⟨Nat.zero_le _, Nat.zero_le _⟩ rfl rfl (Nat.le_of_ble_eq_true rfl) dX9_without_2 ?_
  refine go_if_ne (tgt := 14) dX9_without_5 rfl (fun hc => ?_) (fun hc => ?_)
  · replace h := q_f h hc
    refine go_iload_n rfl 2 rfl dX9_without_14 ?_
    obtain ⟨r_3, h_4, h⟩ := q_b h
    refine h_callSi (st := []) [.int x2] (m_X9_isTime h_4) me_X9_isTime tw_1204 tw_1205 (hdd_of (by decide)) ⟨Nat.zero_le _, Nat.zero_le _⟩ rfl rfl (Nat.le_of_ble_eq_true rfl) dX9_without_15 ?_
    refine go_if_ne (tgt := 28) dX9_without_18 rfl (fun hc => ?_) (fun hc => ?_)
    · replace h := q_f h hc
      refine go_aload_n rfl 0 rfl dX9_without_28 ?_
      refine go_iload_n rfl 1 rfl dX9_without_29 ?_
      obtain ⟨ν_5, e_6, h⟩ := q_l h
      refine h_puti 28 cl7 rfl (by decide) tw_940 rfl rfl e_6 dX9_without_30 ?_
      refine go_aload_n rfl 0 rfl dX9_without_33 ?_
      refine go_iload_n rfl 2 rfl dX9_without_34 ?_
      obtain ⟨r_7, h_8, h⟩ := q_b h
      refine h_callVi (st := []) [.int x2] (m_X9_chosenBehind h_8) me_X9_chosenBehind (g_recv cl7.1 rfl) tw_1227 tw_1229 tw_55 (hdd_of (by decide)) ⟨Nat.zero_le _, Nat.zero_le _⟩ rfl rfl (Nat.le_of_ble_eq_true rfl) dX9_without_35 ?_
      refine go_istore_n (l' := [(3, .int r_7.1), (0, .ref (ad 53)), (1, .int x1), (2, .int x2)]) dX9_without_38 rfl (by decide) rfl ?_
      refine go_aload_n rfl 1 rfl dX9_without_39 ?_
      refine go_iconst kz_iconst_m1 dX9_without_40 ?_
      obtain ⟨ν_9, e_10, h⟩ := q_l h
      refine h_puti 28 cl7 rfl (by decide) tw_940 rfl rfl e_10 dX9_without_41 ?_
      refine go_iload_n rfl 0 rfl dX9_without_44 ?_
      exact h_iret h dX9_without_45 rfl
    · replace h := q_t h hc
      refine go_aload_n rfl 0 rfl dX9_without_21 ?_
      refine go_bipush kz_bipush_m6 dX9_without_22 ?_
      obtain ⟨r_11, h_12, h⟩ := q_b h
      refine h_callVi (st := []) [.int (-6)] (m_X9_no h_12) me_X9_no (g_recv cl7.1 rfl) tw_1008 tw_1010 tw_23 (hdd_of (by decide)) ⟨Nat.zero_le _, Nat.zero_le _⟩ rfl rfl (Nat.le_of_ble_eq_true rfl) dX9_without_24 ?_
      exact h_iret h dX9_without_27 rfl
  · replace h := q_t h hc
    refine go_aload_n rfl 0 rfl dX9_without_8 ?_
    refine go_iconst kz_iconst_m1 dX9_without_9 ?_
    obtain ⟨r_13, h_14, h⟩ := q_b h
    refine h_callVi (st := []) [.int (-1)] (m_X9_no h_14) me_X9_no (g_recv cl7.1 rfl) tw_1008 tw_1010 tw_23 (hdd_of (by decide)) ⟨Nat.zero_le _, Nat.zero_le _⟩ rfl rfl (Nat.le_of_ble_eq_true rfl) dX9_without_10 ?_
    exact h_iret h dX9_without_13 rfl
noncomputable def f_X9_years_L33 (y1 : Int32) (k81 : gN → Option (Int32 × gN)) : Nat → Int32 → gN → Option (Int32 × gN)
  | 0, _, _ => none
  | n + 1, y2, ν =>
    if y1 ≤ y2 then
      k81  ν
    else
      (f_X9_draw (ν.1 53 0) ν).bind (fun r_3 =>
        (f_X9_draw 21 r_3.2).bind (fun r_5 =>
          if inb r_3.1 7 = true then
            qL (nWI r_5.2 56 r_3.1.toNatClampNeg r_5.1) (fun ν_8 =>
              (f_X9_draw 5 ν_8).bind (fun r_10 =>
                (f_X9_goesOn (r_10.1 + 1) r_10.2).bind (fun r_12 =>
                  (f_X9_votes  r_12).bind (fun r_14 =>
                    f_X9_years_L33 y1 k81 n (y2 + 1) r_14.2))))
          else none))
noncomputable def f_X9_years (x1 : Int32) (ν : gN) : Option (Int32 × gN) :=
  if (ν.1 53 0) = 0 then
    (f_X9_no (-5) ν).bind (fun r_20 =>
      some (r_20.1, r_20.2))
  else
    (f_X9_within x1 1 40 ν).bind (fun r_1 =>
      if r_1.1 = 0 then
        (f_X9_no (-6) r_1.2).bind (fun r_18 =>
          some (r_18.1, r_18.2))
      else
        f_X9_years_L33 x1 (fun ν_16 =>
          if inb 3 4 = true then
            some (ν_16.1 61 (3 : Int32).toNatClampNeg, ν_16)
          else none) FU 0 r_1.2)
theorem me_X9_years : g_me yX9_years cX9_years 4 ((Option.some .int)) 1 := ⟨tw_1335, tw_79, ⟨by decide +kernel, by decide +kernel, by decide +kernel⟩, by decide⟩
set_option maxRecDepth 20000 in
set_option maxHeartbeats 2000000 in
theorem m_X9_years_L33 {X : gX} {ad : Nat → Nat} {y1 : Int32} {k81 : gN → Option (Int32 × gN)}  : ∀ (n : Nat) (y2 : Int32) (ν : gN) (r : Int32 × gN), f_X9_years_L33 y1 k81 n y2 ν = some r → (∀ (ν1 : gN), k81 ν1 = some r → h_go X ad RX9 "years" cX9_years 4 ((Option.some .int)) 10 (some (.int r.1), r.2) 81 [(0, .ref (ad 53))] [] ν1) → h_go X ad RX9 "years" cX9_years 4 ((Option.some .int)) 10 (some (.int r.1), r.2) 33 [(0, .ref (ad 53)), (1, .int y1), (2, .int y2)] [] ν := by
  intro n
  induction n with
  | zero => intro y2 ν r h hk81; rw [f_X9_years_L33] at h; exact q_n h
  | succ n ih =>
    intro y2 ν r h hk81
    rw [f_X9_years_L33] at h
    refine go_iload_n rfl 2 rfl dX9_years_33 ?_
    refine go_iload_n rfl 1 rfl dX9_years_34 ?_
    refine go_icmp_ge (tgt := 81) dX9_years_35 rfl (fun hc => ?_) (fun hc => ?_)
    · replace h := q_t h hc
      refine go_sub (l' := [(0, .ref (ad 53))]) [0] rfl ?_
      exact hk81  _ h
    · replace h := q_f h hc
      refine go_aload_n rfl 0 rfl dX9_years_38 ?_
      refine go_aload_n rfl 0 rfl dX9_years_39 ?_
      refine h_geti 0 cl7 rfl (by decide) tw_912 rfl dX9_years_40 ?_
      obtain ⟨r_3, h_4, h⟩ := q_b h
      refine h_callVi (st := []) [.int (ν.1 53 0)] (m_X9_draw h_4) me_X9_draw (g_recv cl7.1 rfl) tw_1336 tw_1338 tw_66 (hdd_of (by decide)) ⟨Nat.zero_le _, Nat.zero_le _⟩ rfl rfl (Nat.le_of_ble_eq_true rfl) dX9_years_43 ?_
      refine go_istore_n (l' := [(3, .int r_3.1), (0, .ref (ad 53)), (1, .int y1), (2, .int y2)]) dX9_years_46 rfl (by decide) rfl ?_
      refine go_aload_n rfl 1 rfl dX9_years_47 ?_
      refine h_getr 3 cl7 rfl (by decide) tw_915 56 rfl dX9_years_48 ?_
      refine go_iload_n rfl 0 rfl dX9_years_51 ?_
      refine go_aload_n rfl 1 rfl dX9_years_52 ?_
      refine go_bipush kz_bipush_21 dX9_years_53 ?_
      obtain ⟨r_5, h_6, h⟩ := q_b h
      refine h_callVi (st := [.int r_3.1, .ref (ad 56)]) [.int 21] (m_X9_draw h_6) me_X9_draw (g_recv cl7.1 rfl) tw_1336 tw_1338 tw_66 (hdd_of (by decide)) ⟨Nat.zero_le _, Nat.zero_le _⟩ rfl rfl (Nat.le_of_ble_eq_true rfl) dX9_years_55 ?_
      obtain ⟨hg_7, h⟩ := q_g h
      obtain ⟨ν_8, e_9, h⟩ := q_l h
      refine h_iast 7 rfl hg_7 e_9 dX9_years_58 ?_
      refine go_aload_n rfl 1 rfl dX9_years_59 ?_
      refine go_aload_n rfl 1 rfl dX9_years_60 ?_
      refine go_iconst kz_iconst_5 dX9_years_61 ?_
      obtain ⟨r_10, h_11, h⟩ := q_b h
      refine h_callVi (st := [.ref (ad 53)]) [.int 5] (m_X9_draw h_11) me_X9_draw (g_recv cl7.1 rfl) tw_1336 tw_1338 tw_66 (hdd_of (by decide)) ⟨Nat.zero_le _, Nat.zero_le _⟩ rfl rfl (Nat.le_of_ble_eq_true rfl) dX9_years_62 ?_
      refine go_iconst kz_iconst_1 dX9_years_65 ?_
      refine go_iadd dX9_years_66 ?_
      obtain ⟨r_12, h_13, h⟩ := q_b h
      refine h_callVv (st := []) [.int (r_10.1 + 1)] (m_X9_goesOn h_13) me_X9_goesOn (g_recv cl7.1 rfl) tw_1207 tw_1209 tw_51 (hdd_of (by decide)) ⟨Nat.zero_le _, Nat.zero_le _⟩ rfl rfl (Nat.le_of_ble_eq_true rfl) dX9_years_67 ?_
      refine go_aload_n rfl 1 rfl dX9_years_70 ?_
      obtain ⟨r_14, h_15, h⟩ := q_b h
      refine h_callVi (st := []) [] (m_X9_votes h_15) me_X9_votes (g_recv cl7.1 rfl) tw_1328 tw_1330 tw_65 (hdd_of (by decide)) ⟨Nat.zero_le _, Nat.zero_le _⟩ rfl rfl (Nat.le_of_ble_eq_true rfl) dX9_years_71 ?_
      refine go_pop rfl dX9_years_74 ?_
      refine h_iinc (l' := [(2, .int (y2 + 1)), (3, .int r_3.1), (0, .ref (ad 53)), (1, .int y1)]) dX9_years_75 3 rfl kz_iconst_1 (by decide) rfl ?_
      refine go_goto (tgt := 33) dX9_years_78 rfl ?_
      refine go_sub (l' := [(0, .ref (ad 53)), (1, .int y1), (2, .int (y2 + 1))]) [2, 3, 0] rfl ?_
      exact ih _ _ _ h hk81
set_option maxRecDepth 20000 in
set_option maxHeartbeats 2000000 in
theorem m_X9_years {X : gX} {ad : Nat → Nat} {x1 : Int32} {ν : gN} {r : Int32 × gN}  (h : f_X9_years x1 ν = some r) : h_ct X ad yX9_years cX9_years 4 ((Option.some .int)) 10 [.ref (ad 53), .int x1] ν (some (.int r.1), r.2) := by
  rw [f_X9_years] at h
  refine h_ct_of (l := [(0, .ref (ad 53)), (1, .int x1)]) (by decide) (Nat.le_of_ble_eq_true rfl) rfl ?_
  refine go_aload_n rfl 0 rfl dX9_years_0 ?_
  refine h_geti 0 cl7 rfl (by decide) tw_912 rfl dX9_years_1 ?_
  refine go_if_ne (tgt := 14) dX9_years_4 rfl (fun hc => ?_) (fun hc => ?_)
  · replace h := q_f h hc
    refine go_iload_n rfl 1 rfl dX9_years_14 ?_
    refine go_iconst kz_iconst_1 dX9_years_15 ?_
    refine go_bipush kz_bipush_40 dX9_years_16 ?_
    obtain ⟨r_1, h_2, h⟩ := q_b h
    refine h_callSi (st := []) [.int x1, .int 1, .int 40] (m_X9_within h_2) me_X9_within tw_1005 tw_1006 (hdd_of (by decide)) ⟨Nat.zero_le _, Nat.zero_le _⟩ rfl rfl (Nat.le_of_ble_eq_true rfl) dX9_years_18 ?_
    refine go_if_ne (tgt := 31) dX9_years_21 rfl (fun hc => ?_) (fun hc => ?_)
    · replace h := q_f h hc
      refine go_iconst kz_iconst_0 dX9_years_31 ?_
      refine go_istore_n (l' := [(2, .int 0), (0, .ref (ad 53)), (1, .int x1)]) dX9_years_32 rfl (by decide) rfl ?_
      refine go_sub (l' := [(0, .ref (ad 53)), (1, .int x1), (2, .int 0)]) [1, 2, 0] rfl ?_
      refine m_X9_years_L33  FU _ _ _ h (fun ν_16 h => ?_)
      refine go_aload_n rfl 0 rfl dX9_years_81 ?_
      refine h_getr 8 cl7 rfl (by decide) tw_920 61 rfl dX9_years_82 ?_
      refine go_iconst kz_iconst_3 dX9_years_85 ?_
      obtain ⟨hg_17, h⟩ := q_g h
      refine h_iald 4 rfl hg_17 dX9_years_86 ?_
      exact h_iret h dX9_years_87 rfl
    · replace h := q_t h hc
      refine go_aload_n rfl 0 rfl dX9_years_24 ?_
      refine go_bipush kz_bipush_m6 dX9_years_25 ?_
      obtain ⟨r_18, h_19, h⟩ := q_b h
      refine h_callVi (st := []) [.int (-6)] (m_X9_no h_19) me_X9_no (g_recv cl7.1 rfl) tw_1008 tw_1010 tw_23 (hdd_of (by decide)) ⟨Nat.zero_le _, Nat.zero_le _⟩ rfl rfl (Nat.le_of_ble_eq_true rfl) dX9_years_27 ?_
      exact h_iret h dX9_years_30 rfl
  · replace h := q_t h hc
    refine go_aload_n rfl 0 rfl dX9_years_7 ?_
    refine go_bipush kz_bipush_m5 dX9_years_8 ?_
    obtain ⟨r_20, h_21, h⟩ := q_b h
    refine h_callVi (st := []) [.int (-5)] (m_X9_no h_21) me_X9_no (g_recv cl7.1 rfl) tw_1008 tw_1010 tw_23 (hdd_of (by decide)) ⟨Nat.zero_le _, Nat.zero_le _⟩ rfl rfl (Nat.le_of_ble_eq_true rfl) dX9_years_10 ?_
    exact h_iret h dX9_years_13 rfl
