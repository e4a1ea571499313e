/-! each method as a function of the memory (f_), and that the machine does it (m_); written by my own program out of the decoded rows -/
noncomputable def f_X7_spread_L51 (y1 : Int64) (y4 : Nat) (y6 : Int32) (y7 : Int32) (k142 : Int32 → gN → Option (gN)) : Nat → Int32 → Int32 → gN → Option (gN)
  | 0, _, _, _ => none
  | n + 1, y5, y8, ν =>
    if 4 ≤ y8 then
      k142 y5 ν
    else
      (f_X7_beside y7 y8 ν).bind (fun r_10 =>
        if r_10.1 = (-1) then
          if (0 : Int32) = 0 then
            f_X7_spread_L51 y1 y4 y6 y7 k142 n y5 (y8 + 1) r_10.2
          else
            if 49 ≤ y5 then
              f_X7_spread_L51 y1 y4 y6 y7 k142 n y5 (y8 + 1) r_10.2
            else
              if inb y7 49 = true then
                if inb r_10.1 49 = true then
                  qL (nWI r_10.2 y4 r_10.1.toNatClampNeg ((r_10.2.1 y4 y7.toNatClampNeg) + 1)) (fun ν_14 =>
                    if inb y5 49 = true then
                      qL (nWI ν_14 29 y5.toNatClampNeg r_10.1) (fun ν_17 =>
                        f_X7_spread_L51 y1 y4 y6 y7 k142 n (y5 + 1) (y8 + 1) ν_17)
                    else none)
                else none
              else none
        else
          if (lg_cmp ((j_lushr y1 r_10.1) &&& 1) 0) = 0 then
            if inb r_10.1 49 = true then
              if (r_10.2.1 y4 r_10.1.toNatClampNeg) = 99 then
                if (1 : Int32) = 0 then
                  f_X7_spread_L51 y1 y4 y6 y7 k142 n y5 (y8 + 1) r_10.2
                else
                  if 49 ≤ y5 then
                    f_X7_spread_L51 y1 y4 y6 y7 k142 n y5 (y8 + 1) r_10.2
                  else
                    if inb y7 49 = true then
                      if inb r_10.1 49 = true then
                        qL (nWI r_10.2 y4 r_10.1.toNatClampNeg ((r_10.2.1 y4 y7.toNatClampNeg) + 1)) (fun ν_36 =>
                          if inb y5 49 = true then
                            qL (nWI ν_36 29 y5.toNatClampNeg r_10.1) (fun ν_39 =>
                              f_X7_spread_L51 y1 y4 y6 y7 k142 n (y5 + 1) (y8 + 1) ν_39)
                          else none)
                      else none
                    else none
              else
                if (0 : Int32) = 0 then
                  f_X7_spread_L51 y1 y4 y6 y7 k142 n y5 (y8 + 1) r_10.2
                else
                  if 49 ≤ y5 then
                    f_X7_spread_L51 y1 y4 y6 y7 k142 n y5 (y8 + 1) r_10.2
                  else
                    if inb y7 49 = true then
                      if inb r_10.1 49 = true then
                        qL (nWI r_10.2 y4 r_10.1.toNatClampNeg ((r_10.2.1 y4 y7.toNatClampNeg) + 1)) (fun ν_29 =>
                          if inb y5 49 = true then
                            qL (nWI ν_29 29 y5.toNatClampNeg r_10.1) (fun ν_32 =>
                              f_X7_spread_L51 y1 y4 y6 y7 k142 n (y5 + 1) (y8 + 1) ν_32)
                          else none)
                      else none
                    else none
            else none
          else
            if (0 : Int32) = 0 then
              f_X7_spread_L51 y1 y4 y6 y7 k142 n y5 (y8 + 1) r_10.2
            else
              if 49 ≤ y5 then
                f_X7_spread_L51 y1 y4 y6 y7 k142 n y5 (y8 + 1) r_10.2
              else
                if inb y7 49 = true then
                  if inb r_10.1 49 = true then
                    qL (nWI r_10.2 y4 r_10.1.toNatClampNeg ((r_10.2.1 y4 y7.toNatClampNeg) + 1)) (fun ν_21 =>
                      if inb y5 49 = true then
                        qL (nWI ν_21 29 y5.toNatClampNeg r_10.1) (fun ν_24 =>
                          f_X7_spread_L51 y1 y4 y6 y7 k142 n (y5 + 1) (y8 + 1) ν_24)
                      else none)
                  else none
                else none)
noncomputable def f_X7_spread_L25 (y1 : Int64) (y4 : Nat) (k148 : gN → Option (gN)) : Nat → Int32 → Int32 → gN → Option (gN)
  | 0, _, _, _ => none
  | n + 1, y5, y6, ν =>
    if y5 ≤ y6 then
      k148  ν
    else
      if 49 ≤ y6 then
        k148  ν
      else
        if inb y6 49 = true then
          f_X7_spread_L51 y1 y4 y6 (ν.1 29 y6.toNatClampNeg) (fun z5_41 ν_42 =>
            f_X7_spread_L25 y1 y4 k148 n z5_41 (y6 + 1) ν_42) FU y5 0 ν
        else none
noncomputable def f_X7_spread (x1 : Int64) (x3 : Int32) (a4 : Nat) (ν : gN) : Option (gN) :=
  (f_J7_fill_53178 a4 49 99 ν).bind (fun r_1 =>
    if inb x3 49 = true then
      qL (nWI r_1 a4 x3.toNatClampNeg 0) (fun ν_4 =>
        if inb 0 49 = true then
          qL (nWI ν_4 29 (0 : Int32).toNatClampNeg x3) (fun ν_7 =>
            f_X7_spread_L25 x1 a4 (fun ν_43 =>
              some ν_43) FU 1 0 ν_7)
        else none)
    else none)
theorem me_X7_spread : g_me yX7_spread cX7_spread 11 (none) 3 := ⟨tw_639, tw_74, ⟨by decide +kernel, by decide +kernel, by decide +kernel⟩, by decide⟩
set_option maxRecDepth 20000 in
set_option maxHeartbeats 2000000 in
theorem m_X7_spread_L51 {X : gX} {ad : Nat → Nat} {y1 : Int64} {y4 : Nat} {y6 : Int32} {y7 : Int32} {k142 : Int32 → gN → Option (gN)} (hy4 : SH[y4]? = some (0, 49)) : ∀ (n : Nat) (y5 : Int32) (y8 : Int32) (ν : gN) (r : gN), f_X7_spread_L51 y1 y4 y6 y7 k142 n y5 y8 ν = some r → (∀ (z5 : Int32) (ν1 : gN), k142 z5 ν1 = some r → h_go X ad RX7 "spread" cX7_spread 11 (none) 2 (none, r) 142 [(0, .ref (ad 24)), (1, .long y1), (4, .ref (ad y4)), (5, .int z5), (6, .int y6)] [] ν1) → h_go X ad RX7 "spread" cX7_spread 11 (none) 2 (none, r) 51 [(0, .ref (ad 24)), (1, .long y1), (4, .ref (ad y4)), (5, .int y5), (6, .int y6), (7, .int y7), (8, .int y8)] [] ν := by
  intro n
  induction n with
  | zero => intro y5 y8 ν r h hk142; rw [f_X7_spread_L51] at h; exact q_n h
  | succ n ih =>
    intro y5 y8 ν r h hk142
    rw [f_X7_spread_L51] at h
    refine go_iload 6 rfl dX7_spread_51 ?_
    refine go_iconst kz_iconst_4 dX7_spread_53 ?_
    refine go_icmp_ge (tgt := 142) dX7_spread_54 rfl (fun hc => ?_) (fun hc => ?_)
    · replace h := q_t h hc
      refine go_sub (l' := [(0, .ref (ad 24)), (1, .long y1), (4, .ref (ad y4)), (5, .int y5), (6, .int y6)]) [0, 1, 2, 3, 4] rfl ?_
      exact hk142 _ _ h
    · replace h := q_f h hc
      refine go_iload 5 rfl dX7_spread_57 ?_
      refine go_iload 6 rfl dX7_spread_59 ?_
      obtain ⟨r_10, h_11, h⟩ := q_b h
      refine h_callSi (st := []) [.int y7, .int y8] (m_X7_beside h_11) me_X7_beside tw_643 tw_644 (hdd_of (by decide)) ⟨Nat.zero_le _, Nat.zero_le _⟩ rfl rfl (Nat.le_of_ble_eq_true rfl) dX7_spread_61 ?_
      refine go_istore (l' := [(9, .int r_10.1), (0, .ref (ad 24)), (1, .long y1), (4, .ref (ad y4)), (5, .int y5), (6, .int y6), (7, .int y7), (8, .int y8)]) dX7_spread_64 (by decide) rfl ?_
      refine go_iload 0 rfl dX7_spread_66 ?_
      refine go_iconst kz_iconst_m1 dX7_spread_68 ?_
      refine go_icmp_eq (tgt := 97) dX7_spread_69 rfl (fun hc => ?_) (fun hc => ?_)
      · replace h := q_t h hc
        refine go_iconst kz_iconst_0 dX7_spread_97 ?_
        refine go_istore (l' := [(10, .int 0), (9, .int r_10.1), (0, .ref (ad 24)), (1, .long y1), (4, .ref (ad y4)), (5, .int y5), (6, .int y6), (7, .int y7), (8, .int y8)]) dX7_spread_98 (by decide) rfl ?_
        refine go_iload 0 rfl dX7_spread_100 ?_
        refine go_if_eq (tgt := 136) dX7_spread_102 rfl (fun hc => ?_) (fun hc => ?_)
        · replace h := q_t h hc
          refine h_iinc (l' := [(8, .int (y8 + 1)), (10, .int 0), (9, .int r_10.1), (0, .ref (ad 24)), (1, .long y1), (4, .ref (ad y4)), (5, .int y5), (6, .int y6), (7, .int y7)]) dX7_spread_136 8 rfl kz_iconst_1 (by decide) rfl ?_
          refine go_goto (tgt := 51) dX7_spread_139 rfl ?_
          refine go_sub (l' := [(0, .ref (ad 24)), (1, .long y1), (4, .ref (ad y4)), (5, .int y5), (6, .int y6), (7, .int y7), (8, .int (y8 + 1))]) [3, 4, 5, 6, 7, 8, 0] rfl ?_
          exact ih _ _ _ _ h hk142
        · replace h := q_f h hc
          refine go_iload 5 rfl dX7_spread_105 ?_
          refine go_bipush kz_bipush_49 dX7_spread_107 ?_
          refine go_icmp_ge (tgt := 136) dX7_spread_109 rfl (fun hc => ?_) (fun hc => ?_)
          · replace h := q_t h hc
            refine h_iinc (l' := [(8, .int (y8 + 1)), (10, .int 0), (9, .int r_10.1), (0, .ref (ad 24)), (1, .long y1), (4, .ref (ad y4)), (5, .int y5), (6, .int y6), (7, .int y7)]) dX7_spread_136 8 rfl kz_iconst_1 (by decide) rfl ?_
            refine go_goto (tgt := 51) dX7_spread_139 rfl ?_
            refine go_sub (l' := [(0, .ref (ad 24)), (1, .long y1), (4, .ref (ad y4)), (5, .int y5), (6, .int y6), (7, .int y7), (8, .int (y8 + 1))]) [3, 4, 5, 6, 7, 8, 0] rfl ?_
            exact ih _ _ _ _ h hk142
          · replace h := q_f h hc
            refine go_aload 4 rfl dX7_spread_112 ?_
            refine go_iload 1 rfl dX7_spread_114 ?_
            refine go_aload 4 rfl dX7_spread_116 ?_
            refine go_iload 7 rfl dX7_spread_118 ?_
            obtain ⟨hg_12, h⟩ := q_g h
            refine h_iald 49 hy4 hg_12 dX7_spread_120 ?_
            refine go_iconst kz_iconst_1 dX7_spread_121 ?_
            refine go_iadd dX7_spread_122 ?_
            obtain ⟨hg_13, h⟩ := q_g h
            obtain ⟨ν_14, e_15, h⟩ := q_l h
            refine h_iast 49 hy4 hg_13 e_15 dX7_spread_123 ?_
            refine go_aload_n rfl 2 rfl dX7_spread_124 ?_
            refine h_getr 4 cl5 rfl (by decide) tw_186 29 rfl dX7_spread_125 ?_
            refine go_iload 5 rfl dX7_spread_128 ?_
            refine go_iload 1 rfl dX7_spread_130 ?_
            obtain ⟨hg_16, h⟩ := q_g h
            obtain ⟨ν_17, e_18, h⟩ := q_l h
            refine h_iast 49 rfl hg_16 e_18 dX7_spread_132 ?_
            refine h_iinc (l' := [(5, .int (y5 + 1)), (10, .int 0), (9, .int r_10.1), (0, .ref (ad 24)), (1, .long y1), (4, .ref (ad y4)), (6, .int y6), (7, .int y7), (8, .int y8)]) dX7_spread_133 5 rfl kz_iconst_1 (by decide) rfl ?_
            refine h_iinc (l' := [(8, .int (y8 + 1)), (5, .int (y5 + 1)), (10, .int 0), (9, .int r_10.1), (0, .ref (ad 24)), (1, .long y1), (4, .ref (ad y4)), (6, .int y6), (7, .int y7)]) dX7_spread_136 8 rfl kz_iconst_1 (by decide) rfl ?_
            refine go_goto (tgt := 51) dX7_spread_139 rfl ?_
            refine go_sub (l' := [(0, .ref (ad 24)), (1, .long y1), (4, .ref (ad y4)), (5, .int (y5 + 1)), (6, .int y6), (7, .int y7), (8, .int (y8 + 1))]) [4, 5, 6, 1, 7, 8, 0] rfl ?_
            exact ih _ _ _ _ h hk142
      · replace h := q_f h hc
        refine go_lload_n rfl 2 rfl dX7_spread_72 ?_
        refine go_iload 0 rfl dX7_spread_73 ?_
        refine h_lushr dX7_spread_75 ?_
        refine go_lconst (v := 1) rfl dX7_spread_76 ?_
        refine go_land dX7_spread_77 ?_
        refine go_lconst (v := 0) rfl dX7_spread_78 ?_
        refine go_lcmp dX7_spread_79 ?_
        refine go_if_ne (tgt := 97) dX7_spread_80 rfl (fun hc => ?_) (fun hc => ?_)
        · replace h := q_f h hc
          refine go_iconst kz_iconst_0 dX7_spread_97 ?_
          refine go_istore (l' := [(10, .int 0), (9, .int r_10.1), (0, .ref (ad 24)), (1, .long y1), (4, .ref (ad y4)), (5, .int y5), (6, .int y6), (7, .int y7), (8, .int y8)]) dX7_spread_98 (by decide) rfl ?_
          refine go_iload 0 rfl dX7_spread_100 ?_
          refine go_if_eq (tgt := 136) dX7_spread_102 rfl (fun hc => ?_) (fun hc => ?_)
          · replace h := q_t h hc
            refine h_iinc (l' := [(8, .int (y8 + 1)), (10, .int 0), (9, .int r_10.1), (0, .ref (ad 24)), (1, .long y1), (4, .ref (ad y4)), (5, .int y5), (6, .int y6), (7, .int y7)]) dX7_spread_136 8 rfl kz_iconst_1 (by decide) rfl ?_
            refine go_goto (tgt := 51) dX7_spread_139 rfl ?_
            refine go_sub (l' := [(0, .ref (ad 24)), (1, .long y1), (4, .ref (ad y4)), (5, .int y5), (6, .int y6), (7, .int y7), (8, .int (y8 + 1))]) [3, 4, 5, 6, 7, 8, 0] rfl ?_
            exact ih _ _ _ _ h hk142
          · replace h := q_f h hc
            refine go_iload 5 rfl dX7_spread_105 ?_
            refine go_bipush kz_bipush_49 dX7_spread_107 ?_
            refine go_icmp_ge (tgt := 136) dX7_spread_109 rfl (fun hc => ?_) (fun hc => ?_)
            · replace h := q_t h hc
              refine h_iinc (l' := [(8, .int (y8 + 1)), (10, .int 0), (9, .int r_10.1), (0, .ref (ad 24)), (1, .long y1), (4, .ref (ad y4)), (5, .int y5), (6, .int y6), (7, .int y7)]) dX7_spread_136 8 rfl kz_iconst_1 (by decide) rfl ?_
              refine go_goto (tgt := 51) dX7_spread_139 rfl ?_
              refine go_sub (l' := [(0, .ref (ad 24)), (1, .long y1), (4, .ref (ad y4)), (5, .int y5), (6, .int y6), (7, .int y7), (8, .int (y8 + 1))]) [3, 4, 5, 6, 7, 8, 0] rfl ?_
              exact ih _ _ _ _ h hk142
            · replace h := q_f h hc
              refine go_aload 4 rfl dX7_spread_112 ?_
              refine go_iload 1 rfl dX7_spread_114 ?_
              refine go_aload 4 rfl dX7_spread_116 ?_
              refine go_iload 7 rfl dX7_spread_118 ?_
              obtain ⟨hg_19, h⟩ := q_g h
              refine h_iald 49 hy4 hg_19 dX7_spread_120 ?_
              refine go_iconst kz_iconst_1 dX7_spread_121 ?_
              refine go_iadd dX7_spread_122 ?_
              obtain ⟨hg_20, h⟩ := q_g h
              obtain ⟨ν_21, e_22, h⟩ := q_l h
              refine h_iast 49 hy4 hg_20 e_22 dX7_spread_123 ?_
              refine go_aload_n rfl 2 rfl dX7_spread_124 ?_
              refine h_getr 4 cl5 rfl (by decide) tw_186 29 rfl dX7_spread_125 ?_
              refine go_iload 5 rfl dX7_spread_128 ?_
              refine go_iload 1 rfl dX7_spread_130 ?_
              obtain ⟨hg_23, h⟩ := q_g h
              obtain ⟨ν_24, e_25, h⟩ := q_l h
              refine h_iast 49 rfl hg_23 e_25 dX7_spread_132 ?_
              refine h_iinc (l' := [(5, .int (y5 + 1)), (10, .int 0), (9, .int r_10.1), (0, .ref (ad 24)), (1, .long y1), (4, .ref (ad y4)), (6, .int y6), (7, .int y7), (8, .int y8)]) dX7_spread_133 5 rfl kz_iconst_1 (by decide) rfl ?_
              refine h_iinc (l' := [(8, .int (y8 + 1)), (5, .int (y5 + 1)), (10, .int 0), (9, .int r_10.1), (0, .ref (ad 24)), (1, .long y1), (4, .ref (ad y4)), (6, .int y6), (7, .int y7)]) dX7_spread_136 8 rfl kz_iconst_1 (by decide) rfl ?_
              refine go_goto (tgt := 51) dX7_spread_139 rfl ?_
              refine go_sub (l' := [(0, .ref (ad 24)), (1, .long y1), (4, .ref (ad y4)), (5, .int (y5 + 1)), (6, .int y6), (7, .int y7), (8, .int (y8 + 1))]) [4, 5, 6, 1, 7, 8, 0] rfl ?_
              exact ih _ _ _ _ h hk142
        · replace h := q_t h hc
          refine go_aload 3 rfl dX7_spread_83 ?_
          refine go_iload 0 rfl dX7_spread_85 ?_
          obtain ⟨hg_26, h⟩ := q_g h
          refine h_iald 49 hy4 hg_26 dX7_spread_87 ?_
          refine go_bipush kz_bipush_99 dX7_spread_88 ?_
          refine go_icmp_ne (tgt := 97) dX7_spread_90 rfl (fun hc => ?_) (fun hc => ?_)
          · replace h := q_f h hc
            refine go_iconst kz_iconst_0 dX7_spread_97 ?_
            refine go_istore (l' := [(10, .int 0), (9, .int r_10.1), (0, .ref (ad 24)), (1, .long y1), (4, .ref (ad y4)), (5, .int y5), (6, .int y6), (7, .int y7), (8, .int y8)]) dX7_spread_98 (by decide) rfl ?_
            refine go_iload 0 rfl dX7_spread_100 ?_
            refine go_if_eq (tgt := 136) dX7_spread_102 rfl (fun hc => ?_) (fun hc => ?_)
            · replace h := q_t h hc
              refine h_iinc (l' := [(8, .int (y8 + 1)), (10, .int 0), (9, .int r_10.1), (0, .ref (ad 24)), (1, .long y1), (4, .ref (ad y4)), (5, .int y5), (6, .int y6), (7, .int y7)]) dX7_spread_136 8 rfl kz_iconst_1 (by decide) rfl ?_
              refine go_goto (tgt := 51) dX7_spread_139 rfl ?_
              refine go_sub (l' := [(0, .ref (ad 24)), (1, .long y1), (4, .ref (ad y4)), (5, .int y5), (6, .int y6), (7, .int y7), (8, .int (y8 + 1))]) [3, 4, 5, 6, 7, 8, 0] rfl ?_
              exact ih _ _ _ _ h hk142
            · replace h := q_f h hc
              refine go_iload 5 rfl dX7_spread_105 ?_
              refine go_bipush kz_bipush_49 dX7_spread_107 ?_
              refine go_icmp_ge (tgt := 136) dX7_spread_109 rfl (fun hc => ?_) (fun hc => ?_)
              · replace h := q_t h hc
                refine h_iinc (l' := [(8, .int (y8 + 1)), (10, .int 0), (9, .int r_10.1), (0, .ref (ad 24)), (1, .long y1), (4, .ref (ad y4)), (5, .int y5), (6, .int y6), (7, .int y7)]) dX7_spread_136 8 rfl kz_iconst_1 (by decide) rfl ?_
                refine go_goto (tgt := 51) dX7_spread_139 rfl ?_
                refine go_sub (l' := [(0, .ref (ad 24)), (1, .long y1), (4, .ref (ad y4)), (5, .int y5), (6, .int y6), (7, .int y7), (8, .int (y8 + 1))]) [3, 4, 5, 6, 7, 8, 0] rfl ?_
                exact ih _ _ _ _ h hk142
              · replace h := q_f h hc
                refine go_aload 4 rfl dX7_spread_112 ?_
                refine go_iload 1 rfl dX7_spread_114 ?_
                refine go_aload 4 rfl dX7_spread_116 ?_
                refine go_iload 7 rfl dX7_spread_118 ?_
                obtain ⟨hg_27, h⟩ := q_g h
                refine h_iald 49 hy4 hg_27 dX7_spread_120 ?_
                refine go_iconst kz_iconst_1 dX7_spread_121 ?_
                refine go_iadd dX7_spread_122 ?_
                obtain ⟨hg_28, h⟩ := q_g h
                obtain ⟨ν_29, e_30, h⟩ := q_l h
                refine h_iast 49 hy4 hg_28 e_30 dX7_spread_123 ?_
                refine go_aload_n rfl 2 rfl dX7_spread_124 ?_
                refine h_getr 4 cl5 rfl (by decide) tw_186 29 rfl dX7_spread_125 ?_
                refine go_iload 5 rfl dX7_spread_128 ?_
                refine go_iload 1 rfl dX7_spread_130 ?_
                obtain ⟨hg_31, h⟩ := q_g h
                obtain ⟨ν_32, e_33, h⟩ := q_l h
                refine h_iast 49 rfl hg_31 e_33 dX7_spread_132 ?_
                refine h_iinc (l' := [(5, .int (y5 + 1)), (10, .int 0), (9, .int r_10.1), (0, .ref (ad 24)), (1, .long y1), (4, .ref (ad y4)), (6, .int y6), (7, .int y7), (8, .int y8)]) dX7_spread_133 5 rfl kz_iconst_1 (by decide) rfl ?_
                refine h_iinc (l' := [(8, .int (y8 + 1)), (5, .int (y5 + 1)), (10, .int 0), (9, .int r_10.1), (0, .ref (ad 24)), (1, .long y1), (4, .ref (ad y4)), (6, .int y6), (7, .int y7)]) dX7_spread_136 8 rfl kz_iconst_1 (by decide) rfl ?_
                refine go_goto (tgt := 51) dX7_spread_139 rfl ?_
                refine go_sub (l' := [(0, .ref (ad 24)), (1, .long y1), (4, .ref (ad y4)), (5, .int (y5 + 1)), (6, .int y6), (7, .int y7), (8, .int (y8 + 1))]) [4, 5, 6, 1, 7, 8, 0] rfl ?_
                exact ih _ _ _ _ h hk142
          · replace h := q_t h hc
            refine go_iconst kz_iconst_1 dX7_spread_93 ?_
            refine go_goto (tgt := 98) dX7_spread_94 rfl ?_
            refine go_istore (l' := [(10, .int 1), (9, .int r_10.1), (0, .ref (ad 24)), (1, .long y1), (4, .ref (ad y4)), (5, .int y5), (6, .int y6), (7, .int y7), (8, .int y8)]) dX7_spread_98 (by decide) rfl ?_
            refine go_iload 0 rfl dX7_spread_100 ?_
            refine go_if_eq (tgt := 136) dX7_spread_102 rfl (fun hc => ?_) (fun hc => ?_)
            · replace h := q_t h hc
              refine h_iinc (l' := [(8, .int (y8 + 1)), (10, .int 1), (9, .int r_10.1), (0, .ref (ad 24)), (1, .long y1), (4, .ref (ad y4)), (5, .int y5), (6, .int y6), (7, .int y7)]) dX7_spread_136 8 rfl kz_iconst_1 (by decide) rfl ?_
              refine go_goto (tgt := 51) dX7_spread_139 rfl ?_
              refine go_sub (l' := [(0, .ref (ad 24)), (1, .long y1), (4, .ref (ad y4)), (5, .int y5), (6, .int y6), (7, .int y7), (8, .int (y8 + 1))]) [3, 4, 5, 6, 7, 8, 0] rfl ?_
              exact ih _ _ _ _ h hk142
            · replace h := q_f h hc
              refine go_iload 5 rfl dX7_spread_105 ?_
              refine go_bipush kz_bipush_49 dX7_spread_107 ?_
              refine go_icmp_ge (tgt := 136) dX7_spread_109 rfl (fun hc => ?_) (fun hc => ?_)
              · replace h := q_t h hc
                refine h_iinc (l' := [(8, .int (y8 + 1)), (10, .int 1), (9, .int r_10.1), (0, .ref (ad 24)), (1, .long y1), (4, .ref (ad y4)), (5, .int y5), (6, .int y6), (7, .int y7)]) dX7_spread_136 8 rfl kz_iconst_1 (by decide) rfl ?_
                refine go_goto (tgt := 51) dX7_spread_139 rfl ?_
                refine go_sub (l' := [(0, .ref (ad 24)), (1, .long y1), (4, .ref (ad y4)), (5, .int y5), (6, .int y6), (7, .int y7), (8, .int (y8 + 1))]) [3, 4, 5, 6, 7, 8, 0] rfl ?_
                exact ih _ _ _ _ h hk142
              · replace h := q_f h hc
                refine go_aload 4 rfl dX7_spread_112 ?_
                refine go_iload 1 rfl dX7_spread_114 ?_
                refine go_aload 4 rfl dX7_spread_116 ?_
                refine go_iload 7 rfl dX7_spread_118 ?_
                obtain ⟨hg_34, h⟩ := q_g h
                refine h_iald 49 hy4 hg_34 dX7_spread_120 ?_
                refine go_iconst kz_iconst_1 dX7_spread_121 ?_
                refine go_iadd dX7_spread_122 ?_
                obtain ⟨hg_35, h⟩ := q_g h
                obtain ⟨ν_36, e_37, h⟩ := q_l h
                refine h_iast 49 hy4 hg_35 e_37 dX7_spread_123 ?_
                refine go_aload_n rfl 2 rfl dX7_spread_124 ?_
                refine h_getr 4 cl5 rfl (by decide) tw_186 29 rfl dX7_spread_125 ?_
                refine go_iload 5 rfl dX7_spread_128 ?_
                refine go_iload 1 rfl dX7_spread_130 ?_
                obtain ⟨hg_38, h⟩ := q_g h
                obtain ⟨ν_39, e_40, h⟩ := q_l h
                refine h_iast 49 rfl hg_38 e_40 dX7_spread_132 ?_
                refine h_iinc (l' := [(5, .int (y5 + 1)), (10, .int 1), (9, .int r_10.1), (0, .ref (ad 24)), (1, .long y1), (4, .ref (ad y4)), (6, .int y6), (7, .int y7), (8, .int y8)]) dX7_spread_133 5 rfl kz_iconst_1 (by decide) rfl ?_
                refine h_iinc (l' := [(8, .int (y8 + 1)), (5, .int (y5 + 1)), (10, .int 1), (9, .int r_10.1), (0, .ref (ad 24)), (1, .long y1), (4, .ref (ad y4)), (6, .int y6), (7, .int y7)]) dX7_spread_136 8 rfl kz_iconst_1 (by decide) rfl ?_
                refine go_goto (tgt := 51) dX7_spread_139 rfl ?_
                refine go_sub (l' := [(0, .ref (ad 24)), (1, .long y1), (4, .ref (ad y4)), (5, .int (y5 + 1)), (6, .int y6), (7, .int y7), (8, .int (y8 + 1))]) [4, 5, 6, 1, 7, 8, 0] rfl ?_
                exact ih _ _ _ _ h hk142
set_option maxRecDepth 20000 in
set_option maxHeartbeats 2000000 in
theorem m_X7_spread_L25 {X : gX} {ad : Nat → Nat} {y1 : Int64} {y4 : Nat} {k148 : gN → Option (gN)} (hy4 : SH[y4]? = some (0, 49)) : ∀ (n : Nat) (y5 : Int32) (y6 : Int32) (ν : gN) (r : gN), f_X7_spread_L25 y1 y4 k148 n y5 y6 ν = some r → (∀ (ν1 : gN), k148 ν1 = some r → h_go X ad RX7 "spread" cX7_spread 11 (none) 2 (none, r) 148 [] [] ν1) → h_go X ad RX7 "spread" cX7_spread 11 (none) 2 (none, r) 25 [(0, .ref (ad 24)), (1, .long y1), (4, .ref (ad y4)), (5, .int y5), (6, .int y6)] [] ν := by
  intro n
  induction n with
  | zero => intro y5 y6 ν r h hk148; rw [f_X7_spread_L25] at h; exact q_n h
  | succ n ih =>
    intro y5 y6 ν r h hk148
    rw [f_X7_spread_L25] at h
    refine go_iload 4 rfl dX7_spread_25 ?_
    refine go_iload 3 rfl dX7_spread_27 ?_
    refine go_icmp_ge (tgt := 148) dX7_spread_29 rfl (fun hc => ?_) (fun hc => ?_)
    · replace h := q_t h hc
      refine go_sub (l' := []) [] rfl ?_
      exact hk148  _ h
    · replace h := q_f h hc
      refine go_iload 4 rfl dX7_spread_32 ?_
      refine go_bipush kz_bipush_49 dX7_spread_34 ?_
      refine go_icmp_ge (tgt := 148) dX7_spread_36 rfl (fun hc => ?_) (fun hc => ?_)
      · replace h := q_t h hc
        refine go_sub (l' := []) [] rfl ?_
        exact hk148  _ h
      · replace h := q_f h hc
        refine go_aload_n rfl 0 rfl dX7_spread_39 ?_
        refine h_getr 4 cl5 rfl (by decide) tw_186 29 rfl dX7_spread_40 ?_
        refine go_iload 4 rfl dX7_spread_43 ?_
        obtain ⟨hg_9, h⟩ := q_g h
        refine h_iald 49 rfl hg_9 dX7_spread_45 ?_
        refine go_istore (l' := [(7, .int (ν.1 29 y6.toNatClampNeg)), (0, .ref (ad 24)), (1, .long y1), (4, .ref (ad y4)), (5, .int y5), (6, .int y6)]) dX7_spread_46 (by decide) rfl ?_
        refine go_iconst kz_iconst_0 dX7_spread_48 ?_
        refine go_istore (l' := [(8, .int 0), (7, .int (ν.1 29 y6.toNatClampNeg)), (0, .ref (ad 24)), (1, .long y1), (4, .ref (ad y4)), (5, .int y5), (6, .int y6)]) dX7_spread_49 (by decide) rfl ?_
        refine go_sub (l' := [(0, .ref (ad 24)), (1, .long y1), (4, .ref (ad y4)), (5, .int y5), (6, .int y6), (7, .int (ν.1 29 y6.toNatClampNeg)), (8, .int 0)]) [2, 3, 4, 5, 6, 1, 0] rfl ?_
        refine m_X7_spread_L51 hy4 FU _ _ _ _ h (fun z5_41 ν_42 h => ?_)
        refine h_iinc (l' := [(6, .int (y6 + 1)), (0, .ref (ad 24)), (1, .long y1), (4, .ref (ad y4)), (5, .int z5_41)]) dX7_spread_142 4 rfl kz_iconst_1 (by decide) rfl ?_
        refine go_goto (tgt := 25) dX7_spread_145 rfl ?_
        refine go_sub (l' := [(0, .ref (ad 24)), (1, .long y1), (4, .ref (ad y4)), (5, .int z5_41), (6, .int (y6 + 1))]) [1, 2, 3, 4, 0] rfl ?_
        exact ih _ _ _ _ h hk148
set_option maxRecDepth 20000 in
set_option maxHeartbeats 2000000 in
theorem m_X7_spread {X : gX} {ad : Nat → Nat} {x1 : Int64} {x3 : Int32} {a4 : Nat} {ν : gN} {r : gN} (ha4 : SH[a4]? = some (0, 49)) (h : f_X7_spread x1 x3 a4 ν = some r) : h_ct X ad yX7_spread cX7_spread 11 (none) 2 [.ref (ad 24), .long x1, .int x3, .ref (ad a4)] ν (none, r) := by
  rw [f_X7_spread] at h
  refine h_ct_of (l := [(0, .ref (ad 24)), (1, .long x1), (3, .int x3), (4, .ref (ad a4))]) (by decide) (Nat.le_of_ble_eq_true rfl) rfl ?_
  refine go_aload 3 rfl dX7_spread_0 ?_
  refine go_bipush kz_bipush_99 dX7_spread_2 ?_
  obtain ⟨r_1, h_2, h⟩ := q_b h
  refine h_callSv (st := []) [.ref (ad a4), .int 99] (m_J7_fill_53178 ha4 h_2) me_J7_fill_53178 tw_640 tw_641 (hdd_of (by decide)) ⟨Nat.zero_le _, Nat.zero_le _⟩ rfl rfl (Nat.le_of_ble_eq_true rfl) dX7_spread_4 ?_
  refine go_aload 3 rfl dX7_spread_7 ?_
  refine go_iload_n rfl 2 rfl dX7_spread_9 ?_
  refine go_iconst kz_iconst_0 dX7_spread_10 ?_
  obtain ⟨hg_3, h⟩ := q_g h
  obtain ⟨ν_4, e_5, h⟩ := q_l h
  refine h_iast 49 ha4 hg_3 e_5 dX7_spread_11 ?_
  refine go_aload_n rfl 0 rfl dX7_spread_12 ?_
  refine h_getr 4 cl5 rfl (by decide) tw_186 29 rfl dX7_spread_13 ?_
  refine go_iconst kz_iconst_0 dX7_spread_16 ?_
  refine go_iload_n rfl 2 rfl dX7_spread_17 ?_
  obtain ⟨hg_6, h⟩ := q_g h
  obtain ⟨ν_7, e_8, h⟩ := q_l h
  refine h_iast 49 rfl hg_6 e_8 dX7_spread_18 ?_
  refine go_iconst kz_iconst_1 dX7_spread_19 ?_
  refine go_istore (l' := [(5, .int 1), (0, .ref (ad 24)), (1, .long x1), (3, .int x3), (4, .ref (ad a4))]) dX7_spread_20 (by decide) rfl ?_
  refine go_iconst kz_iconst_0 dX7_spread_22 ?_
  refine go_istore (l' := [(6, .int 0), (5, .int 1), (0, .ref (ad 24)), (1, .long x1), (3, .int x3), (4, .ref (ad a4))]) dX7_spread_23 (by decide) rfl ?_
  refine go_sub (l' := [(0, .ref (ad 24)), (1, .long x1), (4, .ref (ad a4)), (5, .int 1), (6, .int 0)]) [2, 3, 5, 1, 0] rfl ?_
  refine m_X7_spread_L25 ha4 FU _ _ _ _ h (fun ν_43 h => ?_)
  exact h_vret h dX7_spread_148 rfl
noncomputable def f_X7_stepAway_L4 (y1 : Int32) (k59 : Int32 → gN → Option (Int32 × gN)) : Nat → Int32 → Int32 → gN → Option (Int32 × gN)
  | 0, _, _, _ => none
  | n + 1, y2, y3, ν =>
    if 4 ≤ y3 then
      k59 y2 ν
    else
      (f_X7_beside y1 y3 ν).bind (fun r_1 =>
        if r_1.1 = (-1) then
          f_X7_stepAway_L4 y1 k59 n y2 (y3 + 1) r_1.2
        else
          if inb r_1.1 49 = true then
            if (r_1.2.1 25 r_1.1.toNatClampNeg) = 99 then
              f_X7_stepAway_L4 y1 k59 n y2 (y3 + 1) r_1.2
            else
              if inb r_1.1 49 = true then
                if inb y2 49 = true then
                  if (r_1.2.1 25 r_1.1.toNatClampNeg) ≤ (r_1.2.1 25 y2.toNatClampNeg) then
                    f_X7_stepAway_L4 y1 k59 n y2 (y3 + 1) r_1.2
                  else
                    f_X7_stepAway_L4 y1 k59 n r_1.1 (y3 + 1) r_1.2
                else none
              else none
          else none)
noncomputable def f_X7_stepAway (x1 : Int32) (ν : gN) : Option (Int32 × gN) :=
  f_X7_stepAway_L4 x1 (fun z2_6 ν_7 =>
    some (z2_6, ν_7)) FU x1 0 ν
theorem me_X7_stepAway : g_me yX7_stepAway cX7_stepAway 5 ((Option.some .int)) 1 := ⟨tw_649, tw_74, ⟨by decide +kernel, by decide +kernel, by decide +kernel⟩, by decide⟩
set_option maxRecDepth 20000 in
set_option maxHeartbeats 2000000 in
theorem m_X7_stepAway_L4 {X : gX} {ad : Nat → Nat} {y1 : Int32} {k59 : Int32 → gN → Option (Int32 × gN)}  : ∀ (n : Nat) (y2 : Int32) (y3 : Int32) (ν : gN) (r : Int32 × gN), f_X7_stepAway_L4 y1 k59 n y2 y3 ν = some r → (∀ (z2 : Int32) (ν1 : gN), k59 z2 ν1 = some r → h_go X ad RX7 "stepAway" cX7_stepAway 5 ((Option.some .int)) 2 (some (.int r.1), r.2) 59 [(2, .int z2)] [] ν1) → h_go X ad RX7 "stepAway" cX7_stepAway 5 ((Option.some .int)) 2 (some (.int r.1), r.2) 4 [(0, .ref (ad 24)), (1, .int y1), (2, .int y2), (3, .int y3)] [] ν := by
  intro n
  induction n with
  | zero => intro y2 y3 ν r h hk59; rw [f_X7_stepAway_L4] at h; exact q_n h
  | succ n ih =>
    intro y2 y3 ν r h hk59
    rw [f_X7_stepAway_L4] at h
    refine go_iload_n rfl 3 rfl dX7_stepAway_4 ?_
    refine go_iconst kz_iconst_4 dX7_stepAway_5 ?_
    refine go_icmp_ge (tgt := 59) dX7_stepAway_6 rfl (fun hc => ?_) (fun hc => ?_)
    · replace h := q_t h hc
      refine go_sub (l' := [(2, .int y2)]) [2] rfl ?_
      exact hk59 _ _ h
    · replace h := q_f h hc
      refine go_iload_n rfl 1 rfl dX7_stepAway_9 ?_
      refine go_iload_n rfl 3 rfl dX7_stepAway_10 ?_
      obtain ⟨r_1, h_2, h⟩ := q_b h
      refine h_callSi (st := []) [.int y1, .int y3] (m_X7_beside h_2) me_X7_beside tw_643 tw_644 (hdd_of (by decide)) ⟨Nat.zero_le _, Nat.zero_le _⟩ rfl rfl (Nat.le_of_ble_eq_true rfl) dX7_stepAway_11 ?_
      refine go_istore (l' := [(4, .int r_1.1), (0, .ref (ad 24)), (1, .int y1), (2, .int y2), (3, .int y3)]) dX7_stepAway_14 (by decide) rfl ?_
      refine go_iload 0 rfl dX7_stepAway_16 ?_
      refine go_iconst kz_iconst_m1 dX7_stepAway_18 ?_
      refine go_icmp_eq (tgt := 53) dX7_stepAway_19 rfl (fun hc => ?_) (fun hc => ?_)
      · replace h := q_t h hc
        refine h_iinc (l' := [(3, .int (y3 + 1)), (4, .int r_1.1), (0, .ref (ad 24)), (1, .int y1), (2, .int y2)]) dX7_stepAway_53 4 rfl kz_iconst_1 (by decide) rfl ?_
        refine go_goto (tgt := 4) dX7_stepAway_56 rfl ?_
        refine go_sub (l' := [(0, .ref (ad 24)), (1, .int y1), (2, .int y2), (3, .int (y3 + 1))]) [2, 3, 4, 0] rfl ?_
        exact ih _ _ _ _ h hk59
      · replace h := q_f h hc
        refine go_aload_n rfl 1 rfl dX7_stepAway_22 ?_
        refine h_getr 0 cl5 rfl (by decide) tw_179 25 rfl dX7_stepAway_23 ?_
        refine go_iload 0 rfl dX7_stepAway_26 ?_
        obtain ⟨hg_3, h⟩ := q_g h
        refine h_iald 49 rfl hg_3 dX7_stepAway_28 ?_
        refine go_bipush kz_bipush_99 dX7_stepAway_29 ?_
        refine go_icmp_eq (tgt := 53) dX7_stepAway_31 rfl (fun hc => ?_) (fun hc => ?_)
        · replace h := q_t h hc
          refine h_iinc (l' := [(3, .int (y3 + 1)), (4, .int r_1.1), (0, .ref (ad 24)), (1, .int y1), (2, .int y2)]) dX7_stepAway_53 4 rfl kz_iconst_1 (by decide) rfl ?_
          refine go_goto (tgt := 4) dX7_stepAway_56 rfl ?_
          refine go_sub (l' := [(0, .ref (ad 24)), (1, .int y1), (2, .int y2), (3, .int (y3 + 1))]) [2, 3, 4, 0] rfl ?_
          exact ih _ _ _ _ h hk59
        · replace h := q_f h hc
          refine go_aload_n rfl 1 rfl dX7_stepAway_34 ?_
          refine h_getr 0 cl5 rfl (by decide) tw_179 25 rfl dX7_stepAway_35 ?_
          refine go_iload 0 rfl dX7_stepAway_38 ?_
          obtain ⟨hg_4, h⟩ := q_g h
          refine h_iald 49 rfl hg_4 dX7_stepAway_40 ?_
          refine go_aload_n rfl 1 rfl dX7_stepAway_41 ?_
          refine h_getr 0 cl5 rfl (by decide) tw_179 25 rfl dX7_stepAway_42 ?_
          refine go_iload_n rfl 3 rfl dX7_stepAway_45 ?_
          obtain ⟨hg_5, h⟩ := q_g h
          refine h_iald 49 rfl hg_5 dX7_stepAway_46 ?_
          refine go_icmp_le (tgt := 53) dX7_stepAway_47 rfl (fun hc => ?_) (fun hc => ?_)
          · replace h := q_t h hc
            refine h_iinc (l' := [(3, .int (y3 + 1)), (4, .int r_1.1), (0, .ref (ad 24)), (1, .int y1), (2, .int y2)]) dX7_stepAway_53 4 rfl kz_iconst_1 (by decide) rfl ?_
            refine go_goto (tgt := 4) dX7_stepAway_56 rfl ?_
            refine go_sub (l' := [(0, .ref (ad 24)), (1, .int y1), (2, .int y2), (3, .int (y3 + 1))]) [2, 3, 4, 0] rfl ?_
            exact ih _ _ _ _ h hk59
          · replace h := q_f h hc
            refine go_iload 0 rfl dX7_stepAway_50 ?_
            refine go_istore_n (l' := [(2, .int r_1.1), (4, .int r_1.1), (0, .ref (ad 24)), (1, .int y1), (3, .int y3)]) dX7_stepAway_52 rfl (by decide) rfl ?_
            refine h_iinc (l' := [(3, .int (y3 + 1)), (2, .int r_1.1), (4, .int r_1.1), (0, .ref (ad 24)), (1, .int y1)]) dX7_stepAway_53 4 rfl kz_iconst_1 (by decide) rfl ?_
            refine go_goto (tgt := 4) dX7_stepAway_56 rfl ?_
            refine go_sub (l' := [(0, .ref (ad 24)), (1, .int y1), (2, .int r_1.1), (3, .int (y3 + 1))]) [3, 4, 1, 0] rfl ?_
            exact ih _ _ _ _ h hk59
set_option maxRecDepth 20000 in
set_option maxHeartbeats 2000000 in
theorem m_X7_stepAway {X : gX} {ad : Nat → Nat} {x1 : Int32} {ν : gN} {r : Int32 × gN}  (h : f_X7_stepAway x1 ν = some r) : h_ct X ad yX7_stepAway cX7_stepAway 5 ((Option.some .int)) 2 [.ref (ad 24), .int x1] ν (some (.int r.1), r.2) := by
  rw [f_X7_stepAway] at h
  refine h_ct_of (l := [(0, .ref (ad 24)), (1, .int x1)]) (by decide) (Nat.le_of_ble_eq_true rfl) rfl ?_
  refine go_iload_n rfl 1 rfl dX7_stepAway_0 ?_
  refine go_istore_n (l' := [(2, .int x1), (0, .ref (ad 24)), (1, .int x1)]) dX7_stepAway_1 rfl (by decide) rfl ?_
  refine go_iconst kz_iconst_0 dX7_stepAway_2 ?_
  refine go_istore_n (l' := [(3, .int 0), (2, .int x1), (0, .ref (ad 24)), (1, .int x1)]) dX7_stepAway_3 rfl (by decide) rfl ?_
  refine go_sub (l' := [(0, .ref (ad 24)), (1, .int x1), (2, .int x1), (3, .int 0)]) [2, 3, 1, 0] rfl ?_
  refine m_X7_stepAway_L4  FU _ _ _ _ h (fun z2_6 ν_7 h => ?_)
  refine go_iload_n rfl 0 rfl dX7_stepAway_59 ?_
  exact h_iret h dX7_stepAway_60 rfl
noncomputable def f_X7_stepToward_L4 (y1 : Int32) (k47 : Int32 → gN → Option (Int32 × gN)) : Nat → Int32 → Int32 → gN → Option (Int32 × gN)
  | 0, _, _, _ => none
  | n + 1, y2, y3, ν =>
    if 4 ≤ y3 then
      k47 y2 ν
    else
      (f_X7_beside y1 y3 ν).bind (fun r_1 =>
        if r_1.1 = (-1) then
          f_X7_stepToward_L4 y1 k47 n y2 (y3 + 1) r_1.2
        else
          if inb r_1.1 49 = true then
            if inb y2 49 = true then
              if (r_1.2.1 25 y2.toNatClampNeg) ≤ (r_1.2.1 25 r_1.1.toNatClampNeg) then
                f_X7_stepToward_L4 y1 k47 n y2 (y3 + 1) r_1.2
              else
                f_X7_stepToward_L4 y1 k47 n r_1.1 (y3 + 1) r_1.2
            else none
          else none)
noncomputable def f_X7_stepToward (x1 : Int32) (ν : gN) : Option (Int32 × gN) :=
  f_X7_stepToward_L4 x1 (fun z2_5 ν_6 =>
    some (z2_5, ν_6)) FU x1 0 ν
theorem me_X7_stepToward : g_me yX7_stepToward cX7_stepToward 5 ((Option.some .int)) 1 := ⟨tw_653, tw_74, ⟨by decide +kernel, by decide +kernel, by decide +kernel⟩, by decide⟩
set_option maxRecDepth 20000 in
set_option maxHeartbeats 2000000 in
theorem m_X7_stepToward_L4 {X : gX} {ad : Nat → Nat} {y1 : Int32} {k47 : Int32 → gN → Option (Int32 × gN)}  : ∀ (n : Nat) (y2 : Int32) (y3 : Int32) (ν : gN) (r : Int32 × gN), f_X7_stepToward_L4 y1 k47 n y2 y3 ν = some r → (∀ (z2 : Int32) (ν1 : gN), k47 z2 ν1 = some r → h_go X ad RX7 "stepToward" cX7_stepToward 5 ((Option.some .int)) 2 (some (.int r.1), r.2) 47 [(2, .int z2)] [] ν1) → h_go X ad RX7 "stepToward" cX7_stepToward 5 ((Option.some .int)) 2 (some (.int r.1), r.2) 4 [(0, .ref (ad 24)), (1, .int y1), (2, .int y2), (3, .int y3)] [] ν := by
  intro n
  induction n with
  | zero => intro y2 y3 ν r h hk47; rw [f_X7_stepToward_L4] at h; exact q_n h
  | succ n ih =>
    intro y2 y3 ν r h hk47
    rw [f_X7_stepToward_L4] at h
    refine go_iload_n rfl 3 rfl dX7_stepToward_4 ?_
    refine go_iconst kz_iconst_4 dX7_stepToward_5 ?_
    refine go_icmp_ge (tgt := 47) dX7_stepToward_6 rfl (fun hc => ?_) (fun hc => ?_)
    · replace h := q_t h hc
      refine go_sub (l' := [(2, .int y2)]) [2] rfl ?_
      exact hk47 _ _ h
    · replace h := q_f h hc
      refine go_iload_n rfl 1 rfl dX7_stepToward_9 ?_
      refine go_iload_n rfl 3 rfl dX7_stepToward_10 ?_
      obtain ⟨r_1, h_2, h⟩ := q_b h
      refine h_callSi (st := []) [.int y1, .int y3] (m_X7_beside h_2) me_X7_beside tw_643 tw_644 (hdd_of (by decide)) ⟨Nat.zero_le _, Nat.zero_le _⟩ rfl rfl (Nat.le_of_ble_eq_true rfl) dX7_stepToward_11 ?_
      refine go_istore (l' := [(4, .int r_1.1), (0, .ref (ad 24)), (1, .int y1), (2, .int y2), (3, .int y3)]) dX7_stepToward_14 (by decide) rfl ?_
      refine go_iload 0 rfl dX7_stepToward_16 ?_
      refine go_iconst kz_iconst_m1 dX7_stepToward_18 ?_
      refine go_icmp_eq (tgt := 41) dX7_stepToward_19 rfl (fun hc => ?_) (fun hc => ?_)
      · replace h := q_t h hc
        refine h_iinc (l' := [(3, .int (y3 + 1)), (4, .int r_1.1), (0, .ref (ad 24)), (1, .int y1), (2, .int y2)]) dX7_stepToward_41 4 rfl kz_iconst_1 (by decide) rfl ?_
        refine go_goto (tgt := 4) dX7_stepToward_44 rfl ?_
        refine go_sub (l' := [(0, .ref (ad 24)), (1, .int y1), (2, .int y2), (3, .int (y3 + 1))]) [2, 3, 4, 0] rfl ?_
        exact ih _ _ _ _ h hk47
      · replace h := q_f h hc
        refine go_aload_n rfl 1 rfl dX7_stepToward_22 ?_
        refine h_getr 0 cl5 rfl (by decide) tw_179 25 rfl dX7_stepToward_23 ?_
        refine go_iload 0 rfl dX7_stepToward_26 ?_
        obtain ⟨hg_3, h⟩ := q_g h
        refine h_iald 49 rfl hg_3 dX7_stepToward_28 ?_
        refine go_aload_n rfl 1 rfl dX7_stepToward_29 ?_
        refine h_getr 0 cl5 rfl (by decide) tw_179 25 rfl dX7_stepToward_30 ?_
        refine go_iload_n rfl 3 rfl dX7_stepToward_33 ?_
        obtain ⟨hg_4, h⟩ := q_g h
        refine h_iald 49 rfl hg_4 dX7_stepToward_34 ?_
        refine go_icmp_ge (tgt := 41) dX7_stepToward_35 rfl (fun hc => ?_) (fun hc => ?_)
        · replace h := q_t h hc
          refine h_iinc (l' := [(3, .int (y3 + 1)), (4, .int r_1.1), (0, .ref (ad 24)), (1, .int y1), (2, .int y2)]) dX7_stepToward_41 4 rfl kz_iconst_1 (by decide) rfl ?_
          refine go_goto (tgt := 4) dX7_stepToward_44 rfl ?_
          refine go_sub (l' := [(0, .ref (ad 24)), (1, .int y1), (2, .int y2), (3, .int (y3 + 1))]) [2, 3, 4, 0] rfl ?_
          exact ih _ _ _ _ h hk47
        · replace h := q_f h hc
          refine go_iload 0 rfl dX7_stepToward_38 ?_
          refine go_istore_n (l' := [(2, .int r_1.1), (4, .int r_1.1), (0, .ref (ad 24)), (1, .int y1), (3, .int y3)]) dX7_stepToward_40 rfl (by decide) rfl ?_
          refine h_iinc (l' := [(3, .int (y3 + 1)), (2, .int r_1.1), (4, .int r_1.1), (0, .ref (ad 24)), (1, .int y1)]) dX7_stepToward_41 4 rfl kz_iconst_1 (by decide) rfl ?_
          refine go_goto (tgt := 4) dX7_stepToward_44 rfl ?_
          refine go_sub (l' := [(0, .ref (ad 24)), (1, .int y1), (2, .int r_1.1), (3, .int (y3 + 1))]) [3, 4, 1, 0] rfl ?_
          exact ih _ _ _ _ h hk47
set_option maxRecDepth 20000 in
set_option maxHeartbeats 2000000 in
theorem m_X7_stepToward {X : gX} {ad : Nat → Nat} {x1 : Int32} {ν : gN} {r : Int32 × gN}  (h : f_X7_stepToward x1 ν = some r) : h_ct X ad yX7_stepToward cX7_stepToward 5 ((Option.some .int)) 2 [.ref (ad 24), .int x1] ν (some (.int r.1), r.2) := by
  rw [f_X7_stepToward] at h
  refine h_ct_of (l := [(0, .ref (ad 24)), (1, .int x1)]) (by decide) (Nat.le_of_ble_eq_true rfl) rfl ?_
  refine go_iload_n rfl 1 rfl dX7_stepToward_0 ?_
  refine go_istore_n (l' := [(2, .int x1), (0, .ref (ad 24)), (1, .int x1)]) dX7_stepToward_1 rfl (by decide) rfl ?_
  refine go_iconst kz_iconst_0 dX7_stepToward_2 ?_
  refine go_istore_n (l' := [(3, .int 0), (2, .int x1), (0, .ref (ad 24)), (1, .int x1)]) dX7_stepToward_3 rfl (by decide) rfl ?_
  refine go_sub (l' := [(0, .ref (ad 24)), (1, .int x1), (2, .int x1), (3, .int 0)]) [2, 3, 1, 0] rfl ?_
  refine m_X7_stepToward_L4  FU _ _ _ _ h (fun z2_5 ν_6 h => ?_)
  refine go_iload_n rfl 0 rfl dX7_stepToward_47 ?_
  exact h_iret h dX7_stepToward_48 rfl
noncomputable def f_X7_chart_L13  (k47 : gN → Option (gN)) : Nat → Int32 → gN → Option (gN)
  | 0, _, _ => none
  | n + 1, y3, ν =>
    if 49 ≤ y3 then
      k47  ν
    else
      (f_X7_stepAway y3 ν).bind (fun r_3 =>
        if inb y3 49 = true then
          qL (nWI r_3.2 26 y3.toNatClampNeg r_3.1) (fun ν_6 =>
            (f_X7_stepToward y3 ν_6).bind (fun r_8 =>
              if inb y3 49 = true then
                qL (nWI r_8.2 27 y3.toNatClampNeg r_8.1) (fun ν_11 =>
                  f_X7_chart_L13 k47 n (y3 + 1) ν_11)
              else none))
        else none)
noncomputable def f_X7_chart (x1 : Int64) (ν : gN) : Option (gN) :=
  (f_X7_spread x1 24 25 ν).bind (fun r_1 =>
    f_X7_chart_L13  (fun ν_13 =>
      some ν_13) FU 0 r_1)
theorem me_X7_chart : g_me yX7_chart cX7_chart 4 (none) 1 := ⟨tw_635, tw_74, ⟨by decide +kernel, by decide +kernel, by decide +kernel⟩, by decide⟩
set_option maxRecDepth 20000 in
set_option maxHeartbeats 2000000 in
theorem m_X7_chart_L13 {X : gX} {ad : Nat → Nat}  {k47 : gN → Option (gN)}  : ∀ (n : Nat) (y3 : Int32) (ν : gN) (r : gN), f_X7_chart_L13 k47 n y3 ν = some r → (∀ (ν1 : gN), k47 ν1 = some r → h_go X ad RX7 "chart" cX7_chart 4 (none) 3 (none, r) 47 [] [] ν1) → h_go X ad RX7 "chart" cX7_chart 4 (none) 3 (none, r) 13 [(0, .ref (ad 24)), (3, .int y3)] [] ν := by
  intro n
  induction n with
  | zero => intro y3 ν r h hk47; rw [f_X7_chart_L13] at h; exact q_n h
  | succ n ih =>
    intro y3 ν r h hk47
    rw [f_X7_chart_L13] at h
    refine go_iload_n rfl 1 rfl dX7_chart_13 ?_
    refine go_bipush kz_bipush_49 dX7_chart_14 ?_
    refine go_icmp_ge (tgt := 47) dX7_chart_16 rfl (fun hc => ?_) (fun hc => ?_)
    · replace h := q_t h hc
      refine go_sub (l' := []) [] rfl ?_
      exact hk47  _ h
    · replace h := q_f h hc
      refine go_aload_n rfl 0 rfl dX7_chart_19 ?_
      refine h_getr 1 cl5 rfl (by decide) tw_182 26 rfl dX7_chart_20 ?_
      refine go_iload_n rfl 1 rfl dX7_chart_23 ?_
      refine go_aload_n rfl 0 rfl dX7_chart_24 ?_
      refine go_iload_n rfl 1 rfl dX7_chart_25 ?_
      obtain ⟨r_3, h_4, h⟩ := q_b h
      refine h_callVi (st := [.int y3, .ref (ad 26)]) [.int y3] (m_X7_stepAway h_4) me_X7_stepAway (g_recv cl5.1 rfl) tw_646 tw_648 tw_13 (hdd_of (by decide)) ⟨Nat.zero_le _, Nat.zero_le _⟩ rfl rfl (Nat.le_of_ble_eq_true rfl) dX7_chart_26 ?_
      obtain ⟨hg_5, h⟩ := q_g h
      obtain ⟨ν_6, e_7, h⟩ := q_l h
      refine h_iast 49 rfl hg_5 e_7 dX7_chart_29 ?_
      refine go_aload_n rfl 0 rfl dX7_chart_30 ?_
      refine h_getr 2 cl5 rfl (by decide) tw_183 27 rfl dX7_chart_31 ?_
      refine go_iload_n rfl 1 rfl dX7_chart_34 ?_
      refine go_aload_n rfl 0 rfl dX7_chart_35 ?_
      refine go_iload_n rfl 1 rfl dX7_chart_36 ?_
      obtain ⟨r_8, h_9, h⟩ := q_b h
      refine h_callVi (st := [.int y3, .ref (ad 27)]) [.int y3] (m_X7_stepToward h_9) me_X7_stepToward (g_recv cl5.1 rfl) tw_650 tw_652 tw_14 (hdd_of (by decide)) ⟨Nat.zero_le _, Nat.zero_le _⟩ rfl rfl (Nat.le_of_ble_eq_true rfl) dX7_chart_37 ?_
      obtain ⟨hg_10, h⟩ := q_g h
      obtain ⟨ν_11, e_12, h⟩ := q_l h
      refine h_iast 49 rfl hg_10 e_12 dX7_chart_40 ?_
      refine h_iinc (l' := [(3, .int (y3 + 1)), (0, .ref (ad 24))]) dX7_chart_41 1 rfl kz_iconst_1 (by decide) rfl ?_
      refine go_goto (tgt := 13) dX7_chart_44 rfl ?_
      refine go_sub (l' := [(0, .ref (ad 24)), (3, .int (y3 + 1))]) [1, 0] rfl ?_
      exact ih _ _ _ h hk47
set_option maxRecDepth 20000 in
set_option maxHeartbeats 2000000 in
theorem m_X7_chart {X : gX} {ad : Nat → Nat} {x1 : Int64} {ν : gN} {r : gN}  (h : f_X7_chart x1 ν = some r) : h_ct X ad yX7_chart cX7_chart 4 (none) 3 [.ref (ad 24), .long x1] ν (none, r) := by
  rw [f_X7_chart] at h
  refine h_ct_of (l := [(0, .ref (ad 24)), (1, .long x1)]) (by decide) (Nat.le_of_ble_eq_true rfl) rfl ?_
  refine go_aload_n rfl 0 rfl dX7_chart_0 ?_
  refine go_lload_n rfl 1 rfl dX7_chart_1 ?_
  refine go_bipush kz_bipush_24 dX7_chart_2 ?_
  refine go_aload_n rfl 0 rfl dX7_chart_4 ?_
  refine h_getr 0 cl5 rfl (by decide) tw_179 25 rfl dX7_chart_5 ?_
  obtain ⟨r_1, h_2, h⟩ := q_b h
  refine h_callVv (st := []) [.long x1, .int 24, .ref (ad 25)] (m_X7_spread rfl h_2) me_X7_spread (g_recv cl5.1 rfl) tw_636 tw_637 tw_638 (hdd_of (by decide)) ⟨Nat.zero_le _, Nat.zero_le _⟩ rfl rfl (Nat.le_of_ble_eq_true rfl) dX7_chart_8 ?_
  refine go_iconst kz_iconst_0 dX7_chart_11 ?_
  refine go_istore_n (l' := [(3, .int 0), (0, .ref (ad 24)), (1, .long x1)]) dX7_chart_12 rfl (by decide) rfl ?_
  refine go_sub (l' := [(0, .ref (ad 24)), (3, .int 0)]) [1, 0] rfl ?_
  refine m_X7_chart_L13  FU _ _ _ h (fun ν_13 h => ?_)
  exact h_vret h dX7_chart_47 rfl
noncomputable def f_X8_act (x1 : Int32) (x2 : Int32) (x3 : Int32) (ν : gN) : Option (Int32 × gN) :=
  (f_X1_forget  ν).bind (fun r_1 =>
    (f_X4_isPerson 1 x1 r_1).bind (fun r_3 =>
      if r_3.1 = 0 then
        some (0, r_3.2)
      else
        (f_X8_isBetween x2 0 2 r_3.2).bind (fun r_5 =>
          if r_5.1 = 0 then
            some (0, r_5.2)
          else
            (f_X1_perform 1 x1 x2 x3 r_5.2).bind (fun r_7 =>
              some (r_7.1, r_7.2)))))
theorem me_X8_act : g_me yX8_act cX8_act 4 ((Option.some .int)) 3 := ⟨tw_859, tw_72, ⟨by decide +kernel, by decide +kernel, by decide +kernel⟩, by decide⟩
set_option maxRecDepth 20000 in
set_option maxHeartbeats 2000000 in
theorem m_X8_act {X : gX} {ad : Nat → Nat} {x1 : Int32} {x2 : Int32} {x3 : Int32} {ν : gN} {r : Int32 × gN}  (h : f_X8_act x1 x2 x3 ν = some r) : h_ct X ad yX8_act cX8_act 4 ((Option.some .int)) 31 [.ref (ad 0), .int x1, .int x2, .int x3] ν (some (.int r.1), r.2) := by
  rw [f_X8_act] at h
  refine h_ct_of (l := [(0, .ref (ad 0)), (1, .int x1), (2, .int x2), (3, .int x3)]) (by decide) (Nat.le_of_ble_eq_true rfl) rfl ?_
  refine go_aload_n rfl 0 rfl dX8_act_0 ?_
  refine h_getr 8 cl6 rfl (by decide) tw_287 35 rfl dX8_act_1 ?_
  obtain ⟨r_1, h_2, h⟩ := q_b h
  refine h_callVv (st := []) [] (m_X1_forget h_2) me_X1_forget (g_recv cl0.1 rfl) tw_860 tw_861 tw_862 (hdd_of (by decide)) ⟨Nat.zero_le _, Nat.zero_le _⟩ rfl rfl (Nat.le_of_ble_eq_true rfl) dX8_act_4 ?_
  refine go_aload_n rfl 0 rfl dX8_act_7 ?_
  refine h_getr 0 cl6 rfl (by decide) tw_279 1 rfl dX8_act_8 ?_
  refine go_iload_n rfl 1 rfl dX8_act_11 ?_
  obtain ⟨r_3, h_4, h⟩ := q_b h
  refine h_callVi (st := []) [.int x1] (m_X4_isPerson isP_1 h_4) me_X4_isPerson (g_recv cl2.1 rfl) tw_386 tw_387 tw_388 (hdd_of (by decide)) ⟨Nat.zero_le _, Nat.zero_le _⟩ rfl rfl (Nat.le_of_ble_eq_true rfl) dX8_act_12 ?_
  refine go_if_eq (tgt := 27) dX8_act_15 rfl (fun hc => ?_) (fun hc => ?_)
  · replace h := q_t h hc
    refine go_iconst kz_iconst_0 dX8_act_27 ?_
    exact h_iret h dX8_act_28 rfl
  · replace h := q_f h hc
    refine go_iload_n rfl 2 rfl dX8_act_18 ?_
    refine go_iconst kz_iconst_0 dX8_act_19 ?_
    refine go_iconst kz_iconst_2 dX8_act_20 ?_
    obtain ⟨r_5, h_6, h⟩ := q_b h
    refine h_callSi (st := []) [.int x2, .int 0, .int 2] (m_X8_isBetween h_6) me_X8_isBetween tw_320 tw_321 (hdd_of (by decide)) ⟨Nat.zero_le _, Nat.zero_le _⟩ rfl rfl (Nat.le_of_ble_eq_true rfl) dX8_act_21 ?_
    refine go_if_ne (tgt := 29) dX8_act_24 rfl (fun hc => ?_) (fun hc => ?_)
    · replace h := q_f h hc
      refine go_aload_n rfl 0 rfl dX8_act_29 ?_
      refine h_getr 8 cl6 rfl (by decide) tw_287 35 rfl dX8_act_30 ?_
      refine go_aload_n rfl 0 rfl dX8_act_33 ?_
      refine h_getr 0 cl6 rfl (by decide) tw_279 1 rfl dX8_act_34 ?_
      refine go_iload_n rfl 1 rfl dX8_act_37 ?_
      refine go_iload_n rfl 2 rfl dX8_act_38 ?_
      refine go_iload_n rfl 3 rfl dX8_act_39 ?_
      obtain ⟨r_7, h_8, h⟩ := q_b h
      refine h_callVi (st := []) [.ref (ad 1), .int x1, .int x2, .int x3] (m_X1_perform isP_1 h_8) me_X1_perform (g_recv cl0.1 rfl) tw_864 tw_865 tw_866 (hdd_of (by decide)) ⟨Nat.zero_le _, Nat.zero_le _⟩ rfl rfl (Nat.le_of_ble_eq_true rfl) dX8_act_40 ?_
      exact h_iret h dX8_act_43 rfl
    · replace h := q_t h hc
      refine go_iconst kz_iconst_0 dX8_act_27 ?_
      exact h_iret h dX8_act_28 rfl
noncomputable def f_X8_areOfTwoSorts (s0 : Nat) (s1 : Nat) (ν : gN) : Option (Int32 × gN) :=
  (f_X6_hasRow s0 ν).bind (fun r_1 =>
    if r_1.1 = 0 then
      some (0, r_1.2)
    else
      (f_X6_hasRow s1 r_1.2).bind (fun r_3 =>
        if r_3.1 = 0 then
          some (0, r_3.2)
        else
          if (r_3.2.1 s0 1) = (r_3.2.1 s1 1) then
            some (0, r_3.2)
          else
            some (1, r_3.2)))
theorem me_X8_areOfTwoSorts : g_me yX8_areOfTwoSorts cX8_areOfTwoSorts 2 ((Option.some .boolean)) 2 := ⟨tw_365, tw_72, ⟨by decide +kernel, by decide +kernel, by decide +kernel⟩, by decide⟩
set_option maxRecDepth 20000 in
set_option maxHeartbeats 2000000 in
theorem m_X8_areOfTwoSorts {X : gX} {ad : Nat → Nat} {s0 : Nat} {s1 : Nat} {ν : gN} {r : Int32 × gN} (hs0 : isS s0) (hs1 : isS s1) (h : f_X8_areOfTwoSorts s0 s1 ν = some r) : h_ct X ad yX8_areOfTwoSorts cX8_areOfTwoSorts 2 ((Option.some .boolean)) 2 [.ref (ad s0), .ref (ad s1)] ν (some (.int r.1), r.2) := by
  rw [f_X8_areOfTwoSorts] at h
  refine h_ct_of (l := [(0, .ref (ad s0)), (1, .ref (ad s1))]) (by decide) (Nat.le_of_ble_eq_true rfl) rfl ?_
  refine go_aload_n rfl 0 rfl dX8_areOfTwoSorts_0 ?_
  obtain ⟨r_1, h_2, h⟩ := q_b h
  refine h_callVi (st := []) [] (m_X6_hasRow hs0 h_2) me_X6_hasRow (g_recv cl4.1 (shS hs0)) tw_346 tw_347 tw_348 (hdd_of (by decide)) ⟨Nat.zero_le _, Nat.zero_le _⟩ rfl rfl (Nat.le_of_ble_eq_true rfl) dX8_areOfTwoSorts_1 ?_
  refine go_if_eq (tgt := 29) dX8_areOfTwoSorts_4 rfl (fun hc => ?_) (fun hc => ?_)
  · replace h := q_t h hc
    refine go_iconst kz_iconst_0 dX8_areOfTwoSorts_29 ?_
    exact h_zret rfl h dX8_areOfTwoSorts_30 rfl
  · replace h := q_f h hc
    refine go_aload_n rfl 1 rfl dX8_areOfTwoSorts_7 ?_
    obtain ⟨r_3, h_4, h⟩ := q_b h
    refine h_callVi (st := []) [] (m_X6_hasRow hs1 h_4) me_X6_hasRow (g_recv cl4.1 (shS hs1)) tw_346 tw_347 tw_348 (hdd_of (by decide)) ⟨Nat.zero_le _, Nat.zero_le _⟩ rfl rfl (Nat.le_of_ble_eq_true rfl) dX8_areOfTwoSorts_8 ?_
    refine go_if_eq (tgt := 29) dX8_areOfTwoSorts_11 rfl (fun hc => ?_) (fun hc => ?_)
    · replace h := q_t h hc
      refine go_iconst kz_iconst_0 dX8_areOfTwoSorts_29 ?_
      exact h_zret rfl h dX8_areOfTwoSorts_30 rfl
    · replace h := q_f h hc
      refine go_aload_n rfl 0 rfl dX8_areOfTwoSorts_14 ?_
      refine h_getiN 1 cl4 (shS hs0) (by decide) tw_268 rfl dX8_areOfTwoSorts_15 ?_
      refine go_aload_n rfl 1 rfl dX8_areOfTwoSorts_18 ?_
      refine h_getiN 1 cl4 (shS hs1) (by decide) tw_268 rfl dX8_areOfTwoSorts_19 ?_
      refine go_icmp_eq (tgt := 29) dX8_areOfTwoSorts_22 rfl (fun hc => ?_) (fun hc => ?_)
      · replace h := q_t h hc
        refine go_iconst kz_iconst_0 dX8_areOfTwoSorts_29 ?_
        exact h_zret rfl h dX8_areOfTwoSorts_30 rfl
      · replace h := q_f h hc
        refine go_iconst kz_iconst_1 dX8_areOfTwoSorts_25 ?_
        refine go_goto (tgt := 30) dX8_areOfTwoSorts_26 rfl ?_
        exact h_zret rfl h dX8_areOfTwoSorts_30 rfl
noncomputable def f_X8_refuse (x1 : Int32) (ν : gN) : Option (Int32 × gN) :=
  if inb x1 8 = true then
    if inb x1 8 = true then
      qL (nWI ν 23 x1.toNatClampNeg ((ν.1 23 x1.toNatClampNeg) + 1)) (fun ν_3 =>
        some (-x1, ν_3))
    else none
  else none
theorem me_X8_refuse : g_me yX8_refuse cX8_refuse 2 ((Option.some .int)) 1 := ⟨tw_326, tw_72, ⟨by decide +kernel, by decide +kernel, by decide +kernel⟩, by decide⟩
set_option maxRecDepth 20000 in
set_option maxHeartbeats 2000000 in
theorem m_X8_refuse {X : gX} {ad : Nat → Nat} {x1 : Int32} {ν : gN} {r : Int32 × gN}  (h : f_X8_refuse x1 ν = some r) : h_ct X ad yX8_refuse cX8_refuse 2 ((Option.some .int)) 1 [.ref (ad 0), .int x1] ν (some (.int r.1), r.2) := by
  rw [f_X8_refuse] at h
  refine h_ct_of (l := [(0, .ref (ad 0)), (1, .int x1)]) (by decide) (Nat.le_of_ble_eq_true rfl) rfl ?_
  refine go_aload_n rfl 0 rfl dX8_refuse_0 ?_
  refine h_getr 4 cl6 rfl (by decide) tw_283 23 rfl dX8_refuse_1 ?_
  refine go_iload_n rfl 1 rfl dX8_refuse_4 ?_
  refine go_dup2 rfl rfl dX8_refuse_5 ?_
  obtain ⟨hg_1, h⟩ := q_g h
  refine h_iald 8 rfl hg_1 dX8_refuse_6 ?_
  refine go_iconst kz_iconst_1 dX8_refuse_7 ?_
  refine go_iadd dX8_refuse_8 ?_
  obtain ⟨hg_2, h⟩ := q_g h
  obtain ⟨ν_3, e_4, h⟩ := q_l h
  refine h_iast 8 rfl hg_2 e_4 dX8_refuse_9 ?_
  refine go_iload_n rfl 1 rfl dX8_refuse_10 ?_
  refine go_ineg dX8_refuse_11 ?_
  exact h_iret h dX8_refuse_12 rfl
noncomputable def f_X8_ask (x1 : Int32) (x2 : Int32) (ν : gN) : Option (Int32 × gN) :=
  if x1 = 0 then
    (f_X8_isBetween x2 1 4 ν).bind (fun r_9 =>
      if r_9.1 = 0 then
        if x1 = 1 then
          (f_X8_isBetween x2 0 40 r_9.2).bind (fun r_13 =>
            if r_13.1 = 0 then
              (f_X8_refuse 6 r_13.2).bind (fun r_15 =>
                some (r_15.1, r_15.2))
            else
              qL (nWI r_13.2 1 9 x2) (fun ν_17 =>
                some (r_13.2.1 1 9, ν_17)))
        else
          (f_X8_refuse 6 r_9.2).bind (fun r_11 =>
            some (r_11.1, r_11.2))
      else
        qL (nWI r_9.2 1 8 x2) (fun ν_19 =>
          some (r_9.2.1 1 8, ν_19)))
  else
    if x1 = 1 then
      (f_X8_isBetween x2 0 40 ν).bind (fun r_3 =>
        if r_3.1 = 0 then
          (f_X8_refuse 6 r_3.2).bind (fun r_5 =>
            some (r_5.1, r_5.2))
        else
          qL (nWI r_3.2 1 9 x2) (fun ν_7 =>
            some (r_3.2.1 1 9, ν_7)))
    else
      (f_X8_refuse 6 ν).bind (fun r_1 =>
        some (r_1.1, r_1.2))
theorem me_X8_ask : g_me yX8_ask cX8_ask 4 ((Option.some .int)) 2 := ⟨tw_478, tw_72, ⟨by decide +kernel, by decide +kernel, by decide +kernel⟩, by decide⟩
set_option maxRecDepth 20000 in
set_option maxHeartbeats 2000000 in
theorem m_X8_ask {X : gX} {ad : Nat → Nat} {x1 : Int32} {x2 : Int32} {ν : gN} {r : Int32 × gN}  (h : f_X8_ask x1 x2 ν = some r) : h_ct X ad yX8_ask cX8_ask 4 ((Option.some .int)) 2 [.ref (ad 0), .int x1, .int x2] ν (some (.int r.1), r.2) := by
  rw [f_X8_ask] at h
  refine h_ct_of (l := [(0, .ref (ad 0)), (1, .int x1), (2, .int x2)]) (by decide) (Nat.le_of_ble_eq_true rfl) rfl ?_
  refine go_iload_n rfl 1 rfl dX8_ask_0 ?_
  refine go_if_ne (tgt := 31) dX8_ask_1 rfl (fun hc => ?_) (fun hc => ?_)
  · replace h := q_f h hc
    refine go_iload_n rfl 1 rfl dX8_ask_31 ?_
    refine go_iconst kz_iconst_1 dX8_ask_32 ?_
    refine go_icmp_ne (tgt := 64) dX8_ask_33 rfl (fun hc => ?_) (fun hc => ?_)
    · replace h := q_f h hc
      refine go_aload_n rfl 0 rfl dX8_ask_64 ?_
      refine go_bipush kz_bipush_6 dX8_ask_65 ?_
      obtain ⟨r_1, h_2, h⟩ := q_b h
      refine h_callVi (st := []) [.int 6] (m_X8_refuse h_2) me_X8_refuse (g_recv cl6.1 rfl) tw_323 tw_325 tw_0 (hdd_of (by decide)) ⟨Nat.zero_le _, Nat.zero_le _⟩ rfl rfl (Nat.le_of_ble_eq_true rfl) dX8_ask_67 ?_
      exact h_iret h dX8_ask_70 rfl
    · replace h := q_t h hc
      refine go_iload_n rfl 2 rfl dX8_ask_36 ?_
      refine go_iconst kz_iconst_0 dX8_ask_37 ?_
      refine go_bipush kz_bipush_40 dX8_ask_38 ?_
      obtain ⟨r_3, h_4, h⟩ := q_b h
      refine h_callSi (st := []) [.int x2, .int 0, .int 40] (m_X8_isBetween h_4) me_X8_isBetween tw_320 tw_321 (hdd_of (by decide)) ⟨Nat.zero_le _, Nat.zero_le _⟩ rfl rfl (Nat.le_of_ble_eq_true rfl) dX8_ask_40 ?_
      refine go_if_eq (tgt := 64) dX8_ask_43 rfl (fun hc => ?_) (fun hc => ?_)
      · replace h := q_t h hc
        refine go_aload_n rfl 0 rfl dX8_ask_64 ?_
        refine go_bipush kz_bipush_6 dX8_ask_65 ?_
        obtain ⟨r_5, h_6, h⟩ := q_b h
        refine h_callVi (st := []) [.int 6] (m_X8_refuse h_6) me_X8_refuse (g_recv cl6.1 rfl) tw_323 tw_325 tw_0 (hdd_of (by decide)) ⟨Nat.zero_le _, Nat.zero_le _⟩ rfl rfl (Nat.le_of_ble_eq_true rfl) dX8_ask_67 ?_
        exact h_iret h dX8_ask_70 rfl
      · replace h := q_f h hc
        refine go_aload_n rfl 0 rfl dX8_ask_46 ?_
        refine h_getr 0 cl6 rfl (by decide) tw_279 1 rfl dX8_ask_47 ?_
        refine h_getiN 9 cl2 rfl (by decide) tw_135 rfl dX8_ask_50 ?_
        refine go_istore_n (l' := [(3, .int (r_3.2.1 1 9)), (0, .ref (ad 0)), (1, .int x1), (2, .int x2)]) dX8_ask_53 rfl (by decide) rfl ?_
        refine go_aload_n rfl 1 rfl dX8_ask_54 ?_
        refine h_getr 0 cl6 rfl (by decide) tw_279 1 rfl dX8_ask_55 ?_
        refine go_iload_n rfl 3 rfl dX8_ask_58 ?_
        obtain ⟨ν_7, e_8, h⟩ := q_l h
        refine h_putiN 9 cl2 rfl (by decide) tw_135 rfl rfl e_8 dX8_ask_59 ?_
        refine go_iload_n rfl 0 rfl dX8_ask_62 ?_
        exact h_iret h dX8_ask_63 rfl
  · replace h := q_t h hc
    refine go_iload_n rfl 2 rfl dX8_ask_4 ?_
    refine go_iconst kz_iconst_1 dX8_ask_5 ?_
    refine go_iconst kz_iconst_4 dX8_ask_6 ?_
    obtain ⟨r_9, h_10, h⟩ := q_b h
    refine h_callSi (st := []) [.int x2, .int 1, .int 4] (m_X8_isBetween h_10) me_X8_isBetween tw_320 tw_321 (hdd_of (by decide)) ⟨Nat.zero_le _, Nat.zero_le _⟩ rfl rfl (Nat.le_of_ble_eq_true rfl) dX8_ask_7 ?_
    refine go_if_eq (tgt := 31) dX8_ask_10 rfl (fun hc => ?_) (fun hc => ?_)
    · replace h := q_t h hc
      refine go_iload_n rfl 1 rfl dX8_ask_31 ?_
      refine go_iconst kz_iconst_1 dX8_ask_32 ?_
      refine go_icmp_ne (tgt := 64) dX8_ask_33 rfl (fun hc => ?_) (fun hc => ?_)
      · replace h := q_f h hc
        refine go_aload_n rfl 0 rfl dX8_ask_64 ?_
        refine go_bipush kz_bipush_6 dX8_ask_65 ?_
        obtain ⟨r_11, h_12, h⟩ := q_b h
        refine h_callVi (st := []) [.int 6] (m_X8_refuse h_12) me_X8_refuse (g_recv cl6.1 rfl) tw_323 tw_325 tw_0 (hdd_of (by decide)) ⟨Nat.zero_le _, Nat.zero_le _⟩ rfl rfl (Nat.le_of_ble_eq_true rfl) dX8_ask_67 ?_
        exact h_iret h dX8_ask_70 rfl
      · replace h := q_t h hc
        refine go_iload_n rfl 2 rfl dX8_ask_36 ?_
        refine go_iconst kz_iconst_0 dX8_ask_37 ?_
        refine go_bipush kz_bipush_40 dX8_ask_38 ?_
        obtain ⟨r_13, h_14, h⟩ := q_b h
        refine h_callSi (st := []) [.int x2, .int 0, .int 40] (m_X8_isBetween h_14) me_X8_isBetween tw_320 tw_321 (hdd_of (by decide)) ⟨Nat.zero_le _, Nat.zero_le _⟩ rfl rfl (Nat.le_of_ble_eq_true rfl) dX8_ask_40 ?_
        refine go_if_eq (tgt := 64) dX8_ask_43 rfl (fun hc => ?_) (fun hc => ?_)
        · replace h := q_t h hc
          refine go_aload_n rfl 0 rfl dX8_ask_64 ?_
          refine go_bipush kz_bipush_6 dX8_ask_65 ?_
          obtain ⟨r_15, h_16, h⟩ := q_b h
          refine h_callVi (st := []) [.int 6] (m_X8_refuse h_16) me_X8_refuse (g_recv cl6.1 rfl) tw_323 tw_325 tw_0 (hdd_of (by decide)) ⟨Nat.zero_le _, Nat.zero_le _⟩ rfl rfl (Nat.le_of_ble_eq_true rfl) dX8_ask_67 ?_
          exact h_iret h dX8_ask_70 rfl
        · replace h := q_f h hc
          refine go_aload_n rfl 0 rfl dX8_ask_46 ?_
          refine h_getr 0 cl6 rfl (by decide) tw_279 1 rfl dX8_ask_47 ?_
          refine h_getiN 9 cl2 rfl (by decide) tw_135 rfl dX8_ask_50 ?_
          refine go_istore_n (l' := [(3, .int (r_13.2.1 1 9)), (0, .ref (ad 0)), (1, .int x1), (2, .int x2)]) dX8_ask_53 rfl (by decide) rfl ?_
          refine go_aload_n rfl 1 rfl dX8_ask_54 ?_
          refine h_getr 0 cl6 rfl (by decide) tw_279 1 rfl dX8_ask_55 ?_
          refine go_iload_n rfl 3 rfl dX8_ask_58 ?_
          obtain ⟨ν_17, e_18, h⟩ := q_l h
          refine h_putiN 9 cl2 rfl (by decide) tw_135 rfl rfl e_18 dX8_ask_59 ?_
          refine go_iload_n rfl 0 rfl dX8_ask_62 ?_
          exact h_iret h dX8_ask_63 rfl
    · replace h := q_f h hc
      refine go_aload_n rfl 0 rfl dX8_ask_13 ?_
      refine h_getr 0 cl6 rfl (by decide) tw_279 1 rfl dX8_ask_14 ?_
      refine h_getiN 8 cl2 rfl (by decide) tw_131 rfl dX8_ask_17 ?_
      refine go_istore_n (l' := [(3, .int (r_9.2.1 1 8)), (0, .ref (ad 0)), (1, .int x1), (2, .int x2)]) dX8_ask_20 rfl (by decide) rfl ?_
      refine go_aload_n rfl 1 rfl dX8_ask_21 ?_
      refine h_getr 0 cl6 rfl (by decide) tw_279 1 rfl dX8_ask_22 ?_
      refine go_iload_n rfl 3 rfl dX8_ask_25 ?_
      obtain ⟨ν_19, e_20, h⟩ := q_l h
      refine h_putiN 8 cl2 rfl (by decide) tw_131 rfl rfl e_20 dX8_ask_26 ?_
      refine go_iload_n rfl 0 rfl dX8_ask_29 ?_
      exact h_iret h dX8_ask_30 rfl
noncomputable def f_X8_refuseApart (x1 : Int32) (ν : gN) : Option (Int32 × gN) :=
  if inb x1 8 = true then
    if inb x1 8 = true then
      qL (nWI ν 23 x1.toNatClampNeg ((ν.1 23 x1.toNatClampNeg) + 1)) (fun ν_3 =>
        some ((-10) - x1, ν_3))
    else none
  else none
theorem me_X8_refuseApart : g_me yX8_refuseApart cX8_refuseApart 2 ((Option.some .int)) 1 := ⟨tw_716, tw_72, ⟨by decide +kernel, by decide +kernel, by decide +kernel⟩, by decide⟩
set_option maxRecDepth 20000 in
set_option maxHeartbeats 2000000 in
theorem m_X8_refuseApart {X : gX} {ad : Nat → Nat} {x1 : Int32} {ν : gN} {r : Int32 × gN}  (h : f_X8_refuseApart x1 ν = some r) : h_ct X ad yX8_refuseApart cX8_refuseApart 2 ((Option.some .int)) 1 [.ref (ad 0), .int x1] ν (some (.int r.1), r.2) := by
  rw [f_X8_refuseApart] at h
  refine h_ct_of (l := [(0, .ref (ad 0)), (1, .int x1)]) (by decide) (Nat.le_of_ble_eq_true rfl) rfl ?_
  refine go_aload_n rfl 0 rfl dX8_refuseApart_0 ?_
  refine h_getr 4 cl6 rfl (by decide) tw_283 23 rfl dX8_refuseApart_1 ?_
  refine go_iload_n rfl 1 rfl dX8_refuseApart_4 ?_
  refine go_dup2 rfl rfl dX8_refuseApart_5 ?_
  obtain ⟨hg_1, h⟩ := q_g h
  refine h_iald 8 rfl hg_1 dX8_refuseApart_6 ?_
  refine go_iconst kz_iconst_1 dX8_refuseApart_7 ?_
  refine go_iadd dX8_refuseApart_8 ?_
  obtain ⟨hg_2, h⟩ := q_g h
  obtain ⟨ν_3, e_4, h⟩ := q_l h
  refine h_iast 8 rfl hg_2 e_4 dX8_refuseApart_9 ?_
  refine go_bipush kz_bipush_m10 dX8_refuseApart_10 ?_
  refine go_iload_n rfl 1 rfl dX8_refuseApart_12 ?_
  refine go_isub dX8_refuseApart_13 ?_
  exact h_iret h dX8_refuseApart_14 rfl
noncomputable def f_X8_bell_L25 (y1 : Int32) (k76 : Int32 → gN → Option (Int32 × gN)) : Nat → Int32 → Int32 → Int32 → gN → Option (Int32 × gN)
  | 0, _, _, _, _ => none
  | n + 1, y2, y3, y4, ν =>
    if 40 < y4 then
      k76 y2 ν
    else
      (f_X4_smellingAbove 1 y4 ν).bind (fun r_3 =>
        (f_X8_isIn r_3.1 y1 r_3.2).bind (fun r_5 =>
          if r_5.1 = 0 then
            f_X8_bell_L25 y1 k76 n y2 y3 (y4 + 1) r_5.2
          else
            (f_J6_bitCount_0f7a4 r_3.1 r_5.2).bind (fun r_7 =>
              if y3 ≤ r_7.1 then
                f_X8_bell_L25 y1 k76 n y2 y3 (y4 + 1) r_7.2
              else
                (f_J6_bitCount_0f7a4 r_3.1 r_7.2).bind (fun r_9 =>
                  f_X8_bell_L25 y1 k76 n y4 r_9.1 (y4 + 1) r_9.2))))
noncomputable def f_X8_bell (x1 : Int32) (ν : gN) : Option (Int32 × gN) :=
  (f_X4_isPerson 1 x1 ν).bind (fun r_1 =>
    if r_1.1 = 0 then
      (f_X8_refuseApart 1 r_1.2).bind (fun r_13 =>
        some (r_13.1, r_13.2))
    else
      f_X8_bell_L25 x1 (fun z2_11 ν_12 =>
        some (z2_11, ν_12)) FU (-1) 8 0 r_1.2)
theorem me_X8_bell : g_me yX8_bell cX8_bell 6 ((Option.some .int)) 1 := ⟨tw_812, tw_72, ⟨by decide +kernel, by decide +kernel, by decide +kernel⟩, by decide⟩
set_option maxRecDepth 20000 in
set_option maxHeartbeats 2000000 in
theorem m_X8_bell_L25 {X : gX} {ad : Nat → Nat} {y1 : Int32} {k76 : Int32 → gN → Option (Int32 × gN)}  : ∀ (n : Nat) (y2 : Int32) (y3 : Int32) (y4 : Int32) (ν : gN) (r : Int32 × gN), f_X8_bell_L25 y1 k76 n y2 y3 y4 ν = some r → (∀ (z2 : Int32) (ν1 : gN), k76 z2 ν1 = some r → h_go X ad RX8 "bell" cX8_bell 6 ((Option.some .int)) 4 (some (.int r.1), r.2) 76 [(2, .int z2)] [] ν1) → h_go X ad RX8 "bell" cX8_bell 6 ((Option.some .int)) 4 (some (.int r.1), r.2) 25 [(0, .ref (ad 0)), (1, .int y1), (2, .int y2), (3, .int y3), (4, .int y4)] [] ν := by
  intro n
  induction n with
  | zero => intro y2 y3 y4 ν r h hk76; rw [f_X8_bell_L25] at h; exact q_n h
  | succ n ih =>
    intro y2 y3 y4 ν r h hk76
    rw [f_X8_bell_L25] at h
    refine go_iload 4 rfl dX8_bell_25 ?_
    refine go_bipush kz_bipush_40 dX8_bell_27 ?_
    refine go_icmp_gt (tgt := 76) dX8_bell_29 rfl (fun hc => ?_) (fun hc => ?_)
    · replace h := q_t h hc
      refine go_sub (l' := [(2, .int y2)]) [2] rfl ?_
      exact hk76 _ _ h
    · replace h := q_f h hc
      refine go_aload_n rfl 0 rfl dX8_bell_32 ?_
      refine h_getr 0 cl6 rfl (by decide) tw_279 1 rfl dX8_bell_33 ?_
      refine go_iload 4 rfl dX8_bell_36 ?_
      obtain ⟨r_3, h_4, h⟩ := q_b h
      refine h_callVi (st := []) [.int y4] (m_X4_smellingAbove isP_1 h_4) me_X4_smellingAbove (g_recv cl2.1 rfl) tw_693 tw_683 tw_684 (hdd_of (by decide)) ⟨Nat.zero_le _, Nat.zero_le _⟩ rfl rfl (Nat.le_of_ble_eq_true rfl) dX8_bell_38 ?_
      refine go_istore (l' := [(5, .int r_3.1), (0, .ref (ad 0)), (1, .int y1), (2, .int y2), (3, .int y3), (4, .int y4)]) dX8_bell_41 (by decide) rfl ?_
      refine go_iload 0 rfl dX8_bell_43 ?_
      refine go_iload_n rfl 2 rfl dX8_bell_45 ?_
      obtain ⟨r_5, h_6, h⟩ := q_b h
      refine h_callSi (st := []) [.int r_3.1, .int y1] (m_X8_isIn h_6) me_X8_isIn tw_726 tw_691 (hdd_of (by decide)) ⟨Nat.zero_le _, Nat.zero_le _⟩ rfl rfl (Nat.le_of_ble_eq_true rfl) dX8_bell_46 ?_
      refine go_if_eq (tgt := 70) dX8_bell_49 rfl (fun hc => ?_) (fun hc => ?_)
      · replace h := q_t h hc
        refine h_iinc (l' := [(4, .int (y4 + 1)), (5, .int r_3.1), (0, .ref (ad 0)), (1, .int y1), (2, .int y2), (3, .int y3)]) dX8_bell_70 5 rfl kz_iconst_1 (by decide) rfl ?_
        refine go_goto (tgt := 25) dX8_bell_73 rfl ?_
        refine go_sub (l' := [(0, .ref (ad 0)), (1, .int y1), (2, .int y2), (3, .int y3), (4, .int (y4 + 1))]) [2, 3, 4, 5, 0] rfl ?_
        exact ih _ _ _ _ _ h hk76
      · replace h := q_f h hc
        refine go_iload 0 rfl dX8_bell_52 ?_
        obtain ⟨r_7, h_8, h⟩ := q_b h
        refine h_callSi (st := []) [.int r_3.1] (m_J6_bitCount_0f7a4 h_8) me_J6_bitCount_0f7a4 tw_813 tw_795 (hdd_of (by decide)) ⟨Nat.zero_le _, Nat.zero_le _⟩ rfl rfl (Nat.le_of_ble_eq_true rfl) dX8_bell_54 ?_
        refine go_iload_n rfl 4 rfl dX8_bell_57 ?_
        refine go_icmp_ge (tgt := 70) dX8_bell_58 rfl (fun hc => ?_) (fun hc => ?_)
        · replace h := q_t h hc
          refine h_iinc (l' := [(4, .int (y4 + 1)), (5, .int r_3.1), (0, .ref (ad 0)), (1, .int y1), (2, .int y2), (3, .int y3)]) dX8_bell_70 5 rfl kz_iconst_1 (by decide) rfl ?_
          refine go_goto (tgt := 25) dX8_bell_73 rfl ?_
          refine go_sub (l' := [(0, .ref (ad 0)), (1, .int y1), (2, .int y2), (3, .int y3), (4, .int (y4 + 1))]) [2, 3, 4, 5, 0] rfl ?_
          exact ih _ _ _ _ _ h hk76
        · replace h := q_f h hc
          refine go_iload 5 rfl dX8_bell_61 ?_
          refine go_istore_n (l' := [(2, .int y4), (5, .int r_3.1), (0, .ref (ad 0)), (1, .int y1), (3, .int y3), (4, .int y4)]) dX8_bell_63 rfl (by decide) rfl ?_
          refine go_iload 1 rfl dX8_bell_64 ?_
          obtain ⟨r_9, h_10, h⟩ := q_b h
          refine h_callSi (st := []) [.int r_3.1] (m_J6_bitCount_0f7a4 h_10) me_J6_bitCount_0f7a4 tw_813 tw_795 (hdd_of (by decide)) ⟨Nat.zero_le _, Nat.zero_le _⟩ rfl rfl (Nat.le_of_ble_eq_true rfl) dX8_bell_66 ?_
          refine go_istore_n (l' := [(3, .int r_9.1), (2, .int y4), (5, .int r_3.1), (0, .ref (ad 0)), (1, .int y1), (4, .int y4)]) dX8_bell_69 rfl (by decide) rfl ?_
          refine h_iinc (l' := [(4, .int (y4 + 1)), (3, .int r_9.1), (2, .int y4), (5, .int r_3.1), (0, .ref (ad 0)), (1, .int y1)]) dX8_bell_70 5 rfl kz_iconst_1 (by decide) rfl ?_
          refine go_goto (tgt := 25) dX8_bell_73 rfl ?_
          refine go_sub (l' := [(0, .ref (ad 0)), (1, .int y1), (2, .int y4), (3, .int r_9.1), (4, .int (y4 + 1))]) [4, 5, 2, 1, 0] rfl ?_
          exact ih _ _ _ _ _ h hk76
set_option maxRecDepth 20000 in
set_option maxHeartbeats 2000000 in
theorem m_X8_bell {X : gX} {ad : Nat → Nat} {x1 : Int32} {ν : gN} {r : Int32 × gN}  (h : f_X8_bell x1 ν = some r) : h_ct X ad yX8_bell cX8_bell 6 ((Option.some .int)) 4 [.ref (ad 0), .int x1] ν (some (.int r.1), r.2) := by
  rw [f_X8_bell] at h
  refine h_ct_of (l := [(0, .ref (ad 0)), (1, .int x1)]) (by decide) (Nat.le_of_ble_eq_true rfl) rfl ?_
  refine go_aload_n rfl 0 rfl dX8_bell_0 ?_
  refine h_getr 0 cl6 rfl (by decide) tw_279 1 rfl dX8_bell_1 ?_
  refine go_iload_n rfl 1 rfl dX8_bell_4 ?_
  obtain ⟨r_1, h_2, h⟩ := q_b h
  refine h_callVi (st := []) [.int x1] (m_X4_isPerson isP_1 h_2) me_X4_isPerson (g_recv cl2.1 rfl) tw_386 tw_387 tw_388 (hdd_of (by decide)) ⟨Nat.zero_le _, Nat.zero_le _⟩ rfl rfl (Nat.le_of_ble_eq_true rfl) dX8_bell_5 ?_
  refine go_if_ne (tgt := 17) dX8_bell_8 rfl (fun hc => ?_) (fun hc => ?_)
  · replace h := q_f h hc
    refine go_iconst kz_iconst_m1 dX8_bell_17 ?_
    refine go_istore_n (l' := [(2, .int (-1)), (0, .ref (ad 0)), (1, .int x1)]) dX8_bell_18 rfl (by decide) rfl ?_
    refine go_bipush kz_bipush_8 dX8_bell_19 ?_
    refine go_istore_n (l' := [(3, .int 8), (2, .int (-1)), (0, .ref (ad 0)), (1, .int x1)]) dX8_bell_21 rfl (by decide) rfl ?_
    refine go_iconst kz_iconst_0 dX8_bell_22 ?_
    refine go_istore (l' := [(4, .int 0), (3, .int 8), (2, .int (-1)), (0, .ref (ad 0)), (1, .int x1)]) dX8_bell_23 (by decide) rfl ?_
    refine go_sub (l' := [(0, .ref (ad 0)), (1, .int x1), (2, .int (-1)), (3, .int 8), (4, .int 0)]) [3, 4, 2, 1, 0] rfl ?_
    refine m_X8_bell_L25  FU _ _ _ _ _ h (fun z2_11 ν_12 h => ?_)
    refine go_iload_n rfl 0 rfl dX8_bell_76 ?_
    exact h_iret h dX8_bell_77 rfl
  · replace h := q_t h hc
    refine go_aload_n rfl 0 rfl dX8_bell_11 ?_
    refine go_iconst kz_iconst_1 dX8_bell_12 ?_
    obtain ⟨r_13, h_14, h⟩ := q_b h
    refine h_callVi (st := []) [.int 1] (m_X8_refuseApart h_14) me_X8_refuseApart (g_recv cl6.1 rfl) tw_713 tw_715 tw_16 (hdd_of (by decide)) ⟨Nat.zero_le _, Nat.zero_le _⟩ rfl rfl (Nat.le_of_ble_eq_true rfl) dX8_bell_13 ?_
    exact h_iret h dX8_bell_16 rfl
noncomputable def f_X8_carries (x1 : Int32) (ν : gN) : Option (Int32 × gN) :=
  (f_X4_areAllThere 1 x1 ν).bind (fun r_1 =>
    if r_1.1 = 0 then
      (f_X8_refuse 6 r_1.2).bind (fun r_5 =>
        some (r_5.1, r_5.2))
    else
      (f_X0_leastCarrying 1 x1 r_1.2).bind (fun r_3 =>
        some (r_3.1, r_3.2)))
theorem me_X8_carries : g_me yX8_carries cX8_carries 2 ((Option.some .int)) 1 := ⟨tw_805, tw_72, ⟨by decide +kernel, by decide +kernel, by decide +kernel⟩, by decide⟩
set_option maxRecDepth 20000 in
set_option maxHeartbeats 2000000 in
theorem m_X8_carries {X : gX} {ad : Nat → Nat} {x1 : Int32} {ν : gN} {r : Int32 × gN}  (h : f_X8_carries x1 ν = some r) : h_ct X ad yX8_carries cX8_carries 2 ((Option.some .int)) 5 [.ref (ad 0), .int x1] ν (some (.int r.1), r.2) := by
  rw [f_X8_carries] at h
  refine h_ct_of (l := [(0, .ref (ad 0)), (1, .int x1)]) (by decide) (Nat.le_of_ble_eq_true rfl) rfl ?_
  refine go_aload_n rfl 0 rfl dX8_carries_0 ?_
  refine h_getr 0 cl6 rfl (by decide) tw_279 1 rfl dX8_carries_1 ?_
  refine go_iload_n rfl 1 rfl dX8_carries_4 ?_
  obtain ⟨r_1, h_2, h⟩ := q_b h
  refine h_callVi (st := []) [.int x1] (m_X4_areAllThere isP_1 h_2) me_X4_areAllThere (g_recv cl2.1 rfl) tw_777 tw_778 tw_779 (hdd_of (by decide)) ⟨Nat.zero_le _, Nat.zero_le _⟩ rfl rfl (Nat.le_of_ble_eq_true rfl) dX8_carries_5 ?_
  refine go_if_ne (tgt := 18) dX8_carries_8 rfl (fun hc => ?_) (fun hc => ?_)
  · replace h := q_f h hc
    refine go_aload_n rfl 0 rfl dX8_carries_18 ?_
    refine h_getr 0 cl6 rfl (by decide) tw_279 1 rfl dX8_carries_19 ?_
    refine go_iload_n rfl 1 rfl dX8_carries_22 ?_
    obtain ⟨r_3, h_4, h⟩ := q_b h
    refine h_callSi (st := []) [.ref (ad 1), .int x1] (m_X0_leastCarrying isP_1 h_4) me_X0_leastCarrying tw_806 tw_807 (hdd_of (by decide)) ⟨Nat.zero_le _, Nat.zero_le _⟩ rfl rfl (Nat.le_of_ble_eq_true rfl) dX8_carries_23 ?_
    exact h_iret h dX8_carries_26 rfl
  · replace h := q_t h hc
    refine go_aload_n rfl 0 rfl dX8_carries_11 ?_
    refine go_bipush kz_bipush_6 dX8_carries_12 ?_
    obtain ⟨r_5, h_6, h⟩ := q_b h
    refine h_callVi (st := []) [.int 6] (m_X8_refuse h_6) me_X8_refuse (g_recv cl6.1 rfl) tw_323 tw_325 tw_0 (hdd_of (by decide)) ⟨Nat.zero_le _, Nat.zero_le _⟩ rfl rfl (Nat.le_of_ble_eq_true rfl) dX8_carries_14 ?_
    exact h_iret h dX8_carries_17 rfl
noncomputable def f_X8_isAhead (x0 : Int32) (ν : gN) : Option (Int32 × gN) :=
  (f_X8_isBetween x0 0 30 ν).bind (fun r_1 =>
    if zb r_1.1 = true then
      some (r_1.1, r_1.2)
    else none)
theorem me_X8_isAhead : g_me yX8_isAhead cX8_isAhead 1 ((Option.some .boolean)) 1 := ⟨tw_704, tw_72, ⟨by decide +kernel, by decide +kernel, by decide +kernel⟩, by decide⟩
set_option maxRecDepth 20000 in
set_option maxHeartbeats 2000000 in
theorem m_X8_isAhead {X : gX} {ad : Nat → Nat} {x0 : Int32} {ν : gN} {r : Int32 × gN}  (h : f_X8_isAhead x0 ν = some r) : h_ct X ad yX8_isAhead cX8_isAhead 1 ((Option.some .boolean)) 2 [.int x0] ν (some (.int r.1), r.2) := by
  rw [f_X8_isAhead] at h
  refine h_ct_of (l := [(0, .int x0)]) (by decide) (Nat.le_of_ble_eq_true rfl) rfl ?_
  refine go_iload_n rfl 0 rfl dX8_isAhead_0 ?_
  refine go_iconst kz_iconst_0 dX8_isAhead_1 ?_
  refine go_bipush kz_bipush_30 dX8_isAhead_2 ?_
  obtain ⟨r_1, h_2, h⟩ := q_b h
  refine h_callSi (st := []) [.int x0, .int 0, .int 30] (m_X8_isBetween h_2) me_X8_isBetween tw_320 tw_321 (hdd_of (by decide)) ⟨Nat.zero_le _, Nat.zero_le _⟩ rfl rfl (Nat.le_of_ble_eq_true rfl) dX8_isAhead_4 ?_
  obtain ⟨hg_3, h⟩ := q_g h
  exact h_zret hg_3 h dX8_isAhead_7 rfl
noncomputable def f_X8_lookAhead (x1 : Int32) (ν : gN) : Option (gN) :=
  (f_X7_chart (ν.2 1 7) ν).bind (fun r_1 =>
    (f_X2_look 1 x1 r_1).bind (fun r_3 =>
      some r_3))
theorem me_X8_lookAhead : g_me yX8_lookAhead cX8_lookAhead 2 (none) 1 := ⟨tw_661, tw_72, ⟨by decide +kernel, by decide +kernel, by decide +kernel⟩, by decide⟩
set_option maxRecDepth 20000 in
set_option maxHeartbeats 2000000 in
theorem m_X8_lookAhead {X : gX} {ad : Nat → Nat} {x1 : Int32} {ν : gN} {r : gN}  (h : f_X8_lookAhead x1 ν = some r) : h_ct X ad yX8_lookAhead cX8_lookAhead 2 (none) 5 [.ref (ad 0), .int x1] ν (none, r) := by
  rw [f_X8_lookAhead] at h
  refine h_ct_of (l := [(0, .ref (ad 0)), (1, .int x1)]) (by decide) (Nat.le_of_ble_eq_true rfl) rfl ?_
  refine go_aload_n rfl 0 rfl dX8_lookAhead_0 ?_
  refine h_getr 5 cl6 rfl (by decide) tw_284 24 rfl dX8_lookAhead_1 ?_
  refine go_aload_n rfl 0 rfl dX8_lookAhead_4 ?_
  refine h_getr 0 cl6 rfl (by decide) tw_279 1 rfl dX8_lookAhead_5 ?_
  refine h_getlN 7 cl2 rfl (by decide) tw_127 rfl dX8_lookAhead_8 ?_
  obtain ⟨r_1, h_2, h⟩ := q_b h
  refine h_callVv (st := []) [.long (ν.2 1 7)] (m_X7_chart h_2) me_X7_chart (g_recv cl5.1 rfl) tw_632 tw_633 tw_634 (hdd_of (by decide)) ⟨Nat.zero_le _, Nat.zero_le _⟩ rfl rfl (Nat.le_of_ble_eq_true rfl) dX8_lookAhead_11 ?_
  refine go_aload_n rfl 0 rfl dX8_lookAhead_14 ?_
  refine h_getr 6 cl6 rfl (by decide) tw_285 30 rfl dX8_lookAhead_15 ?_
  refine go_aload_n rfl 0 rfl dX8_lookAhead_18 ?_
  refine h_getr 0 cl6 rfl (by decide) tw_279 1 rfl dX8_lookAhead_19 ?_
  refine go_aload_n rfl 0 rfl dX8_lookAhead_22 ?_
  refine h_getr 5 cl6 rfl (by decide) tw_284 24 rfl dX8_lookAhead_23 ?_
  refine go_iload_n rfl 1 rfl dX8_lookAhead_26 ?_
  obtain ⟨r_3, h_4, h⟩ := q_b h
  refine h_callVv (st := []) [.ref (ad 1), .ref (ad 24), .int x1] (m_X2_look isP_1 h_4) me_X2_look (g_recv cl1.1 rfl) tw_662 tw_663 tw_664 (hdd_of (by decide)) ⟨Nat.zero_le _, Nat.zero_le _⟩ rfl rfl (Nat.le_of_ble_eq_true rfl) dX8_lookAhead_27 ?_
  exact h_vret h dX8_lookAhead_30 rfl
noncomputable def f_X8_chosen (x1 : Int32) (ν : gN) : Option (Int32 × gN) :=
  (f_X8_isAhead x1 ν).bind (fun r_1 =>
    if r_1.1 = 0 then
      (f_X8_refuse 6 r_1.2).bind (fun r_7 =>
        some (r_7.1, r_7.2))
    else
      (f_X8_lookAhead x1 r_1.2).bind (fun r_3 =>
        (f_X2_elect 1 0 r_3).bind (fun r_5 =>
          some (r_5.1, r_5.2))))
theorem me_X8_chosen : g_me yX8_chosen cX8_chosen 2 ((Option.some .int)) 1 := ⟨tw_708, tw_72, ⟨by decide +kernel, by decide +kernel, by decide +kernel⟩, by decide⟩
set_option maxRecDepth 20000 in
set_option maxHeartbeats 2000000 in
theorem m_X8_chosen {X : gX} {ad : Nat → Nat} {x1 : Int32} {ν : gN} {r : Int32 × gN}  (h : f_X8_chosen x1 ν = some r) : h_ct X ad yX8_chosen cX8_chosen 2 ((Option.some .int)) 6 [.ref (ad 0), .int x1] ν (some (.int r.1), r.2) := by
  rw [f_X8_chosen] at h
  refine h_ct_of (l := [(0, .ref (ad 0)), (1, .int x1)]) (by decide) (Nat.le_of_ble_eq_true rfl) rfl ?_
  refine go_iload_n rfl 1 rfl dX8_chosen_0 ?_
  obtain ⟨r_1, h_2, h⟩ := q_b h
  refine h_callSi (st := []) [.int x1] (m_X8_isAhead h_2) me_X8_isAhead tw_702 tw_703 (hdd_of (by decide)) ⟨Nat.zero_le _, Nat.zero_le _⟩ rfl rfl (Nat.le_of_ble_eq_true rfl) dX8_chosen_1 ?_
  refine go_if_ne (tgt := 14) dX8_chosen_4 rfl (fun hc => ?_) (fun hc => ?_)
  · replace h := q_f h hc
    refine go_aload_n rfl 0 rfl dX8_chosen_14 ?_
    refine go_iload_n rfl 1 rfl dX8_chosen_15 ?_
    obtain ⟨r_3, h_4, h⟩ := q_b h
    refine h_callVv (st := []) [.int x1] (m_X8_lookAhead h_4) me_X8_lookAhead (g_recv cl6.1 rfl) tw_658 tw_660 tw_15 (hdd_of (by decide)) ⟨Nat.zero_le _, Nat.zero_le _⟩ rfl rfl (Nat.le_of_ble_eq_true rfl) dX8_chosen_16 ?_
    refine go_aload_n rfl 0 rfl dX8_chosen_19 ?_
    refine h_getr 6 cl6 rfl (by decide) tw_285 30 rfl dX8_chosen_20 ?_
    refine go_aload_n rfl 0 rfl dX8_chosen_23 ?_
    refine h_getr 0 cl6 rfl (by decide) tw_279 1 rfl dX8_chosen_24 ?_
    refine go_aload_n rfl 0 rfl dX8_chosen_27 ?_
    refine h_getr 5 cl6 rfl (by decide) tw_284 24 rfl dX8_chosen_28 ?_
    refine go_iconst kz_iconst_0 dX8_chosen_31 ?_
    obtain ⟨r_5, h_6, h⟩ := q_b h
    refine h_callVi (st := []) [.ref (ad 1), .ref (ad 24), .int 0] (m_X2_elect isP_1 h_6) me_X2_elect (g_recv cl1.1 rfl) tw_678 tw_679 tw_680 (hdd_of (by decide)) ⟨Nat.zero_le _, Nat.zero_le _⟩ rfl rfl (Nat.le_of_ble_eq_true rfl) dX8_chosen_32 ?_
    exact h_iret h dX8_chosen_35 rfl
  · replace h := q_t h hc
    refine go_aload_n rfl 0 rfl dX8_chosen_7 ?_
    refine go_bipush kz_bipush_6 dX8_chosen_8 ?_
    obtain ⟨r_7, h_8, h⟩ := q_b h
    refine h_callVi (st := []) [.int 6] (m_X8_refuse h_8) me_X8_refuse (g_recv cl6.1 rfl) tw_323 tw_325 tw_0 (hdd_of (by decide)) ⟨Nat.zero_le _, Nat.zero_le _⟩ rfl rfl (Nat.le_of_ble_eq_true rfl) dX8_chosen_10 ?_
    exact h_iret h dX8_chosen_13 rfl
noncomputable def f_X8_isShelf (x0 : Int32) (ν : gN) : Option (Int32 × gN) :=
  (f_X8_isBetween x0 0 7 ν).bind (fun r_1 =>
    if zb r_1.1 = true then
      some (r_1.1, r_1.2)
    else none)
theorem me_X8_isShelf : g_me yX8_isShelf cX8_isShelf 1 ((Option.some .boolean)) 1 := ⟨tw_319, tw_72, ⟨by decide +kernel, by decide +kernel, by decide +kernel⟩, by decide⟩
set_option maxRecDepth 20000 in
set_option maxHeartbeats 2000000 in
theorem m_X8_isShelf {X : gX} {ad : Nat → Nat} {x0 : Int32} {ν : gN} {r : Int32 × gN}  (h : f_X8_isShelf x0 ν = some r) : h_ct X ad yX8_isShelf cX8_isShelf 1 ((Option.some .boolean)) 2 [.int x0] ν (some (.int r.1), r.2) := by
  rw [f_X8_isShelf] at h
  refine h_ct_of (l := [(0, .int x0)]) (by decide) (Nat.le_of_ble_eq_true rfl) rfl ?_
  refine go_iload_n rfl 0 rfl dX8_isShelf_0 ?_
  refine go_iconst kz_iconst_0 dX8_isShelf_1 ?_
  refine go_bipush kz_bipush_7 dX8_isShelf_2 ?_
  obtain ⟨r_1, h_2, h⟩ := q_b h
  refine h_callSi (st := []) [.int x0, .int 0, .int 7] (m_X8_isBetween h_2) me_X8_isBetween tw_320 tw_321 (hdd_of (by decide)) ⟨Nat.zero_le _, Nat.zero_le _⟩ rfl rfl (Nat.le_of_ble_eq_true rfl) dX8_isShelf_4 ?_
  obtain ⟨hg_3, h⟩ := q_g h
  exact h_zret hg_3 h dX8_isShelf_7 rfl
noncomputable def f_X8_copy (x1 : Int32) (x2 : Int32) (x3 : Int32) (x4 : Int32) (x5 : Int32) (ν : gN) : Option (Int32 × gN) :=
  (f_X8_isShelf x1 ν).bind (fun r_1 =>
    if r_1.1 = 0 then
      (f_X8_refuse 1 r_1.2).bind (fun r_3 =>
        some (r_3.1, r_3.2))
    else
      (f_X8_isShelf x2 r_1.2).bind (fun r_5 =>
        if r_5.1 = 0 then
          (f_X8_refuse 1 r_5.2).bind (fun r_42 =>
            some (r_42.1, r_42.2))
        else
          if inb x1 8 = true then
            if inb x2 8 = true then
              (f_X6_hasPerson (37 + 2 * x1.toNatClampNeg) r_5.2).bind (fun r_9 =>
                if r_9.1 = 0 then
                  (f_X6_hasPerson (37 + 2 * x2.toNatClampNeg) r_9.2).bind (fun r_13 =>
                    if r_13.1 = 0 then
                      (f_X8_areOfTwoSorts (37 + 2 * x1.toNatClampNeg) (37 + 2 * x2.toNatClampNeg) r_13.2).bind (fun r_17 =>
                        if r_17.1 = 0 then
                          (f_X6_hasRow (37 + 2 * x1.toNatClampNeg) r_17.2).bind (fun r_19 =>
                            if r_19.1 = 0 then
                              (f_X8_refuse 3 r_19.2).bind (fun r_21 =>
                                some (r_21.1, r_21.2))
                            else
                              (f_X6_hasRow (37 + 2 * x2.toNatClampNeg) r_19.2).bind (fun r_23 =>
                                if r_23.1 = 0 then
                                  (f_X8_refuse 3 r_23.2).bind (fun r_38 =>
                                    some (r_38.1, r_38.2))
                                else
                                  if 0 ≤ x5 then
                                    (f_X6_hasStretch (37 + 2 * x1.toNatClampNeg) x3 x5 r_23.2).bind (fun r_25 =>
                                      if r_25.1 = 0 then
                                        (f_X8_refuse 5 r_25.2).bind (fun r_27 =>
                                          some (r_27.1, r_27.2))
                                      else
                                        (f_X6_hasStretch (37 + 2 * x2.toNatClampNeg) x4 x5 r_25.2).bind (fun r_29 =>
                                          if r_29.1 = 0 then
                                            (f_X8_refuse 5 r_29.2).bind (fun r_34 =>
                                              some (r_34.1, r_34.2))
                                          else
                                            if cpk x3 x4 x5 160 160 = true then
                                              qL (nCJ r_29.2 ((37 + 2 * x1.toNatClampNeg) + 1) ((37 + 2 * x2.toNatClampNeg) + 1) x3.toNatClampNeg x4.toNatClampNeg x5.toNatClampNeg) (fun ν_32 =>
                                                some (1, ν_32))
                                            else none))
                                  else
                                    (f_X8_refuse 4 r_23.2).bind (fun r_36 =>
                                      some (r_36.1, r_36.2))))
                        else
                          (f_X8_refuse 2 r_17.2).bind (fun r_40 =>
                            some (r_40.1, r_40.2)))
                    else
                      (f_X8_refuse 2 r_13.2).bind (fun r_15 =>
                        some (r_15.1, r_15.2)))
                else
                  (f_X8_refuse 2 r_9.2).bind (fun r_11 =>
                    some (r_11.1, r_11.2)))
            else none
          else none))
theorem me_X8_copy : g_me yX8_copy cX8_copy 8 ((Option.some .int)) 5 := ⟨tw_362, tw_72, ⟨by decide +kernel, by decide +kernel, by decide +kernel⟩, by decide⟩
set_option maxRecDepth 20000 in
set_option maxHeartbeats 2000000 in
theorem m_X8_copy {X : gX} {ad : Nat → Nat} {x1 : Int32} {x2 : Int32} {x3 : Int32} {x4 : Int32} {x5 : Int32} {ν : gN} {r : Int32 × gN}  (h : f_X8_copy x1 x2 x3 x4 x5 ν = some r) : h_ct X ad yX8_copy cX8_copy 8 ((Option.some .int)) 3 [.ref (ad 0), .int x1, .int x2, .int x3, .int x4, .int x5] ν (some (.int r.1), r.2) := by
  rw [f_X8_copy] at h
  refine h_ct_of (l := [(0, .ref (ad 0)), (1, .int x1), (2, .int x2), (3, .int x3), (4, .int x4), (5, .int x5)]) (by decide) (Nat.le_of_ble_eq_true rfl) rfl ?_
  refine go_iload_n rfl 1 rfl dX8_copy_0 ?_
  obtain ⟨r_1, h_2, h⟩ := q_b h
  refine h_callSi (st := []) [.int x1] (m_X8_isShelf h_2) me_X8_isShelf tw_317 tw_318 (hdd_of (by decide)) ⟨Nat.zero_le _, Nat.zero_le _⟩ rfl rfl (Nat.le_of_ble_eq_true rfl) dX8_copy_1 ?_
  refine go_if_eq (tgt := 14) dX8_copy_4 rfl (fun hc => ?_) (fun hc => ?_)
  · replace h := q_t h hc
    refine go_aload_n rfl 0 rfl dX8_copy_14 ?_
    refine go_iconst kz_iconst_1 dX8_copy_15 ?_
    obtain ⟨r_3, h_4, h⟩ := q_b h
    refine h_callVi (st := []) [.int 1] (m_X8_refuse h_4) me_X8_refuse (g_recv cl6.1 rfl) tw_323 tw_325 tw_0 (hdd_of (by decide)) ⟨Nat.zero_le _, Nat.zero_le _⟩ rfl rfl (Nat.le_of_ble_eq_true rfl) dX8_copy_16 ?_
    exact h_iret h dX8_copy_19 rfl
  · replace h := q_f h hc
    refine go_iload_n rfl 2 rfl dX8_copy_7 ?_
    obtain ⟨r_5, h_6, h⟩ := q_b h
    refine h_callSi (st := []) [.int x2] (m_X8_isShelf h_6) me_X8_isShelf tw_317 tw_318 (hdd_of (by decide)) ⟨Nat.zero_le _, Nat.zero_le _⟩ rfl rfl (Nat.le_of_ble_eq_true rfl) dX8_copy_8 ?_
    refine go_if_ne (tgt := 20) dX8_copy_11 rfl (fun hc => ?_) (fun hc => ?_)
    · replace h := q_f h hc
      refine go_aload_n rfl 0 rfl dX8_copy_20 ?_
      refine h_getr 3 cl6 rfl (by decide) tw_282 22 rfl dX8_copy_21 ?_
      refine go_iload_n rfl 1 rfl dX8_copy_24 ?_
      obtain ⟨hg_7, h⟩ := q_g h
      refine h_aald hg_7 dX8_copy_25 ?_
      refine go_astore (l' := [(6, .ref (ad (37 + 2 * x1.toNatClampNeg))), (0, .ref (ad 0)), (1, .int x1), (2, .int x2), (3, .int x3), (4, .int x4), (5, .int x5)]) dX8_copy_26 (by decide) rfl ?_
      refine go_aload_n rfl 1 rfl dX8_copy_28 ?_
      refine h_getr 3 cl6 rfl (by decide) tw_282 22 rfl dX8_copy_29 ?_
      refine go_iload_n rfl 3 rfl dX8_copy_32 ?_
      obtain ⟨hg_8, h⟩ := q_g h
      refine h_aald hg_8 dX8_copy_33 ?_
      refine go_astore (l' := [(7, .ref (ad (37 + 2 * x2.toNatClampNeg))), (6, .ref (ad (37 + 2 * x1.toNatClampNeg))), (0, .ref (ad 0)), (1, .int x1), (2, .int x2), (3, .int x3), (4, .int x4), (5, .int x5)]) dX8_copy_34 (by decide) rfl ?_
      refine go_aload 1 rfl dX8_copy_36 ?_
      obtain ⟨r_9, h_10, h⟩ := q_b h
      refine h_callVi (st := []) [] (m_X6_hasPerson (isS_in hg_7) h_10) me_X6_hasPerson (g_recv cl4.1 (shS (isS_in hg_7))) tw_342 tw_343 tw_344 (hdd_of (by decide)) ⟨Nat.zero_le _, Nat.zero_le _⟩ rfl rfl (Nat.le_of_ble_eq_true rfl) dX8_copy_38 ?_
      refine go_if_ne (tgt := 62) dX8_copy_41 rfl (fun hc => ?_) (fun hc => ?_)
      · replace h := q_f h hc
        refine go_aload_n rfl 2 rfl dX8_copy_62 ?_
        refine go_iconst kz_iconst_2 dX8_copy_63 ?_
        obtain ⟨r_11, h_12, h⟩ := q_b h
        refine h_callVi (st := []) [.int 2] (m_X8_refuse h_12) me_X8_refuse (g_recv cl6.1 rfl) tw_323 tw_325 tw_0 (hdd_of (by decide)) ⟨Nat.zero_le _, Nat.zero_le _⟩ rfl rfl (Nat.le_of_ble_eq_true rfl) dX8_copy_64 ?_
        exact h_iret h dX8_copy_67 rfl
      · replace h := q_t h hc
        refine go_aload 0 rfl dX8_copy_44 ?_
        obtain ⟨r_13, h_14, h⟩ := q_b h
        refine h_callVi (st := []) [] (m_X6_hasPerson (isS_in hg_8) h_14) me_X6_hasPerson (g_recv cl4.1 (shS (isS_in hg_8))) tw_342 tw_343 tw_344 (hdd_of (by decide)) ⟨Nat.zero_le _, Nat.zero_le _⟩ rfl rfl (Nat.le_of_ble_eq_true rfl) dX8_copy_46 ?_
        refine go_if_ne (tgt := 62) dX8_copy_49 rfl (fun hc => ?_) (fun hc => ?_)
        · replace h := q_f h hc
          refine go_aload_n rfl 2 rfl dX8_copy_62 ?_
          refine go_iconst kz_iconst_2 dX8_copy_63 ?_
          obtain ⟨r_15, h_16, h⟩ := q_b h
          refine h_callVi (st := []) [.int 2] (m_X8_refuse h_16) me_X8_refuse (g_recv cl6.1 rfl) tw_323 tw_325 tw_0 (hdd_of (by decide)) ⟨Nat.zero_le _, Nat.zero_le _⟩ rfl rfl (Nat.le_of_ble_eq_true rfl) dX8_copy_64 ?_
          exact h_iret h dX8_copy_67 rfl
        · replace h := q_t h hc
          refine go_aload 1 rfl dX8_copy_52 ?_
          refine go_aload 0 rfl dX8_copy_54 ?_
          obtain ⟨r_17, h_18, h⟩ := q_b h
          refine h_callSi (st := []) [.ref (ad (37 + 2 * x1.toNatClampNeg)), .ref (ad (37 + 2 * x2.toNatClampNeg))] (m_X8_areOfTwoSorts (isS_in hg_7) (isS_in hg_8) h_18) me_X8_areOfTwoSorts tw_363 tw_364 (hdd_of (by decide)) ⟨Nat.zero_le _, Nat.zero_le _⟩ rfl rfl (Nat.le_of_ble_eq_true rfl) dX8_copy_56 ?_
          refine go_if_eq (tgt := 68) dX8_copy_59 rfl (fun hc => ?_) (fun hc => ?_)
          · replace h := q_t h hc
            refine go_aload 1 rfl dX8_copy_68 ?_
            obtain ⟨r_19, h_20, h⟩ := q_b h
            refine h_callVi (st := []) [] (m_X6_hasRow (isS_in hg_7) h_20) me_X6_hasRow (g_recv cl4.1 (shS (isS_in hg_7))) tw_346 tw_347 tw_348 (hdd_of (by decide)) ⟨Nat.zero_le _, Nat.zero_le _⟩ rfl rfl (Nat.le_of_ble_eq_true rfl) dX8_copy_70 ?_
            refine go_if_eq (tgt := 84) dX8_copy_73 rfl (fun hc => ?_) (fun hc => ?_)
            · replace h := q_t h hc
              refine go_aload_n rfl 2 rfl dX8_copy_84 ?_
              refine go_iconst kz_iconst_3 dX8_copy_85 ?_
              obtain ⟨r_21, h_22, h⟩ := q_b h
              refine h_callVi (st := []) [.int 3] (m_X8_refuse h_22) me_X8_refuse (g_recv cl6.1 rfl) tw_323 tw_325 tw_0 (hdd_of (by decide)) ⟨Nat.zero_le _, Nat.zero_le _⟩ rfl rfl (Nat.le_of_ble_eq_true rfl) dX8_copy_86 ?_
              exact h_iret h dX8_copy_89 rfl
            · replace h := q_f h hc
              refine go_aload 0 rfl dX8_copy_76 ?_
              obtain ⟨r_23, h_24, h⟩ := q_b h
              refine h_callVi (st := []) [] (m_X6_hasRow (isS_in hg_8) h_24) me_X6_hasRow (g_recv cl4.1 (shS (isS_in hg_8))) tw_346 tw_347 tw_348 (hdd_of (by decide)) ⟨Nat.zero_le _, Nat.zero_le _⟩ rfl rfl (Nat.le_of_ble_eq_true rfl) dX8_copy_78 ?_
              refine go_if_ne (tgt := 90) dX8_copy_81 rfl (fun hc => ?_) (fun hc => ?_)
              · replace h := q_f h hc
                refine go_iload 7 rfl dX8_copy_90 ?_
                refine go_if_ge (tgt := 101) dX8_copy_92 rfl (fun hc => ?_) (fun hc => ?_)
                · replace h := q_t h hc
                  refine go_aload 1 rfl dX8_copy_101 ?_
                  refine go_iload_n rfl 5 rfl dX8_copy_103 ?_
                  refine go_iload 7 rfl dX8_copy_104 ?_
                  obtain ⟨r_25, h_26, h⟩ := q_b h
                  refine h_callVi (st := []) [.int x3, .int x5] (m_X6_hasStretch (isS_in hg_7) h_26) me_X6_hasStretch (g_recv cl4.1 (shS (isS_in hg_7))) tw_366 tw_367 tw_368 (hdd_of (by decide)) ⟨Nat.zero_le _, Nat.zero_le _⟩ rfl rfl (Nat.le_of_ble_eq_true rfl) dX8_copy_106 ?_
                  refine go_if_eq (tgt := 124) dX8_copy_109 rfl (fun hc => ?_) (fun hc => ?_)
                  · replace h := q_t h hc
                    refine go_aload_n rfl 2 rfl dX8_copy_124 ?_
                    refine go_iconst kz_iconst_5 dX8_copy_125 ?_
                    obtain ⟨r_27, h_28, h⟩ := q_b h
                    refine h_callVi (st := []) [.int 5] (m_X8_refuse h_28) me_X8_refuse (g_recv cl6.1 rfl) tw_323 tw_325 tw_0 (hdd_of (by decide)) ⟨Nat.zero_le _, Nat.zero_le _⟩ rfl rfl (Nat.le_of_ble_eq_true rfl) dX8_copy_126 ?_
                    exact h_iret h dX8_copy_129 rfl
                  · replace h := q_f h hc
                    refine go_aload 0 rfl dX8_copy_112 ?_
                    refine go_iload 6 rfl dX8_copy_114 ?_
                    refine go_iload 7 rfl dX8_copy_116 ?_
                    obtain ⟨r_29, h_30, h⟩ := q_b h
                    refine h_callVi (st := []) [.int x4, .int x5] (m_X6_hasStretch (isS_in hg_8) h_30) me_X6_hasStretch (g_recv cl4.1 (shS (isS_in hg_8))) tw_366 tw_367 tw_368 (hdd_of (by decide)) ⟨Nat.zero_le _, Nat.zero_le _⟩ rfl rfl (Nat.le_of_ble_eq_true rfl) dX8_copy_118 ?_
                    refine go_if_ne (tgt := 130) dX8_copy_121 rfl (fun hc => ?_) (fun hc => ?_)
                    · replace h := q_f h hc
                      refine go_aload 1 rfl dX8_copy_130 ?_
                      refine h_getrN 0 cl4 (shS (isS_in hg_7)) (by decide) tw_266 ((37 + 2 * x1.toNatClampNeg) + 1) (fvS (isS_in hg_7)) dX8_copy_132 ?_
                      refine go_iload_n rfl 5 rfl dX8_copy_135 ?_
                      refine go_aload 0 rfl dX8_copy_136 ?_
                      refine h_getrN 0 cl4 (shS (isS_in hg_8)) (by decide) tw_266 ((37 + 2 * x2.toNatClampNeg) + 1) (fvS (isS_in hg_8)) dX8_copy_138 ?_
                      refine go_iload 6 rfl dX8_copy_141 ?_
                      refine go_iload 7 rfl dX8_copy_143 ?_
                      obtain ⟨hg_31, h⟩ := q_g h
                      obtain ⟨ν_32, e_33, h⟩ := q_l h
                      refine h_copyl 160 160 (shS1 (isS_in hg_7)) (shS1 (isS_in hg_8)) tw_370 hg_31 (by decide) e_33 dX8_copy_145 ?_
                      refine go_iconst kz_iconst_1 dX8_copy_148 ?_
                      exact h_iret h dX8_copy_149 rfl
                    · replace h := q_t h hc
                      refine go_aload_n rfl 2 rfl dX8_copy_124 ?_
                      refine go_iconst kz_iconst_5 dX8_copy_125 ?_
                      obtain ⟨r_34, h_35, h⟩ := q_b h
                      refine h_callVi (st := []) [.int 5] (m_X8_refuse h_35) me_X8_refuse (g_recv cl6.1 rfl) tw_323 tw_325 tw_0 (hdd_of (by decide)) ⟨Nat.zero_le _, Nat.zero_le _⟩ rfl rfl (Nat.le_of_ble_eq_true rfl) dX8_copy_126 ?_
                      exact h_iret h dX8_copy_129 rfl
                · replace h := q_f h hc
                  refine go_aload_n rfl 2 rfl dX8_copy_95 ?_
                  refine go_iconst kz_iconst_4 dX8_copy_96 ?_
                  obtain ⟨r_36, h_37, h⟩ := q_b h
                  refine h_callVi (st := []) [.int 4] (m_X8_refuse h_37) me_X8_refuse (g_recv cl6.1 rfl) tw_323 tw_325 tw_0 (hdd_of (by decide)) ⟨Nat.zero_le _, Nat.zero_le _⟩ rfl rfl (Nat.le_of_ble_eq_true rfl) dX8_copy_97 ?_
                  exact h_iret h dX8_copy_100 rfl
              · replace h := q_t h hc
                refine go_aload_n rfl 2 rfl dX8_copy_84 ?_
                refine go_iconst kz_iconst_3 dX8_copy_85 ?_
                obtain ⟨r_38, h_39, h⟩ := q_b h
                refine h_callVi (st := []) [.int 3] (m_X8_refuse h_39) me_X8_refuse (g_recv cl6.1 rfl) tw_323 tw_325 tw_0 (hdd_of (by decide)) ⟨Nat.zero_le _, Nat.zero_le _⟩ rfl rfl (Nat.le_of_ble_eq_true rfl) dX8_copy_86 ?_
                exact h_iret h dX8_copy_89 rfl
          · replace h := q_f h hc
            refine go_aload_n rfl 2 rfl dX8_copy_62 ?_
            refine go_iconst kz_iconst_2 dX8_copy_63 ?_
            obtain ⟨r_40, h_41, h⟩ := q_b h
            refine h_callVi (st := []) [.int 2] (m_X8_refuse h_41) me_X8_refuse (g_recv cl6.1 rfl) tw_323 tw_325 tw_0 (hdd_of (by decide)) ⟨Nat.zero_le _, Nat.zero_le _⟩ rfl rfl (Nat.le_of_ble_eq_true rfl) dX8_copy_64 ?_
            exact h_iret h dX8_copy_67 rfl
    · replace h := q_t h hc
      refine go_aload_n rfl 0 rfl dX8_copy_14 ?_
      refine go_iconst kz_iconst_1 dX8_copy_15 ?_
      obtain ⟨r_42, h_43, h⟩ := q_b h
      refine h_callVi (st := []) [.int 1] (m_X8_refuse h_43) me_X8_refuse (g_recv cl6.1 rfl) tw_323 tw_325 tw_0 (hdd_of (by decide)) ⟨Nat.zero_le _, Nat.zero_le _⟩ rfl rfl (Nat.le_of_ble_eq_true rfl) dX8_copy_16 ?_
      exact h_iret h dX8_copy_19 rfl
noncomputable def f_X8_crowd (x1 : Int32) (x2 : Int32) (ν : gN) : Option (Int32 × gN) :=
  if x2 = 0 then
    (f_X8_isAhead x1 ν).bind (fun r_1 =>
      if r_1.1 = 0 then
        (f_X8_refuseApart 6 r_1.2).bind (fun r_9 =>
          some (r_9.1, r_9.2))
      else
        (f_X8_lookAhead x1 r_1.2).bind (fun r_3 =>
          if x2 = 0 then
            (f_X2_crowdedSquare 1 r_3).bind (fun r_7 =>
              some (r_7.1, r_7.2))
          else
            (f_X2_furthest 1 0 r_3).bind (fun r_5 =>
              some (r_5.1, r_5.2))))
  else
    if x2 = 1 then
      (f_X8_isAhead x1 ν).bind (fun r_11 =>
        if r_11.1 = 0 then
          (f_X8_refuseApart 6 r_11.2).bind (fun r_19 =>
            some (r_19.1, r_19.2))
        else
          (f_X8_lookAhead x1 r_11.2).bind (fun r_13 =>
            if x2 = 0 then
              (f_X2_crowdedSquare 1 r_13).bind (fun r_17 =>
                some (r_17.1, r_17.2))
            else
              (f_X2_furthest 1 0 r_13).bind (fun r_15 =>
                some (r_15.1, r_15.2))))
    else
      (f_X8_refuseApart 5 ν).bind (fun r_21 =>
        some (r_21.1, r_21.2))
theorem me_X8_crowd : g_me yX8_crowd cX8_crowd 3 ((Option.some .int)) 2 := ⟨tw_817, tw_72, ⟨by decide +kernel, by decide +kernel, by decide +kernel⟩, by decide⟩
set_option maxRecDepth 20000 in
set_option maxHeartbeats 2000000 in
theorem m_X8_crowd {X : gX} {ad : Nat → Nat} {x1 : Int32} {x2 : Int32} {ν : gN} {r : Int32 × gN}  (h : f_X8_crowd x1 x2 ν = some r) : h_ct X ad yX8_crowd cX8_crowd 3 ((Option.some .int)) 6 [.ref (ad 0), .int x1, .int x2] ν (some (.int r.1), r.2) := by
  rw [f_X8_crowd] at h
  refine h_ct_of (l := [(0, .ref (ad 0)), (1, .int x1), (2, .int x2)]) (by decide) (Nat.le_of_ble_eq_true rfl) rfl ?_
  refine go_iload_n rfl 2 rfl dX8_crowd_0 ?_
  refine go_if_eq (tgt := 15) dX8_crowd_1 rfl (fun hc => ?_) (fun hc => ?_)
  · replace h := q_t h hc
    refine go_iload_n rfl 1 rfl dX8_crowd_15 ?_
    obtain ⟨r_1, h_2, h⟩ := q_b h
    refine h_callSi (st := []) [.int x1] (m_X8_isAhead h_2) me_X8_isAhead tw_702 tw_703 (hdd_of (by decide)) ⟨Nat.zero_le _, Nat.zero_le _⟩ rfl rfl (Nat.le_of_ble_eq_true rfl) dX8_crowd_16 ?_
    refine go_if_ne (tgt := 29) dX8_crowd_19 rfl (fun hc => ?_) (fun hc => ?_)
    · replace h := q_f h hc
      refine go_aload_n rfl 0 rfl dX8_crowd_29 ?_
      refine go_iload_n rfl 1 rfl dX8_crowd_30 ?_
      obtain ⟨r_3, h_4, h⟩ := q_b h
      refine h_callVv (st := []) [.int x1] (m_X8_lookAhead h_4) me_X8_lookAhead (g_recv cl6.1 rfl) tw_658 tw_660 tw_15 (hdd_of (by decide)) ⟨Nat.zero_le _, Nat.zero_le _⟩ rfl rfl (Nat.le_of_ble_eq_true rfl) dX8_crowd_31 ?_
      refine go_iload_n rfl 2 rfl dX8_crowd_34 ?_
      refine go_if_ne (tgt := 52) dX8_crowd_35 rfl (fun hc => ?_) (fun hc => ?_)
      · replace h := q_f h hc
        refine go_aload_n rfl 0 rfl dX8_crowd_52 ?_
        refine h_getr 6 cl6 rfl (by decide) tw_285 30 rfl dX8_crowd_53 ?_
        refine go_aload_n rfl 0 rfl dX8_crowd_56 ?_
        refine h_getr 0 cl6 rfl (by decide) tw_279 1 rfl dX8_crowd_57 ?_
        refine go_aload_n rfl 0 rfl dX8_crowd_60 ?_
        refine h_getr 5 cl6 rfl (by decide) tw_284 24 rfl dX8_crowd_61 ?_
        refine go_iconst kz_iconst_0 dX8_crowd_64 ?_
        obtain ⟨r_5, h_6, h⟩ := q_b h
        refine h_callVi (st := []) [.ref (ad 1), .ref (ad 24), .int 0] (m_X2_furthest isP_1 h_6) me_X2_furthest (g_recv cl1.1 rfl) tw_822 tw_687 tw_688 (hdd_of (by decide)) ⟨Nat.zero_le _, Nat.zero_le _⟩ rfl rfl (Nat.le_of_ble_eq_true rfl) dX8_crowd_65 ?_
        exact h_iret h dX8_crowd_68 rfl
      · replace h := q_t h hc
        refine go_aload_n rfl 0 rfl dX8_crowd_38 ?_
        refine h_getr 6 cl6 rfl (by decide) tw_285 30 rfl dX8_crowd_39 ?_
        refine go_aload_n rfl 0 rfl dX8_crowd_42 ?_
        refine h_getr 0 cl6 rfl (by decide) tw_279 1 rfl dX8_crowd_43 ?_
        obtain ⟨r_7, h_8, h⟩ := q_b h
        refine h_callVi (st := []) [.ref (ad 1)] (m_X2_crowdedSquare isP_1 h_8) me_X2_crowdedSquare (g_recv cl1.1 rfl) tw_818 tw_819 tw_820 (hdd_of (by decide)) ⟨Nat.zero_le _, Nat.zero_le _⟩ rfl rfl (Nat.le_of_ble_eq_true rfl) dX8_crowd_46 ?_
        refine go_goto (tgt := 68) dX8_crowd_49 rfl ?_
        exact h_iret h dX8_crowd_68 rfl
    · replace h := q_t h hc
      refine go_aload_n rfl 0 rfl dX8_crowd_22 ?_
      refine go_bipush kz_bipush_6 dX8_crowd_23 ?_
      obtain ⟨r_9, h_10, h⟩ := q_b h
      refine h_callVi (st := []) [.int 6] (m_X8_refuseApart h_10) me_X8_refuseApart (g_recv cl6.1 rfl) tw_713 tw_715 tw_16 (hdd_of (by decide)) ⟨Nat.zero_le _, Nat.zero_le _⟩ rfl rfl (Nat.le_of_ble_eq_true rfl) dX8_crowd_25 ?_
      exact h_iret h dX8_crowd_28 rfl
  · replace h := q_f h hc
    refine go_iload_n rfl 2 rfl dX8_crowd_4 ?_
    refine go_iconst kz_iconst_1 dX8_crowd_5 ?_
    refine go_icmp_eq (tgt := 15) dX8_crowd_6 rfl (fun hc => ?_) (fun hc => ?_)
    · replace h := q_t h hc
      refine go_iload_n rfl 1 rfl dX8_crowd_15 ?_
      obtain ⟨r_11, h_12, h⟩ := q_b h
      refine h_callSi (st := []) [.int x1] (m_X8_isAhead h_12) me_X8_isAhead tw_702 tw_703 (hdd_of (by decide)) ⟨Nat.zero_le _, Nat.zero_le _⟩ rfl rfl (Nat.le_of_ble_eq_true rfl) dX8_crowd_16 ?_
      refine go_if_ne (tgt := 29) dX8_crowd_19 rfl (fun hc => ?_) (fun hc => ?_)
      · replace h := q_f h hc
        refine go_aload_n rfl 0 rfl dX8_crowd_29 ?_
        refine go_iload_n rfl 1 rfl dX8_crowd_30 ?_
        obtain ⟨r_13, h_14, h⟩ := q_b h
        refine h_callVv (st := []) [.int x1] (m_X8_lookAhead h_14) me_X8_lookAhead (g_recv cl6.1 rfl) tw_658 tw_660 tw_15 (hdd_of (by decide)) ⟨Nat.zero_le _, Nat.zero_le _⟩ rfl rfl (Nat.le_of_ble_eq_true rfl) dX8_crowd_31 ?_
        refine go_iload_n rfl 2 rfl dX8_crowd_34 ?_
        refine go_if_ne (tgt := 52) dX8_crowd_35 rfl (fun hc => ?_) (fun hc => ?_)
        · replace h := q_f h hc
          refine go_aload_n rfl 0 rfl dX8_crowd_52 ?_
          refine h_getr 6 cl6 rfl (by decide) tw_285 30 rfl dX8_crowd_53 ?_
          refine go_aload_n rfl 0 rfl dX8_crowd_56 ?_
          refine h_getr 0 cl6 rfl (by decide) tw_279 1 rfl dX8_crowd_57 ?_
          refine go_aload_n rfl 0 rfl dX8_crowd_60 ?_
          refine h_getr 5 cl6 rfl (by decide) tw_284 24 rfl dX8_crowd_61 ?_
          refine go_iconst kz_iconst_0 dX8_crowd_64 ?_
          obtain ⟨r_15, h_16, h⟩ := q_b h
          refine h_callVi (st := []) [.ref (ad 1), .ref (ad 24), .int 0] (m_X2_furthest isP_1 h_16) me_X2_furthest (g_recv cl1.1 rfl) tw_822 tw_687 tw_688 (hdd_of (by decide)) ⟨Nat.zero_le _, Nat.zero_le _⟩ rfl rfl (Nat.le_of_ble_eq_true rfl) dX8_crowd_65 ?_
          exact h_iret h dX8_crowd_68 rfl
        · replace h := q_t h hc
          refine go_aload_n rfl 0 rfl dX8_crowd_38 ?_
          refine h_getr 6 cl6 rfl (by decide) tw_285 30 rfl dX8_crowd_39 ?_
          refine go_aload_n rfl 0 rfl dX8_crowd_42 ?_
          refine h_getr 0 cl6 rfl (by decide) tw_279 1 rfl dX8_crowd_43 ?_
          obtain ⟨r_17, h_18, h⟩ := q_b h
          refine h_callVi (st := []) [.ref (ad 1)] (m_X2_crowdedSquare isP_1 h_18) me_X2_crowdedSquare (g_recv cl1.1 rfl) tw_818 tw_819 tw_820 (hdd_of (by decide)) ⟨Nat.zero_le _, Nat.zero_le _⟩ rfl rfl (Nat.le_of_ble_eq_true rfl) dX8_crowd_46 ?_
          refine go_goto (tgt := 68) dX8_crowd_49 rfl ?_
          exact h_iret h dX8_crowd_68 rfl
      · replace h := q_t h hc
        refine go_aload_n rfl 0 rfl dX8_crowd_22 ?_
        refine go_bipush kz_bipush_6 dX8_crowd_23 ?_
        obtain ⟨r_19, h_20, h⟩ := q_b h
        refine h_callVi (st := []) [.int 6] (m_X8_refuseApart h_20) me_X8_refuseApart (g_recv cl6.1 rfl) tw_713 tw_715 tw_16 (hdd_of (by decide)) ⟨Nat.zero_le _, Nat.zero_le _⟩ rfl rfl (Nat.le_of_ble_eq_true rfl) dX8_crowd_25 ?_
        exact h_iret h dX8_crowd_28 rfl
    · replace h := q_f h hc
      refine go_aload_n rfl 0 rfl dX8_crowd_9 ?_
      refine go_iconst kz_iconst_5 dX8_crowd_10 ?_
      obtain ⟨r_21, h_22, h⟩ := q_b h
      refine h_callVi (st := []) [.int 5] (m_X8_refuseApart h_22) me_X8_refuseApart (g_recv cl6.1 rfl) tw_713 tw_715 tw_16 (hdd_of (by decide)) ⟨Nat.zero_le _, Nat.zero_le _⟩ rfl rfl (Nat.le_of_ble_eq_true rfl) dX8_crowd_11 ?_
      exact h_iret h dX8_crowd_14 rfl
noncomputable def f_X8_element (x1 : Int32) (x2 : Int32) (ν : gN) : Option (Int64 × gN) :=
  (f_X8_isShelf x1 ν).bind (fun r_1 =>
    if r_1.1 = 0 then
      some (0, r_1.2)
    else
      if inb x1 8 = true then
        (f_X6_elementAt (37 + 2 * x1.toNatClampNeg) x2 r_1.2).bind (fun r_4 =>
          some (r_4.1, r_4.2))
      else none)
theorem me_X8_element : g_me yX8_element cX8_element 3 ((Option.some .long)) 2 := ⟨tw_376, tw_72, ⟨by decide +kernel, by decide +kernel, by decide +kernel⟩, by decide⟩
set_option maxRecDepth 20000 in
set_option maxHeartbeats 2000000 in
theorem m_X8_element {X : gX} {ad : Nat → Nat} {x1 : Int32} {x2 : Int32} {ν : gN} {r : Int64 × gN}  (h : f_X8_element x1 x2 ν = some r) : h_ct X ad yX8_element cX8_element 3 ((Option.some .long)) 4 [.ref (ad 0), .int x1, .int x2] ν (some (.long r.1), r.2) := by
  rw [f_X8_element] at h
  refine h_ct_of (l := [(0, .ref (ad 0)), (1, .int x1), (2, .int x2)]) (by decide) (Nat.le_of_ble_eq_true rfl) rfl ?_
  refine go_iload_n rfl 1 rfl dX8_element_0 ?_
  obtain ⟨r_1, h_2, h⟩ := q_b h
  refine h_callSi (st := []) [.int x1] (m_X8_isShelf h_2) me_X8_isShelf tw_317 tw_318 (hdd_of (by decide)) ⟨Nat.zero_le _, Nat.zero_le _⟩ rfl rfl (Nat.le_of_ble_eq_true rfl) dX8_element_1 ?_
  refine go_if_eq (tgt := 20) dX8_element_4 rfl (fun hc => ?_) (fun hc => ?_)
  · replace h := q_t h hc
    refine go_lconst (v := 0) rfl dX8_element_20 ?_
    exact h_lret h dX8_element_21 rfl
  · replace h := q_f h hc
    refine go_aload_n rfl 0 rfl dX8_element_7 ?_
    refine h_getr 3 cl6 rfl (by decide) tw_282 22 rfl dX8_element_8 ?_
    refine go_iload_n rfl 1 rfl dX8_element_11 ?_
    obtain ⟨hg_3, h⟩ := q_g h
    refine h_aald hg_3 dX8_element_12 ?_
    refine go_iload_n rfl 2 rfl dX8_element_13 ?_
    obtain ⟨r_4, h_5, h⟩ := q_b h
    refine h_callVl (st := []) [.int x2] (m_X6_elementAt (isS_in hg_3) h_5) me_X6_elementAt (g_recv cl4.1 (shS (isS_in hg_3))) tw_377 tw_378 tw_379 (hdd_of (by decide)) ⟨Nat.zero_le _, Nat.zero_le _⟩ rfl rfl (Nat.le_of_ble_eq_true rfl) dX8_element_14 ?_
    refine go_goto (tgt := 21) dX8_element_17 rfl ?_
    exact h_lret h dX8_element_21 rfl
noncomputable def f_X8_exchange (a0 : Nat) (x1 : Int32) (x2 : Int32) (ν : gN) : Option (Int32 × gN) :=
  if inb x1 7 = true then
    if inb x1 7 = true then
      qL (nWI ν a0 x1.toNatClampNeg x2) (fun ν_3 =>
        some (ν.1 a0 x1.toNatClampNeg, ν_3))
    else none
  else none
theorem me_X8_exchange : g_me yX8_exchange cX8_exchange 4 ((Option.some .int)) 3 := ⟨tw_474, tw_72, ⟨by decide +kernel, by decide +kernel, by decide +kernel⟩, by decide⟩
set_option maxRecDepth 20000 in
set_option maxHeartbeats 2000000 in
theorem m_X8_exchange {X : gX} {ad : Nat → Nat} {a0 : Nat} {x1 : Int32} {x2 : Int32} {ν : gN} {r : Int32 × gN} (ha0 : SH[a0]? = some (0, 7)) (h : f_X8_exchange a0 x1 x2 ν = some r) : h_ct X ad yX8_exchange cX8_exchange 4 ((Option.some .int)) 1 [.ref (ad a0), .int x1, .int x2] ν (some (.int r.1), r.2) := by
  rw [f_X8_exchange] at h
  refine h_ct_of (l := [(0, .ref (ad a0)), (1, .int x1), (2, .int x2)]) (by decide) (Nat.le_of_ble_eq_true rfl) rfl ?_
  refine go_aload_n rfl 0 rfl dX8_exchange_0 ?_
  refine go_iload_n rfl 1 rfl dX8_exchange_1 ?_
  obtain ⟨hg_1, h⟩ := q_g h
  refine h_iald 7 ha0 hg_1 dX8_exchange_2 ?_
  refine go_istore_n (l' := [(3, .int (ν.1 a0 x1.toNatClampNeg)), (0, .ref (ad a0)), (1, .int x1), (2, .int x2)]) dX8_exchange_3 rfl (by decide) rfl ?_
  refine go_aload_n rfl 1 rfl dX8_exchange_4 ?_
  refine go_iload_n rfl 2 rfl dX8_exchange_5 ?_
  refine go_iload_n rfl 3 rfl dX8_exchange_6 ?_
  obtain ⟨hg_2, h⟩ := q_g h
  obtain ⟨ν_3, e_4, h⟩ := q_l h
  refine h_iast 7 ha0 hg_2 e_4 dX8_exchange_7 ?_
  refine go_iload_n rfl 0 rfl dX8_exchange_8 ?_
  exact h_iret h dX8_exchange_9 rfl
noncomputable def f_X8_far (x1 : Int32) (ν : gN) : Option (Int32 × gN) :=
  (f_X8_isSquare x1 ν).bind (fun r_1 =>
    if r_1.1 = 0 then
      (f_X8_refuse 6 r_1.2).bind (fun r_6 =>
        some (r_6.1, r_6.2))
    else
      (f_X7_chart (r_1.2.2 1 7) r_1.2).bind (fun r_3 =>
        if inb x1 49 = true then
          some (r_3.1 25 x1.toNatClampNeg, r_3)
        else none))
theorem me_X8_far : g_me yX8_far cX8_far 2 ((Option.some .int)) 1 := ⟨tw_631, tw_72, ⟨by decide +kernel, by decide +kernel, by decide +kernel⟩, by decide⟩
set_option maxRecDepth 20000 in
set_option maxHeartbeats 2000000 in
theorem m_X8_far {X : gX} {ad : Nat → Nat} {x1 : Int32} {ν : gN} {r : Int32 × gN}  (h : f_X8_far x1 ν = some r) : h_ct X ad yX8_far cX8_far 2 ((Option.some .int)) 4 [.ref (ad 0), .int x1] ν (some (.int r.1), r.2) := by
  rw [f_X8_far] at h
  refine h_ct_of (l := [(0, .ref (ad 0)), (1, .int x1)]) (by decide) (Nat.le_of_ble_eq_true rfl) rfl ?_
  refine go_iload_n rfl 1 rfl dX8_far_0 ?_
  obtain ⟨r_1, h_2, h⟩ := q_b h
  refine h_callSi (st := []) [.int x1] (m_X8_isSquare h_2) me_X8_isSquare tw_499 tw_435 (hdd_of (by decide)) ⟨Nat.zero_le _, Nat.zero_le _⟩ rfl rfl (Nat.le_of_ble_eq_true rfl) dX8_far_1 ?_
  refine go_if_ne (tgt := 14) dX8_far_4 rfl (fun hc => ?_) (fun hc => ?_)
  · replace h := q_f h hc
    refine go_aload_n rfl 0 rfl dX8_far_14 ?_
    refine h_getr 5 cl6 rfl (by decide) tw_284 24 rfl dX8_far_15 ?_
    refine go_aload_n rfl 0 rfl dX8_far_18 ?_
    refine h_getr 0 cl6 rfl (by decide) tw_279 1 rfl dX8_far_19 ?_
    refine h_getlN 7 cl2 rfl (by decide) tw_127 rfl dX8_far_22 ?_
    obtain ⟨r_3, h_4, h⟩ := q_b h
    refine h_callVv (st := []) [.long (r_1.2.2 1 7)] (m_X7_chart h_4) me_X7_chart (g_recv cl5.1 rfl) tw_632 tw_633 tw_634 (hdd_of (by decide)) ⟨Nat.zero_le _, Nat.zero_le _⟩ rfl rfl (Nat.le_of_ble_eq_true rfl) dX8_far_25 ?_
    refine go_aload_n rfl 0 rfl dX8_far_28 ?_
    refine h_getr 5 cl6 rfl (by decide) tw_284 24 rfl dX8_far_29 ?_
    refine h_getrN 0 cl5 rfl (by decide) tw_181 25 rfl dX8_far_32 ?_
    refine go_iload_n rfl 1 rfl dX8_far_35 ?_
    obtain ⟨hg_5, h⟩ := q_g h
    refine h_iald 49 rfl hg_5 dX8_far_36 ?_
    exact h_iret h dX8_far_37 rfl
  · replace h := q_t h hc
    refine go_aload_n rfl 0 rfl dX8_far_7 ?_
    refine go_bipush kz_bipush_6 dX8_far_8 ?_
    obtain ⟨r_6, h_7, h⟩ := q_b h
    refine h_callVi (st := []) [.int 6] (m_X8_refuse h_7) me_X8_refuse (g_recv cl6.1 rfl) tw_323 tw_325 tw_0 (hdd_of (by decide)) ⟨Nat.zero_le _, Nat.zero_le _⟩ rfl rfl (Nat.le_of_ble_eq_true rfl) dX8_far_10 ?_
    exact h_iret h dX8_far_13 rfl
noncomputable def f_X8_fault  (ν : gN) : Option (Int32 × gN) :=
  some (ν.1 0 10, ν)
theorem me_X8_fault : g_me yX8_fault cX8_fault 1 ((Option.some .int)) 0 := ⟨tw_627, tw_72, ⟨by decide +kernel, by decide +kernel, by decide +kernel⟩, by decide⟩
set_option maxRecDepth 20000 in
set_option maxHeartbeats 2000000 in
theorem m_X8_fault {X : gX} {ad : Nat → Nat}  {ν : gN} {r : Int32 × gN}  (h : f_X8_fault  ν = some r) : h_ct X ad yX8_fault cX8_fault 1 ((Option.some .int)) 1 [.ref (ad 0)] ν (some (.int r.1), r.2) := by
  rw [f_X8_fault] at h
  refine h_ct_of (l := [(0, .ref (ad 0))]) (by decide) (Nat.le_of_ble_eq_true rfl) rfl ?_
  refine go_aload_n rfl 0 rfl dX8_fault_0 ?_
  refine h_geti 10 cl6 rfl (by decide) tw_289 rfl dX8_fault_1 ?_
  exact h_iret h dX8_fault_4 rfl
noncomputable def f_X8_fence (x1 : Int32) (x2 : Int32) (ν : gN) : Option (Int32 × gN) :=
  (f_X4_mayBeFenced 1 x1 ν).bind (fun r_1 =>
    if r_1.1 = 0 then
      (f_X8_refuse 6 r_1.2).bind (fun r_9 =>
        some (r_9.1, r_9.2))
    else
      (f_X4_isFenced 1 x1 r_1.2).bind (fun r_3 =>
        if r_3.1 = 0 then
          (f_X4_putFence 1 x1 x2 r_3.2).bind (fun r_5 =>
            some (0, r_5))
        else
          (f_X4_putFence 1 x1 x2 r_3.2).bind (fun r_7 =>
            some (1, r_7))))
theorem me_X8_fence : g_me yX8_fence cX8_fence 4 ((Option.some .int)) 2 := ⟨tw_453, tw_72, ⟨by decide +kernel, by decide +kernel, by decide +kernel⟩, by decide⟩
set_option maxRecDepth 20000 in
set_option maxHeartbeats 2000000 in
theorem m_X8_fence {X : gX} {ad : Nat → Nat} {x1 : Int32} {x2 : Int32} {ν : gN} {r : Int32 × gN}  (h : f_X8_fence x1 x2 ν = some r) : h_ct X ad yX8_fence cX8_fence 4 ((Option.some .int)) 3 [.ref (ad 0), .int x1, .int x2] ν (some (.int r.1), r.2) := by
  rw [f_X8_fence] at h
  refine h_ct_of (l := [(0, .ref (ad 0)), (1, .int x1), (2, .int x2)]) (by decide) (Nat.le_of_ble_eq_true rfl) rfl ?_
  refine go_aload_n rfl 0 rfl dX8_fence_0 ?_
  refine h_getr 0 cl6 rfl (by decide) tw_279 1 rfl dX8_fence_1 ?_
  refine go_iload_n rfl 1 rfl dX8_fence_4 ?_
  obtain ⟨r_1, h_2, h⟩ := q_b h
  refine h_callVi (st := []) [.int x1] (m_X4_mayBeFenced isP_1 h_2) me_X4_mayBeFenced (g_recv cl2.1 rfl) tw_454 tw_455 tw_456 (hdd_of (by decide)) ⟨Nat.zero_le _, Nat.zero_le _⟩ rfl rfl (Nat.le_of_ble_eq_true rfl) dX8_fence_5 ?_
  refine go_if_ne (tgt := 18) dX8_fence_8 rfl (fun hc => ?_) (fun hc => ?_)
  · replace h := q_f h hc
    refine go_aload_n rfl 0 rfl dX8_fence_18 ?_
    refine h_getr 0 cl6 rfl (by decide) tw_279 1 rfl dX8_fence_19 ?_
    refine go_iload_n rfl 1 rfl dX8_fence_22 ?_
    obtain ⟨r_3, h_4, h⟩ := q_b h
    refine h_callVi (st := []) [.int x1] (m_X4_isFenced isP_1 h_4) me_X4_isFenced (g_recv cl2.1 rfl) tw_462 tw_438 tw_439 (hdd_of (by decide)) ⟨Nat.zero_le _, Nat.zero_le _⟩ rfl rfl (Nat.le_of_ble_eq_true rfl) dX8_fence_23 ?_
    refine go_if_eq (tgt := 33) dX8_fence_26 rfl (fun hc => ?_) (fun hc => ?_)
    · replace h := q_t h hc
      refine go_iconst kz_iconst_0 dX8_fence_33 ?_
      refine go_istore_n (l' := [(3, .int 0), (0, .ref (ad 0)), (1, .int x1), (2, .int x2)]) dX8_fence_34 rfl (by decide) rfl ?_
      refine go_aload_n rfl 1 rfl dX8_fence_35 ?_
      refine h_getr 0 cl6 rfl (by decide) tw_279 1 rfl dX8_fence_36 ?_
      refine go_iload_n rfl 2 rfl dX8_fence_39 ?_
      refine go_iload_n rfl 3 rfl dX8_fence_40 ?_
      obtain ⟨r_5, h_6, h⟩ := q_b h
      refine h_callVv (st := []) [.int x1, .int x2] (m_X4_putFence isP_1 h_6) me_X4_putFence (g_recv cl2.1 rfl) tw_463 tw_464 tw_465 (hdd_of (by decide)) ⟨Nat.zero_le _, Nat.zero_le _⟩ rfl rfl (Nat.le_of_ble_eq_true rfl) dX8_fence_41 ?_
      refine go_iload_n rfl 0 rfl dX8_fence_44 ?_
      exact h_iret h dX8_fence_45 rfl
    · replace h := q_f h hc
      refine go_iconst kz_iconst_1 dX8_fence_29 ?_
      refine go_goto (tgt := 34) dX8_fence_30 rfl ?_
      refine go_istore_n (l' := [(3, .int 1), (0, .ref (ad 0)), (1, .int x1), (2, .int x2)]) dX8_fence_34 rfl (by decide) rfl ?_
      refine go_aload_n rfl 1 rfl dX8_fence_35 ?_
      refine h_getr 0 cl6 rfl (by decide) tw_279 1 rfl dX8_fence_36 ?_
      refine go_iload_n rfl 2 rfl dX8_fence_39 ?_
      refine go_iload_n rfl 3 rfl dX8_fence_40 ?_
      obtain ⟨r_7, h_8, h⟩ := q_b h
      refine h_callVv (st := []) [.int x1, .int x2] (m_X4_putFence isP_1 h_8) me_X4_putFence (g_recv cl2.1 rfl) tw_463 tw_464 tw_465 (hdd_of (by decide)) ⟨Nat.zero_le _, Nat.zero_le _⟩ rfl rfl (Nat.le_of_ble_eq_true rfl) dX8_fence_41 ?_
      refine go_iload_n rfl 0 rfl dX8_fence_44 ?_
      exact h_iret h dX8_fence_45 rfl
  · replace h := q_t h hc
    refine go_aload_n rfl 0 rfl dX8_fence_11 ?_
    refine go_bipush kz_bipush_6 dX8_fence_12 ?_
    obtain ⟨r_9, h_10, h⟩ := q_b h
    refine h_callVi (st := []) [.int 6] (m_X8_refuse h_10) me_X8_refuse (g_recv cl6.1 rfl) tw_323 tw_325 tw_0 (hdd_of (by decide)) ⟨Nat.zero_le _, Nat.zero_le _⟩ rfl rfl (Nat.le_of_ble_eq_true rfl) dX8_fence_14 ?_
    exact h_iret h dX8_fence_17 rfl
noncomputable def f_X8_isTrack_L14 (y1 : Nat) (y2 : Int32) (y3 : Int32) (k65 : gN → Option (Int32 × gN)) : Nat → Int32 → Int32 → gN → Option (Int32 × gN)
  | 0, _, _, _ => none
  | n + 1, y4, y5, ν =>
    if y3 ≤ y5 then
      k65  ν
    else
      (f_X4_afterYard 8 y2 y4 ((ν.1 8 10) + y5) ν).bind (fun r_2 =>
        (f_X6_intAt y1 y5 r_2.2).bind (fun r_4 =>
          if r_4.1 = r_2.1 then
            f_X8_isTrack_L14 y1 y2 y3 k65 n r_2.1 (y5 + 1) r_4.2
          else
            some (0, r_4.2)))
noncomputable def f_X8_isTrack (s1 : Nat) (x2 : Int32) (x3 : Int32) (ν : gN) : Option (Int32 × gN) :=
  if inb x2 7 = true then
    f_X8_isTrack_L14 s1 x2 x3 (fun ν_6 =>
      some (1, ν_6)) FU (ν.1 13 x2.toNatClampNeg) 0 ν
  else none
theorem me_X8_isTrack : g_me yX8_isTrack cX8_isTrack 6 ((Option.some .boolean)) 3 := ⟨tw_746, tw_72, ⟨by decide +kernel, by decide +kernel, by decide +kernel⟩, by decide⟩
set_option maxRecDepth 20000 in
set_option maxHeartbeats 2000000 in
theorem m_X8_isTrack_L14 {X : gX} {ad : Nat → Nat} {y1 : Nat} {y2 : Int32} {y3 : Int32} {k65 : gN → Option (Int32 × gN)} (hy1 : isS y1) : ∀ (n : Nat) (y4 : Int32) (y5 : Int32) (ν : gN) (r : Int32 × gN), f_X8_isTrack_L14 y1 y2 y3 k65 n y4 y5 ν = some r → (∀ (ν1 : gN), k65 ν1 = some r → h_go X ad RX8 "isTrack" cX8_isTrack 6 ((Option.some .boolean)) 5 (some (.int r.1), r.2) 65 [] [] ν1) → h_go X ad RX8 "isTrack" cX8_isTrack 6 ((Option.some .boolean)) 5 (some (.int r.1), r.2) 14 [(0, .ref (ad 0)), (1, .ref (ad y1)), (2, .int y2), (3, .int y3), (4, .int y4), (5, .int y5)] [] ν := by
  intro n
  induction n with
  | zero => intro y4 y5 ν r h hk65; rw [f_X8_isTrack_L14] at h; exact q_n h
  | succ n ih =>
    intro y4 y5 ν r h hk65
    rw [f_X8_isTrack_L14] at h
    refine go_iload 5 rfl dX8_isTrack_14 ?_
    refine go_iload_n rfl 3 rfl dX8_isTrack_16 ?_
    refine go_icmp_ge (tgt := 65) dX8_isTrack_17 rfl (fun hc => ?_) (fun hc => ?_)
    · replace h := q_t h hc
      refine go_sub (l' := []) [] rfl ?_
      exact hk65  _ h
    · replace h := q_f h hc
      refine go_aload_n rfl 0 rfl dX8_isTrack_20 ?_
      refine h_getr 1 cl6 rfl (by decide) tw_280 8 rfl dX8_isTrack_21 ?_
      refine go_aload_n rfl 0 rfl dX8_isTrack_24 ?_
      refine h_getr 5 cl6 rfl (by decide) tw_284 24 rfl dX8_isTrack_25 ?_
      refine go_iload_n rfl 2 rfl dX8_isTrack_28 ?_
      refine go_iload 4 rfl dX8_isTrack_29 ?_
      refine go_aload_n rfl 0 rfl dX8_isTrack_31 ?_
      refine h_getr 1 cl6 rfl (by decide) tw_280 8 rfl dX8_isTrack_32 ?_
      refine h_getiN 10 cl2 rfl (by decide) tw_138 rfl dX8_isTrack_35 ?_
      refine go_iload 5 rfl dX8_isTrack_38 ?_
      refine go_iadd dX8_isTrack_40 ?_
      obtain ⟨r_2, h_3, h⟩ := q_b h
      refine h_callVi (st := []) [.ref (ad 24), .int y2, .int y4, .int ((ν.1 8 10) + y5)] (m_X4_afterYard isP_8 h_3) me_X4_afterYard (g_recv cl2.1 rfl) tw_747 tw_667 tw_668 (hdd_of (by decide)) ⟨Nat.zero_le _, Nat.zero_le _⟩ rfl rfl (Nat.le_of_ble_eq_true rfl) dX8_isTrack_41 ?_
      refine go_istore (l' := [(4, .int r_2.1), (0, .ref (ad 0)), (1, .ref (ad y1)), (2, .int y2), (3, .int y3), (5, .int y5)]) dX8_isTrack_44 (by decide) rfl ?_
      refine go_aload_n rfl 2 rfl dX8_isTrack_46 ?_
      refine go_iload 5 rfl dX8_isTrack_47 ?_
      obtain ⟨r_4, h_5, h⟩ := q_b h
      refine h_callVi (st := []) [.int y5] (m_X6_intAt hy1 h_5) me_X6_intAt (g_recv cl4.1 (shS hy1)) tw_748 tw_515 tw_516 (hdd_of (by decide)) ⟨Nat.zero_le _, Nat.zero_le _⟩ rfl rfl (Nat.le_of_ble_eq_true rfl) dX8_isTrack_49 ?_
      refine go_iload 0 rfl dX8_isTrack_52 ?_
      refine go_icmp_eq (tgt := 59) dX8_isTrack_54 rfl (fun hc => ?_) (fun hc => ?_)
      · replace h := q_t h hc
        refine h_iinc (l' := [(5, .int (y5 + 1)), (4, .int r_2.1), (0, .ref (ad 0)), (1, .ref (ad y1)), (2, .int y2), (3, .int y3)]) dX8_isTrack_59 5 rfl kz_iconst_1 (by decide) rfl ?_
        refine go_goto (tgt := 14) dX8_isTrack_62 rfl ?_
        refine go_sub (l' := [(0, .ref (ad 0)), (1, .ref (ad y1)), (2, .int y2), (3, .int y3), (4, .int r_2.1), (5, .int (y5 + 1))]) [2, 3, 4, 5, 1, 0] rfl ?_
        exact ih _ _ _ _ h hk65
      · replace h := q_f h hc
        refine go_iconst kz_iconst_0 dX8_isTrack_57 ?_
        exact h_zret rfl h dX8_isTrack_58 rfl
set_option maxRecDepth 20000 in
set_option maxHeartbeats 2000000 in
theorem m_X8_isTrack {X : gX} {ad : Nat → Nat} {s1 : Nat} {x2 : Int32} {x3 : Int32} {ν : gN} {r : Int32 × gN} (hs1 : isS s1) (h : f_X8_isTrack s1 x2 x3 ν = some r) : h_ct X ad yX8_isTrack cX8_isTrack 6 ((Option.some .boolean)) 5 [.ref (ad 0), .ref (ad s1), .int x2, .int x3] ν (some (.int r.1), r.2) := by
  rw [f_X8_isTrack] at h
  refine h_ct_of (l := [(0, .ref (ad 0)), (1, .ref (ad s1)), (2, .int x2), (3, .int x3)]) (by decide) (Nat.le_of_ble_eq_true rfl) rfl ?_
  refine go_aload_n rfl 0 rfl dX8_isTrack_0 ?_
  refine h_getr 1 cl6 rfl (by decide) tw_280 8 rfl dX8_isTrack_1 ?_
  refine h_getrN 4 cl2 rfl (by decide) tw_119 13 rfl dX8_isTrack_4 ?_
  refine go_iload_n rfl 2 rfl dX8_isTrack_7 ?_
  obtain ⟨hg_1, h⟩ := q_g h
  refine h_iald 7 rfl hg_1 dX8_isTrack_8 ?_
  refine go_istore (l' := [(4, .int (ν.1 13 x2.toNatClampNeg)), (0, .ref (ad 0)), (1, .ref (ad s1)), (2, .int x2), (3, .int x3)]) dX8_isTrack_9 (by decide) rfl ?_
  refine go_iconst kz_iconst_0 dX8_isTrack_11 ?_
  refine go_istore (l' := [(5, .int 0), (4, .int (ν.1 13 x2.toNatClampNeg)), (0, .ref (ad 0)), (1, .ref (ad s1)), (2, .int x2), (3, .int x3)]) dX8_isTrack_12 (by decide) rfl ?_
  refine go_sub (l' := [(0, .ref (ad 0)), (1, .ref (ad s1)), (2, .int x2), (3, .int x3), (4, .int (ν.1 13 x2.toNatClampNeg)), (5, .int 0)]) [2, 3, 4, 5, 1, 0] rfl ?_
  refine m_X8_isTrack_L14 hs1 FU _ _ _ _ h (fun ν_6 h => ?_)
  refine go_iconst kz_iconst_1 dX8_isTrack_65 ?_
  exact h_zret rfl h dX8_isTrack_66 rfl
noncomputable def f_X8_kindsThatFit_L17 (y1 : Nat) (y2 : Int32) (y3 : Int32) (k64 : Int32 → gN → Option (Int32 × gN)) : Nat → Int32 → Int32 → gN → Option (Int32 × gN)
  | 0, _, _, _ => none
  | n + 1, y4, y5, ν =>
    if 7 ≤ y5 then
      k64 y4 ν
    else
      if inb y2 7 = true then
        qL (nWI ν 9 y2.toNatClampNeg y5) (fun ν_4 =>
          (f_X8_isTrack y1 y2 y3 ν_4).bind (fun r_6 =>
            if r_6.1 = 0 then
              f_X8_kindsThatFit_L17 y1 y2 y3 k64 n (y4 ||| 0) (y5 + 1) r_6.2
            else
              f_X8_kindsThatFit_L17 y1 y2 y3 k64 n (y4 ||| (j_shl 1 y5)) (y5 + 1) r_6.2))
      else none
noncomputable def f_X8_kindsThatFit (s1 : Nat) (x2 : Int32) (x3 : Int32) (ν : gN) : Option (Int32 × gN) :=
  (f_X4_takeFrom 8 1 ν).bind (fun r_1 =>
    f_X8_kindsThatFit_L17 s1 x2 x3 (fun z4_8 ν_9 =>
      some (z4_8, ν_9)) FU 0 0 r_1)
theorem me_X8_kindsThatFit : g_me yX8_kindsThatFit cX8_kindsThatFit 6 ((Option.some .int)) 3 := ⟨tw_752, tw_72, ⟨by decide +kernel, by decide +kernel, by decide +kernel⟩, by decide⟩
set_option maxRecDepth 20000 in
set_option maxHeartbeats 2000000 in
theorem m_X8_kindsThatFit_L17 {X : gX} {ad : Nat → Nat} {y1 : Nat} {y2 : Int32} {y3 : Int32} {k64 : Int32 → gN → Option (Int32 × gN)} (hy1 : isS y1) : ∀ (n : Nat) (y4 : Int32) (y5 : Int32) (ν : gN) (r : Int32 × gN), f_X8_kindsThatFit_L17 y1 y2 y3 k64 n y4 y5 ν = some r → (∀ (z4 : Int32) (ν1 : gN), k64 z4 ν1 = some r → h_go X ad RX8 "kindsThatFit" cX8_kindsThatFit 6 ((Option.some .int)) 6 (some (.int r.1), r.2) 64 [(4, .int z4)] [] ν1) → h_go X ad RX8 "kindsThatFit" cX8_kindsThatFit 6 ((Option.some .int)) 6 (some (.int r.1), r.2) 17 [(0, .ref (ad 0)), (1, .ref (ad y1)), (2, .int y2), (3, .int y3), (4, .int y4), (5, .int y5)] [] ν := by
  intro n
  induction n with
  | zero => intro y4 y5 ν r h hk64; rw [f_X8_kindsThatFit_L17] at h; exact q_n h
  | succ n ih =>
    intro y4 y5 ν r h hk64
    rw [f_X8_kindsThatFit_L17] at h
    refine go_iload 5 rfl dX8_kindsThatFit_17 ?_
    refine go_bipush kz_bipush_7 dX8_kindsThatFit_19 ?_
    refine go_icmp_ge (tgt := 64) dX8_kindsThatFit_21 rfl (fun hc => ?_) (fun hc => ?_)
    · replace h := q_t h hc
      refine go_sub (l' := [(4, .int y4)]) [4] rfl ?_
      exact hk64 _ _ h
    · replace h := q_f h hc
      refine go_aload_n rfl 0 rfl dX8_kindsThatFit_24 ?_
      refine h_getr 1 cl6 rfl (by decide) tw_280 8 rfl dX8_kindsThatFit_25 ?_
      refine h_getrN 0 cl2 rfl (by decide) tw_107 9 rfl dX8_kindsThatFit_28 ?_
      refine go_iload_n rfl 2 rfl dX8_kindsThatFit_31 ?_
      refine go_iload 5 rfl dX8_kindsThatFit_32 ?_
      obtain ⟨hg_3, h⟩ := q_g h
      obtain ⟨ν_4, e_5, h⟩ := q_l h
      refine h_iast 7 rfl hg_3 e_5 dX8_kindsThatFit_34 ?_
      refine go_iload 4 rfl dX8_kindsThatFit_35 ?_
      refine go_aload_n rfl 0 rfl dX8_kindsThatFit_37 ?_
      refine go_aload_n rfl 1 rfl dX8_kindsThatFit_38 ?_
      refine go_iload_n rfl 2 rfl dX8_kindsThatFit_39 ?_
      refine go_iload_n rfl 3 rfl dX8_kindsThatFit_40 ?_
      obtain ⟨r_6, h_7, h⟩ := q_b h
      refine h_callVi (st := [.int y4]) [.ref (ad y1), .int y2, .int y3] (m_X8_isTrack hy1 h_7) me_X8_isTrack (g_recv cl6.1 rfl) tw_743 tw_745 tw_18 (hdd_of (by decide)) ⟨Nat.zero_le _, Nat.zero_le _⟩ rfl rfl (Nat.le_of_ble_eq_true rfl) dX8_kindsThatFit_41 ?_
      refine go_if_eq (tgt := 54) dX8_kindsThatFit_44 rfl (fun hc => ?_) (fun hc => ?_)
      · replace h := q_t h hc
        refine go_iconst kz_iconst_0 dX8_kindsThatFit_54 ?_
        refine go_ior dX8_kindsThatFit_55 ?_
        refine go_istore (l' := [(4, .int (y4 ||| 0)), (0, .ref (ad 0)), (1, .ref (ad y1)), (2, .int y2), (3, .int y3), (5, .int y5)]) dX8_kindsThatFit_56 (by decide) rfl ?_
        refine h_iinc (l' := [(5, .int (y5 + 1)), (4, .int (y4 ||| 0)), (0, .ref (ad 0)), (1, .ref (ad y1)), (2, .int y2), (3, .int y3)]) dX8_kindsThatFit_58 5 rfl kz_iconst_1 (by decide) rfl ?_
        refine go_goto (tgt := 17) dX8_kindsThatFit_61 rfl ?_
        refine go_sub (l' := [(0, .ref (ad 0)), (1, .ref (ad y1)), (2, .int y2), (3, .int y3), (4, .int (y4 ||| 0)), (5, .int (y5 + 1))]) [2, 3, 4, 5, 1, 0] rfl ?_
        exact ih _ _ _ _ h hk64
      · replace h := q_f h hc
        refine go_iconst kz_iconst_1 dX8_kindsThatFit_47 ?_
        refine go_iload 5 rfl dX8_kindsThatFit_48 ?_
        refine h_ishl dX8_kindsThatFit_50 ?_
        refine go_goto (tgt := 55) dX8_kindsThatFit_51 rfl ?_
        refine go_ior dX8_kindsThatFit_55 ?_
        refine go_istore (l' := [(4, .int (y4 ||| (j_shl 1 y5))), (0, .ref (ad 0)), (1, .ref (ad y1)), (2, .int y2), (3, .int y3), (5, .int y5)]) dX8_kindsThatFit_56 (by decide) rfl ?_
        refine h_iinc (l' := [(5, .int (y5 + 1)), (4, .int (y4 ||| (j_shl 1 y5))), (0, .ref (ad 0)), (1, .ref (ad y1)), (2, .int y2), (3, .int y3)]) dX8_kindsThatFit_58 5 rfl kz_iconst_1 (by decide) rfl ?_
        refine go_goto (tgt := 17) dX8_kindsThatFit_61 rfl ?_
        refine go_sub (l' := [(0, .ref (ad 0)), (1, .ref (ad y1)), (2, .int y2), (3, .int y3), (4, .int (y4 ||| (j_shl 1 y5))), (5, .int (y5 + 1))]) [2, 3, 4, 5, 1, 0] rfl ?_
        exact ih _ _ _ _ h hk64
set_option maxRecDepth 20000 in
set_option maxHeartbeats 2000000 in
theorem m_X8_kindsThatFit {X : gX} {ad : Nat → Nat} {s1 : Nat} {x2 : Int32} {x3 : Int32} {ν : gN} {r : Int32 × gN} (hs1 : isS s1) (h : f_X8_kindsThatFit s1 x2 x3 ν = some r) : h_ct X ad yX8_kindsThatFit cX8_kindsThatFit 6 ((Option.some .int)) 6 [.ref (ad 0), .ref (ad s1), .int x2, .int x3] ν (some (.int r.1), r.2) := by
  rw [f_X8_kindsThatFit] at h
  refine h_ct_of (l := [(0, .ref (ad 0)), (1, .ref (ad s1)), (2, .int x2), (3, .int x3)]) (by decide) (Nat.le_of_ble_eq_true rfl) rfl ?_
  refine go_aload_n rfl 0 rfl dX8_kindsThatFit_0 ?_
  refine h_getr 1 cl6 rfl (by decide) tw_280 8 rfl dX8_kindsThatFit_1 ?_
  refine go_aload_n rfl 0 rfl dX8_kindsThatFit_4 ?_
  refine h_getr 0 cl6 rfl (by decide) tw_279 1 rfl dX8_kindsThatFit_5 ?_
  obtain ⟨r_1, h_2, h⟩ := q_b h
  refine h_callVv (st := []) [.ref (ad 1)] (m_X4_takeFrom isP_8 isP_1 h_2) me_X4_takeFrom (g_recv cl2.1 rfl) tw_505 tw_506 tw_507 (hdd_of (by decide)) ⟨Nat.zero_le _, Nat.zero_le _⟩ rfl rfl (Nat.le_of_ble_eq_true rfl) dX8_kindsThatFit_8 ?_
  refine go_iconst kz_iconst_0 dX8_kindsThatFit_11 ?_
  refine go_istore (l' := [(4, .int 0), (0, .ref (ad 0)), (1, .ref (ad s1)), (2, .int x2), (3, .int x3)]) dX8_kindsThatFit_12 (by decide) rfl ?_
  refine go_iconst kz_iconst_0 dX8_kindsThatFit_14 ?_
  refine go_istore (l' := [(5, .int 0), (4, .int 0), (0, .ref (ad 0)), (1, .ref (ad s1)), (2, .int x2), (3, .int x3)]) dX8_kindsThatFit_15 (by decide) rfl ?_
  refine go_sub (l' := [(0, .ref (ad 0)), (1, .ref (ad s1)), (2, .int x2), (3, .int x3), (4, .int 0), (5, .int 0)]) [2, 3, 4, 5, 1, 0] rfl ?_
  refine m_X8_kindsThatFit_L17 hs1 FU _ _ _ _ h (fun z4_8 ν_9 h => ?_)
  refine go_iload 0 rfl dX8_kindsThatFit_64 ?_
  exact h_iret h dX8_kindsThatFit_66 rfl
noncomputable def f_X8_wantsThatFit_L17 (y1 : Nat) (y2 : Int32) (y3 : Int32) (k64 : Int32 → gN → Option (Int32 × gN)) : Nat → Int32 → Int32 → gN → Option (Int32 × gN)
  | 0, _, _, _ => none
  | n + 1, y4, y5, ν =>
    if 20 < y5 then
      k64 y4 ν
    else
      if inb y2 7 = true then
        qL (nWI ν 11 y2.toNatClampNeg y5) (fun ν_4 =>
          (f_X8_isTrack y1 y2 y3 ν_4).bind (fun r_6 =>
            if r_6.1 = 0 then
              f_X8_wantsThatFit_L17 y1 y2 y3 k64 n (y4 ||| 0) (y5 + 1) r_6.2
            else
              f_X8_wantsThatFit_L17 y1 y2 y3 k64 n (y4 ||| (j_shl 1 y5)) (y5 + 1) r_6.2))
      else none
noncomputable def f_X8_wantsThatFit (s1 : Nat) (x2 : Int32) (x3 : Int32) (ν : gN) : Option (Int32 × gN) :=
  (f_X4_takeFrom 8 1 ν).bind (fun r_1 =>
    f_X8_wantsThatFit_L17 s1 x2 x3 (fun z4_8 ν_9 =>
      some (z4_8, ν_9)) FU 0 0 r_1)
theorem me_X8_wantsThatFit : g_me yX8_wantsThatFit cX8_wantsThatFit 6 ((Option.some .int)) 3 := ⟨tw_742, tw_72, ⟨by decide +kernel, by decide +kernel, by decide +kernel⟩, by decide⟩
set_option maxRecDepth 20000 in
set_option maxHeartbeats 2000000 in
theorem m_X8_wantsThatFit_L17 {X : gX} {ad : Nat → Nat} {y1 : Nat} {y2 : Int32} {y3 : Int32} {k64 : Int32 → gN → Option (Int32 × gN)} (hy1 : isS y1) : ∀ (n : Nat) (y4 : Int32) (y5 : Int32) (ν : gN) (r : Int32 × gN), f_X8_wantsThatFit_L17 y1 y2 y3 k64 n y4 y5 ν = some r → (∀ (z4 : Int32) (ν1 : gN), k64 z4 ν1 = some r → h_go X ad RX8 "wantsThatFit" cX8_wantsThatFit 6 ((Option.some .int)) 6 (some (.int r.1), r.2) 64 [(4, .int z4)] [] ν1) → h_go X ad RX8 "wantsThatFit" cX8_wantsThatFit 6 ((Option.some .int)) 6 (some (.int r.1), r.2) 17 [(0, .ref (ad 0)), (1, .ref (ad y1)), (2, .int y2), (3, .int y3), (4, .int y4), (5, .int y5)] [] ν := by
  intro n
  induction n with
  | zero => intro y4 y5 ν r h hk64; rw [f_X8_wantsThatFit_L17] at h; exact q_n h
  | succ n ih =>
    intro y4 y5 ν r h hk64
    rw [f_X8_wantsThatFit_L17] at h
    refine go_iload 5 rfl dX8_wantsThatFit_17 ?_
    refine go_bipush kz_bipush_20 dX8_wantsThatFit_19 ?_
    refine go_icmp_gt (tgt := 64) dX8_wantsThatFit_21 rfl (fun hc => ?_) (fun hc => ?_)
    · replace h := q_t h hc
      refine go_sub (l' := [(4, .int y4)]) [4] rfl ?_
      exact hk64 _ _ h
    · replace h := q_f h hc
      refine go_aload_n rfl 0 rfl dX8_wantsThatFit_24 ?_
      refine h_getr 1 cl6 rfl (by decide) tw_280 8 rfl dX8_wantsThatFit_25 ?_
      refine h_getrN 2 cl2 rfl (by decide) tw_114 11 rfl dX8_wantsThatFit_28 ?_
      refine go_iload_n rfl 2 rfl dX8_wantsThatFit_31 ?_
      refine go_iload 5 rfl dX8_wantsThatFit_32 ?_
      obtain ⟨hg_3, h⟩ := q_g h
      obtain ⟨ν_4, e_5, h⟩ := q_l h
      refine h_iast 7 rfl hg_3 e_5 dX8_wantsThatFit_34 ?_
      refine go_iload 4 rfl dX8_wantsThatFit_35 ?_
      refine go_aload_n rfl 0 rfl dX8_wantsThatFit_37 ?_
      refine go_aload_n rfl 1 rfl dX8_wantsThatFit_38 ?_
      refine go_iload_n rfl 2 rfl dX8_wantsThatFit_39 ?_
      refine go_iload_n rfl 3 rfl dX8_wantsThatFit_40 ?_
      obtain ⟨r_6, h_7, h⟩ := q_b h
      refine h_callVi (st := [.int y4]) [.ref (ad y1), .int y2, .int y3] (m_X8_isTrack hy1 h_7) me_X8_isTrack (g_recv cl6.1 rfl) tw_743 tw_745 tw_18 (hdd_of (by decide)) ⟨Nat.zero_le _, Nat.zero_le _⟩ rfl rfl (Nat.le_of_ble_eq_true rfl) dX8_wantsThatFit_41 ?_
      refine go_if_eq (tgt := 54) dX8_wantsThatFit_44 rfl (fun hc => ?_) (fun hc => ?_)
      · replace h := q_t h hc
        refine go_iconst kz_iconst_0 dX8_wantsThatFit_54 ?_
        refine go_ior dX8_wantsThatFit_55 ?_
        refine go_istore (l' := [(4, .int (y4 ||| 0)), (0, .ref (ad 0)), (1, .ref (ad y1)), (2, .int y2), (3, .int y3), (5, .int y5)]) dX8_wantsThatFit_56 (by decide) rfl ?_
        refine h_iinc (l' := [(5, .int (y5 + 1)), (4, .int (y4 ||| 0)), (0, .ref (ad 0)), (1, .ref (ad y1)), (2, .int y2), (3, .int y3)]) dX8_wantsThatFit_58 5 rfl kz_iconst_1 (by decide) rfl ?_
        refine go_goto (tgt := 17) dX8_wantsThatFit_61 rfl ?_
        refine go_sub (l' := [(0, .ref (ad 0)), (1, .ref (ad y1)), (2, .int y2), (3, .int y3), (4, .int (y4 ||| 0)), (5, .int (y5 + 1))]) [2, 3, 4, 5, 1, 0] rfl ?_
        exact ih _ _ _ _ h hk64
      · replace h := q_f h hc
        refine go_iconst kz_iconst_1 dX8_wantsThatFit_47 ?_
        refine go_iload 5 rfl dX8_wantsThatFit_48 ?_
        refine h_ishl dX8_wantsThatFit_50 ?_
        refine go_goto (tgt := 55) dX8_wantsThatFit_51 rfl ?_
        refine go_ior dX8_wantsThatFit_55 ?_
        refine go_istore (l' := [(4, .int (y4 ||| (j_shl 1 y5))), (0, .ref (ad 0)), (1, .ref (ad y1)), (2, .int y2), (3, .int y3), (5, .int y5)]) dX8_wantsThatFit_56 (by decide) rfl ?_
        refine h_iinc (l' := [(5, .int (y5 + 1)), (4, .int (y4 ||| (j_shl 1 y5))), (0, .ref (ad 0)), (1, .ref (ad y1)), (2, .int y2), (3, .int y3)]) dX8_wantsThatFit_58 5 rfl kz_iconst_1 (by decide) rfl ?_
        refine go_goto (tgt := 17) dX8_wantsThatFit_61 rfl ?_
        refine go_sub (l' := [(0, .ref (ad 0)), (1, .ref (ad y1)), (2, .int y2), (3, .int y3), (4, .int (y4 ||| (j_shl 1 y5))), (5, .int (y5 + 1))]) [2, 3, 4, 5, 1, 0] rfl ?_
        exact ih _ _ _ _ h hk64
set_option maxRecDepth 20000 in
set_option maxHeartbeats 2000000 in
theorem m_X8_wantsThatFit {X : gX} {ad : Nat → Nat} {s1 : Nat} {x2 : Int32} {x3 : Int32} {ν : gN} {r : Int32 × gN} (hs1 : isS s1) (h : f_X8_wantsThatFit s1 x2 x3 ν = some r) : h_ct X ad yX8_wantsThatFit cX8_wantsThatFit 6 ((Option.some .int)) 6 [.ref (ad 0), .ref (ad s1), .int x2, .int x3] ν (some (.int r.1), r.2) := by
  rw [f_X8_wantsThatFit] at h
  refine h_ct_of (l := [(0, .ref (ad 0)), (1, .ref (ad s1)), (2, .int x2), (3, .int x3)]) (by decide) (Nat.le_of_ble_eq_true rfl) rfl ?_
  refine go_aload_n rfl 0 rfl dX8_wantsThatFit_0 ?_
  refine h_getr 1 cl6 rfl (by decide) tw_280 8 rfl dX8_wantsThatFit_1 ?_
  refine go_aload_n rfl 0 rfl dX8_wantsThatFit_4 ?_
  refine h_getr 0 cl6 rfl (by decide) tw_279 1 rfl dX8_wantsThatFit_5 ?_
  obtain ⟨r_1, h_2, h⟩ := q_b h
  refine h_callVv (st := []) [.ref (ad 1)] (m_X4_takeFrom isP_8 isP_1 h_2) me_X4_takeFrom (g_recv cl2.1 rfl) tw_505 tw_506 tw_507 (hdd_of (by decide)) ⟨Nat.zero_le _, Nat.zero_le _⟩ rfl rfl (Nat.le_of_ble_eq_true rfl) dX8_wantsThatFit_8 ?_
  refine go_iconst kz_iconst_0 dX8_wantsThatFit_11 ?_
  refine go_istore (l' := [(4, .int 0), (0, .ref (ad 0)), (1, .ref (ad s1)), (2, .int x2), (3, .int x3)]) dX8_wantsThatFit_12 (by decide) rfl ?_
  refine go_iconst kz_iconst_0 dX8_wantsThatFit_14 ?_
  refine go_istore (l' := [(5, .int 0), (4, .int 0), (0, .ref (ad 0)), (1, .ref (ad s1)), (2, .int x2), (3, .int x3)]) dX8_wantsThatFit_15 (by decide) rfl ?_
  refine go_sub (l' := [(0, .ref (ad 0)), (1, .ref (ad s1)), (2, .int x2), (3, .int x3), (4, .int 0), (5, .int 0)]) [2, 3, 4, 5, 1, 0] rfl ?_
  refine m_X8_wantsThatFit_L17 hs1 FU _ _ _ _ h (fun z4_8 ν_9 h => ?_)
  refine go_iload 0 rfl dX8_wantsThatFit_64 ?_
  exact h_iret h dX8_wantsThatFit_66 rfl
noncomputable def f_X8_whyNoRow (x1 : Int32) (ν : gN) : Option (Int32 × gN) :=
  (f_X8_isShelf x1 ν).bind (fun r_1 =>
    if r_1.1 = 0 then
      some (1, r_1.2)
    else
      if inb x1 8 = true then
        (f_X6_hasPerson (37 + 2 * x1.toNatClampNeg) r_1.2).bind (fun r_4 =>
          if r_4.1 = 0 then
            if inb x1 8 = true then
              (f_X6_hasRow (37 + 2 * x1.toNatClampNeg) r_4.2).bind (fun r_7 =>
                if r_7.1 = 0 then
                  some (3, r_7.2)
                else
                  some (0, r_7.2))
            else none
          else
            some (2, r_4.2))
      else none)
theorem me_X8_whyNoRow : g_me yX8_whyNoRow cX8_whyNoRow 2 ((Option.some .int)) 1 := ⟨tw_341, tw_72, ⟨by decide +kernel, by decide +kernel, by decide +kernel⟩, by decide⟩
set_option maxRecDepth 20000 in
set_option maxHeartbeats 2000000 in
theorem m_X8_whyNoRow {X : gX} {ad : Nat → Nat} {x1 : Int32} {ν : gN} {r : Int32 × gN}  (h : f_X8_whyNoRow x1 ν = some r) : h_ct X ad yX8_whyNoRow cX8_whyNoRow 2 ((Option.some .int)) 3 [.ref (ad 0), .int x1] ν (some (.int r.1), r.2) := by
  rw [f_X8_whyNoRow] at h
  refine h_ct_of (l := [(0, .ref (ad 0)), (1, .int x1)]) (by decide) (Nat.le_of_ble_eq_true rfl) rfl ?_
  refine go_iload_n rfl 1 rfl dX8_whyNoRow_0 ?_
  obtain ⟨r_1, h_2, h⟩ := q_b h
  refine h_callSi (st := []) [.int x1] (m_X8_isShelf h_2) me_X8_isShelf tw_317 tw_318 (hdd_of (by decide)) ⟨Nat.zero_le _, Nat.zero_le _⟩ rfl rfl (Nat.le_of_ble_eq_true rfl) dX8_whyNoRow_1 ?_
  refine go_if_ne (tgt := 9) dX8_whyNoRow_4 rfl (fun hc => ?_) (fun hc => ?_)
  · replace h := q_f h hc
    refine go_aload_n rfl 0 rfl dX8_whyNoRow_9 ?_
    refine h_getr 3 cl6 rfl (by decide) tw_282 22 rfl dX8_whyNoRow_10 ?_
    refine go_iload_n rfl 1 rfl dX8_whyNoRow_13 ?_
    obtain ⟨hg_3, h⟩ := q_g h
    refine h_aald hg_3 dX8_whyNoRow_14 ?_
    obtain ⟨r_4, h_5, h⟩ := q_b h
    refine h_callVi (st := []) [] (m_X6_hasPerson (isS_in hg_3) h_5) me_X6_hasPerson (g_recv cl4.1 (shS (isS_in hg_3))) tw_342 tw_343 tw_344 (hdd_of (by decide)) ⟨Nat.zero_le _, Nat.zero_le _⟩ rfl rfl (Nat.le_of_ble_eq_true rfl) dX8_whyNoRow_15 ?_
    refine go_if_eq (tgt := 23) dX8_whyNoRow_18 rfl (fun hc => ?_) (fun hc => ?_)
    · replace h := q_t h hc
      refine go_aload_n rfl 0 rfl dX8_whyNoRow_23 ?_
      refine h_getr 3 cl6 rfl (by decide) tw_282 22 rfl dX8_whyNoRow_24 ?_
      refine go_iload_n rfl 1 rfl dX8_whyNoRow_27 ?_
      obtain ⟨hg_6, h⟩ := q_g h
      refine h_aald hg_6 dX8_whyNoRow_28 ?_
      obtain ⟨r_7, h_8, h⟩ := q_b h
      refine h_callVi (st := []) [] (m_X6_hasRow (isS_in hg_6) h_8) me_X6_hasRow (g_recv cl4.1 (shS (isS_in hg_6))) tw_346 tw_347 tw_348 (hdd_of (by decide)) ⟨Nat.zero_le _, Nat.zero_le _⟩ rfl rfl (Nat.le_of_ble_eq_true rfl) dX8_whyNoRow_29 ?_
      refine go_if_eq (tgt := 39) dX8_whyNoRow_32 rfl (fun hc => ?_) (fun hc => ?_)
      · replace h := q_t h hc
        refine go_iconst kz_iconst_3 dX8_whyNoRow_39 ?_
        exact h_iret h dX8_whyNoRow_40 rfl
      · replace h := q_f h hc
        refine go_iconst kz_iconst_0 dX8_whyNoRow_35 ?_
        refine go_goto (tgt := 40) dX8_whyNoRow_36 rfl ?_
        exact h_iret h dX8_whyNoRow_40 rfl
    · replace h := q_f h hc
      refine go_iconst kz_iconst_2 dX8_whyNoRow_21 ?_
      exact h_iret h dX8_whyNoRow_22 rfl
  · replace h := q_t h hc
    refine go_iconst kz_iconst_1 dX8_whyNoRow_7 ?_
    exact h_iret h dX8_whyNoRow_8 rfl
noncomputable def f_X8_fits (x1 : Int32) (x2 : Int32) (x3 : Int32) (x4 : Int32) (ν : gN) : Option (Int32 × gN) :=
  (f_X8_isShelf x1 ν).bind (fun r_1 =>
    if r_1.1 = 0 then
      (f_X8_refuse 1 r_1.2).bind (fun r_3 =>
        some (r_3.1, r_3.2))
    else
      (f_X4_isPerson 1 x2 r_1.2).bind (fun r_5 =>
        if r_5.1 = 0 then
          (f_X8_refuse 1 r_5.2).bind (fun r_38 =>
            some (r_38.1, r_38.2))
        else
          (f_X8_whyNoRow x1 r_5.2).bind (fun r_7 =>
            if r_7.1 = 0 then
              if 0 ≤ x3 then
                if inb x1 8 = true then
                  if (r_7.2.1 (37 + 2 * x1.toNatClampNeg) 2) < x3 then
                    (f_X8_refuse 5 r_7.2).bind (fun r_10 =>
                      some (r_10.1, r_10.2))
                  else
                    if x4 = 0 then
                      if x3 ≤ 30 then
                        (f_X7_chart (r_7.2.2 1 7) r_7.2).bind (fun r_12 =>
                          if x4 = 0 then
                            if inb x1 8 = true then
                              (f_X8_wantsThatFit (37 + 2 * x1.toNatClampNeg) x2 x3 r_12).bind (fun r_18 =>
                                some (r_18.1, r_18.2))
                            else none
                          else
                            if inb x1 8 = true then
                              (f_X8_kindsThatFit (37 + 2 * x1.toNatClampNeg) x2 x3 r_12).bind (fun r_15 =>
                                some (r_15.1, r_15.2))
                            else none)
                      else
                        (f_X8_refuse 6 r_7.2).bind (fun r_20 =>
                          some (r_20.1, r_20.2))
                    else
                      if x4 = 1 then
                        if x3 ≤ 30 then
                          (f_X7_chart (r_7.2.2 1 7) r_7.2).bind (fun r_22 =>
                            if x4 = 0 then
                              if inb x1 8 = true then
                                (f_X8_wantsThatFit (37 + 2 * x1.toNatClampNeg) x2 x3 r_22).bind (fun r_28 =>
                                  some (r_28.1, r_28.2))
                              else none
                            else
                              if inb x1 8 = true then
                                (f_X8_kindsThatFit (37 + 2 * x1.toNatClampNeg) x2 x3 r_22).bind (fun r_25 =>
                                  some (r_25.1, r_25.2))
                              else none)
                        else
                          (f_X8_refuse 6 r_7.2).bind (fun r_30 =>
                            some (r_30.1, r_30.2))
                      else
                        (f_X8_refuse 5 r_7.2).bind (fun r_32 =>
                          some (r_32.1, r_32.2))
                else none
              else
                (f_X8_refuse 4 r_7.2).bind (fun r_34 =>
                  some (r_34.1, r_34.2))
            else
              (f_X8_refuse r_7.1 r_7.2).bind (fun r_36 =>
                some (r_36.1, r_36.2)))))
theorem me_X8_fits : g_me yX8_fits cX8_fits 6 ((Option.some .int)) 4 := ⟨tw_738, tw_72, ⟨by decide +kernel, by decide +kernel, by decide +kernel⟩, by decide⟩
set_option maxRecDepth 20000 in
set_option maxHeartbeats 2000000 in
theorem m_X8_fits {X : gX} {ad : Nat → Nat} {x1 : Int32} {x2 : Int32} {x3 : Int32} {x4 : Int32} {ν : gN} {r : Int32 × gN}  (h : f_X8_fits x1 x2 x3 x4 ν = some r) : h_ct X ad yX8_fits cX8_fits 6 ((Option.some .int)) 7 [.ref (ad 0), .int x1, .int x2, .int x3, .int x4] ν (some (.int r.1), r.2) := by
  rw [f_X8_fits] at h
  refine h_ct_of (l := [(0, .ref (ad 0)), (1, .int x1), (2, .int x2), (3, .int x3), (4, .int x4)]) (by decide) (Nat.le_of_ble_eq_true rfl) rfl ?_
  refine go_iload_n rfl 1 rfl dX8_fits_0 ?_
  obtain ⟨r_1, h_2, h⟩ := q_b h
  refine h_callSi (st := []) [.int x1] (m_X8_isShelf h_2) me_X8_isShelf tw_317 tw_318 (hdd_of (by decide)) ⟨Nat.zero_le _, Nat.zero_le _⟩ rfl rfl (Nat.le_of_ble_eq_true rfl) dX8_fits_1 ?_
  refine go_if_eq (tgt := 18) dX8_fits_4 rfl (fun hc => ?_) (fun hc => ?_)
  · replace h := q_t h hc
    refine go_aload_n rfl 0 rfl dX8_fits_18 ?_
    refine go_iconst kz_iconst_1 dX8_fits_19 ?_
    obtain ⟨r_3, h_4, h⟩ := q_b h
    refine h_callVi (st := []) [.int 1] (m_X8_refuse h_4) me_X8_refuse (g_recv cl6.1 rfl) tw_323 tw_325 tw_0 (hdd_of (by decide)) ⟨Nat.zero_le _, Nat.zero_le _⟩ rfl rfl (Nat.le_of_ble_eq_true rfl) dX8_fits_20 ?_
    exact h_iret h dX8_fits_23 rfl
  · replace h := q_f h hc
    refine go_aload_n rfl 0 rfl dX8_fits_7 ?_
    refine h_getr 0 cl6 rfl (by decide) tw_279 1 rfl dX8_fits_8 ?_
    refine go_iload_n rfl 2 rfl dX8_fits_11 ?_
    obtain ⟨r_5, h_6, h⟩ := q_b h
    refine h_callVi (st := []) [.int x2] (m_X4_isPerson isP_1 h_6) me_X4_isPerson (g_recv cl2.1 rfl) tw_386 tw_387 tw_388 (hdd_of (by decide)) ⟨Nat.zero_le _, Nat.zero_le _⟩ rfl rfl (Nat.le_of_ble_eq_true rfl) dX8_fits_12 ?_
    refine go_if_ne (tgt := 24) dX8_fits_15 rfl (fun hc => ?_) (fun hc => ?_)
    · replace h := q_f h hc
      refine go_aload_n rfl 0 rfl dX8_fits_24 ?_
      refine go_iload_n rfl 1 rfl dX8_fits_25 ?_
      obtain ⟨r_7, h_8, h⟩ := q_b h
      refine h_callVi (st := []) [.int x1] (m_X8_whyNoRow h_8) me_X8_whyNoRow (g_recv cl6.1 rfl) tw_338 tw_340 tw_1 (hdd_of (by decide)) ⟨Nat.zero_le _, Nat.zero_le _⟩ rfl rfl (Nat.le_of_ble_eq_true rfl) dX8_fits_26 ?_
      refine go_istore (l' := [(5, .int r_7.1), (0, .ref (ad 0)), (1, .int x1), (2, .int x2), (3, .int x3), (4, .int x4)]) dX8_fits_29 (by decide) rfl ?_
      refine go_iload 0 rfl dX8_fits_31 ?_
      refine go_if_eq (tgt := 43) dX8_fits_33 rfl (fun hc => ?_) (fun hc => ?_)
      · replace h := q_t h hc
        refine go_iload_n rfl 4 rfl dX8_fits_43 ?_
        refine go_if_ge (tgt := 53) dX8_fits_44 rfl (fun hc => ?_) (fun hc => ?_)
        · replace h := q_t h hc
          refine go_iload_n rfl 4 rfl dX8_fits_53 ?_
          refine go_aload_n rfl 1 rfl dX8_fits_54 ?_
          refine h_getr 3 cl6 rfl (by decide) tw_282 22 rfl dX8_fits_55 ?_
          refine go_iload_n rfl 2 rfl dX8_fits_58 ?_
          obtain ⟨hg_9, h⟩ := q_g h
          refine h_aald hg_9 dX8_fits_59 ?_
          refine h_getiN 2 cl4 (shS (isS_in hg_9)) (by decide) tw_271 rfl dX8_fits_60 ?_
          refine go_icmp_gt (tgt := 77) dX8_fits_63 rfl (fun hc => ?_) (fun hc => ?_)
          · replace h := q_t h hc
            refine go_aload_n rfl 1 rfl dX8_fits_77 ?_
            refine go_iconst kz_iconst_5 dX8_fits_78 ?_
            obtain ⟨r_10, h_11, h⟩ := q_b h
            refine h_callVi (st := []) [.int 5] (m_X8_refuse h_11) me_X8_refuse (g_recv cl6.1 rfl) tw_323 tw_325 tw_0 (hdd_of (by decide)) ⟨Nat.zero_le _, Nat.zero_le _⟩ rfl rfl (Nat.le_of_ble_eq_true rfl) dX8_fits_79 ?_
            exact h_iret h dX8_fits_82 rfl
          · replace h := q_f h hc
            refine go_iload 5 rfl dX8_fits_66 ?_
            refine go_if_eq (tgt := 83) dX8_fits_68 rfl (fun hc => ?_) (fun hc => ?_)
            · replace h := q_t h hc
              refine go_iload_n rfl 4 rfl dX8_fits_83 ?_
              refine go_bipush kz_bipush_30 dX8_fits_84 ?_
              refine go_icmp_le (tgt := 96) dX8_fits_86 rfl (fun hc => ?_) (fun hc => ?_)
              · replace h := q_t h hc
                refine go_aload_n rfl 1 rfl dX8_fits_96 ?_
                refine h_getr 5 cl6 rfl (by decide) tw_284 24 rfl dX8_fits_97 ?_
                refine go_aload_n rfl 1 rfl dX8_fits_100 ?_
                refine h_getr 0 cl6 rfl (by decide) tw_279 1 rfl dX8_fits_101 ?_
                refine h_getlN 7 cl2 rfl (by decide) tw_127 rfl dX8_fits_104 ?_
                obtain ⟨r_12, h_13, h⟩ := q_b h
                refine h_callVv (st := []) [.long (r_7.2.2 1 7)] (m_X7_chart h_13) me_X7_chart (g_recv cl5.1 rfl) tw_632 tw_633 tw_634 (hdd_of (by decide)) ⟨Nat.zero_le _, Nat.zero_le _⟩ rfl rfl (Nat.le_of_ble_eq_true rfl) dX8_fits_107 ?_
                refine go_iload 5 rfl dX8_fits_110 ?_
                refine go_if_ne (tgt := 130) dX8_fits_112 rfl (fun hc => ?_) (fun hc => ?_)
                · replace h := q_f h hc
                  refine go_aload_n rfl 1 rfl dX8_fits_130 ?_
                  refine go_aload_n rfl 1 rfl dX8_fits_131 ?_
                  refine h_getr 3 cl6 rfl (by decide) tw_282 22 rfl dX8_fits_132 ?_
                  refine go_iload_n rfl 2 rfl dX8_fits_135 ?_
                  obtain ⟨hg_14, h⟩ := q_g h
                  refine h_aald hg_14 dX8_fits_136 ?_
                  refine go_iload_n rfl 3 rfl dX8_fits_137 ?_
                  refine go_iload_n rfl 4 rfl dX8_fits_138 ?_
                  obtain ⟨r_15, h_16, h⟩ := q_b h
                  refine h_callVi (st := []) [.ref (ad (37 + 2 * x1.toNatClampNeg)), .int x2, .int x3] (m_X8_kindsThatFit (isS_in hg_14) h_16) me_X8_kindsThatFit (g_recv cl6.1 rfl) tw_749 tw_751 tw_19 (hdd_of (by decide)) ⟨Nat.zero_le _, Nat.zero_le _⟩ rfl rfl (Nat.le_of_ble_eq_true rfl) dX8_fits_139 ?_
                  exact h_iret h dX8_fits_142 rfl
                · replace h := q_t h hc
                  refine go_aload_n rfl 1 rfl dX8_fits_115 ?_
                  refine go_aload_n rfl 1 rfl dX8_fits_116 ?_
                  refine h_getr 3 cl6 rfl (by decide) tw_282 22 rfl dX8_fits_117 ?_
                  refine go_iload_n rfl 2 rfl dX8_fits_120 ?_
                  obtain ⟨hg_17, h⟩ := q_g h
                  refine h_aald hg_17 dX8_fits_121 ?_
                  refine go_iload_n rfl 3 rfl dX8_fits_122 ?_
                  refine go_iload_n rfl 4 rfl dX8_fits_123 ?_
                  obtain ⟨r_18, h_19, h⟩ := q_b h
                  refine h_callVi (st := []) [.ref (ad (37 + 2 * x1.toNatClampNeg)), .int x2, .int x3] (m_X8_wantsThatFit (isS_in hg_17) h_19) me_X8_wantsThatFit (g_recv cl6.1 rfl) tw_739 tw_741 tw_17 (hdd_of (by decide)) ⟨Nat.zero_le _, Nat.zero_le _⟩ rfl rfl (Nat.le_of_ble_eq_true rfl) dX8_fits_124 ?_
                  refine go_goto (tgt := 142) dX8_fits_127 rfl ?_
                  exact h_iret h dX8_fits_142 rfl
              · replace h := q_f h hc
                refine go_aload_n rfl 1 rfl dX8_fits_89 ?_
                refine go_bipush kz_bipush_6 dX8_fits_90 ?_
                obtain ⟨r_20, h_21, h⟩ := q_b h
                refine h_callVi (st := []) [.int 6] (m_X8_refuse h_21) me_X8_refuse (g_recv cl6.1 rfl) tw_323 tw_325 tw_0 (hdd_of (by decide)) ⟨Nat.zero_le _, Nat.zero_le _⟩ rfl rfl (Nat.le_of_ble_eq_true rfl) dX8_fits_92 ?_
                exact h_iret h dX8_fits_95 rfl
            · replace h := q_f h hc
              refine go_iload 5 rfl dX8_fits_71 ?_
              refine go_iconst kz_iconst_1 dX8_fits_73 ?_
              refine go_icmp_eq (tgt := 83) dX8_fits_74 rfl (fun hc => ?_) (fun hc => ?_)
              · replace h := q_t h hc
                refine go_iload_n rfl 4 rfl dX8_fits_83 ?_
                refine go_bipush kz_bipush_30 dX8_fits_84 ?_
                refine go_icmp_le (tgt := 96) dX8_fits_86 rfl (fun hc => ?_) (fun hc => ?_)
                · replace h := q_t h hc
                  refine go_aload_n rfl 1 rfl dX8_fits_96 ?_
                  refine h_getr 5 cl6 rfl (by decide) tw_284 24 rfl dX8_fits_97 ?_
                  refine go_aload_n rfl 1 rfl dX8_fits_100 ?_
                  refine h_getr 0 cl6 rfl (by decide) tw_279 1 rfl dX8_fits_101 ?_
                  refine h_getlN 7 cl2 rfl (by decide) tw_127 rfl dX8_fits_104 ?_
                  obtain ⟨r_22, h_23, h⟩ := q_b h
                  refine h_callVv (st := []) [.long (r_7.2.2 1 7)] (m_X7_chart h_23) me_X7_chart (g_recv cl5.1 rfl) tw_632 tw_633 tw_634 (hdd_of (by decide)) ⟨Nat.zero_le _, Nat.zero_le _⟩ rfl rfl (Nat.le_of_ble_eq_true rfl) dX8_fits_107 ?_
                  refine go_iload 5 rfl dX8_fits_110 ?_
                  refine go_if_ne (tgt := 130) dX8_fits_112 rfl (fun hc => ?_) (fun hc => ?_)
                  · replace h := q_f h hc
                    refine go_aload_n rfl 1 rfl dX8_fits_130 ?_
                    refine go_aload_n rfl 1 rfl dX8_fits_131 ?_
                    refine h_getr 3 cl6 rfl (by decide) tw_282 22 rfl dX8_fits_132 ?_
                    refine go_iload_n rfl 2 rfl dX8_fits_135 ?_
                    obtain ⟨hg_24, h⟩ := q_g h
                    refine h_aald hg_24 dX8_fits_136 ?_
                    refine go_iload_n rfl 3 rfl dX8_fits_137 ?_
                    refine go_iload_n rfl 4 rfl dX8_fits_138 ?_
                    obtain ⟨r_25, h_26, h⟩ := q_b h
                    refine h_callVi (st := []) [.ref (ad (37 + 2 * x1.toNatClampNeg)), .int x2, .int x3] (m_X8_kindsThatFit (isS_in hg_24) h_26) me_X8_kindsThatFit (g_recv cl6.1 rfl) tw_749 tw_751 tw_19 (hdd_of (by decide)) ⟨Nat.zero_le _, Nat.zero_le _⟩ rfl rfl (Nat.le_of_ble_eq_true rfl) dX8_fits_139 ?_
                    exact h_iret h dX8_fits_142 rfl
                  · replace h := q_t h hc
                    refine go_aload_n rfl 1 rfl dX8_fits_115 ?_
                    refine go_aload_n rfl 1 rfl dX8_fits_116 ?_
                    refine h_getr 3 cl6 rfl (by decide) tw_282 22 rfl dX8_fits_117 ?_
                    refine go_iload_n rfl 2 rfl dX8_fits_120 ?_
                    obtain ⟨hg_27, h⟩ := q_g h
                    refine h_aald hg_27 dX8_fits_121 ?_
                    refine go_iload_n rfl 3 rfl dX8_fits_122 ?_
                    refine go_iload_n rfl 4 rfl dX8_fits_123 ?_
                    obtain ⟨r_28, h_29, h⟩ := q_b h
                    refine h_callVi (st := []) [.ref (ad (37 + 2 * x1.toNatClampNeg)), .int x2, .int x3] (m_X8_wantsThatFit (isS_in hg_27) h_29) me_X8_wantsThatFit (g_recv cl6.1 rfl) tw_739 tw_741 tw_17 (hdd_of (by decide)) ⟨Nat.zero_le _, Nat.zero_le _⟩ rfl rfl (Nat.le_of_ble_eq_true rfl) dX8_fits_124 ?_
                    refine go_goto (tgt := 142) dX8_fits_127 rfl ?_
                    exact h_iret h dX8_fits_142 rfl
                · replace h := q_f h hc
                  refine go_aload_n rfl 1 rfl dX8_fits_89 ?_
                  refine go_bipush kz_bipush_6 dX8_fits_90 ?_
                  obtain ⟨r_30, h_31, h⟩ := q_b h
                  refine h_callVi (st := []) [.int 6] (m_X8_refuse h_31) me_X8_refuse (g_recv cl6.1 rfl) tw_323 tw_325 tw_0 (hdd_of (by decide)) ⟨Nat.zero_le _, Nat.zero_le _⟩ rfl rfl (Nat.le_of_ble_eq_true rfl) dX8_fits_92 ?_
                  exact h_iret h dX8_fits_95 rfl
              · replace h := q_f h hc
                refine go_aload_n rfl 1 rfl dX8_fits_77 ?_
                refine go_iconst kz_iconst_5 dX8_fits_78 ?_
                obtain ⟨r_32, h_33, h⟩ := q_b h
                refine h_callVi (st := []) [.int 5] (m_X8_refuse h_33) me_X8_refuse (g_recv cl6.1 rfl) tw_323 tw_325 tw_0 (hdd_of (by decide)) ⟨Nat.zero_le _, Nat.zero_le _⟩ rfl rfl (Nat.le_of_ble_eq_true rfl) dX8_fits_79 ?_
                exact h_iret h dX8_fits_82 rfl
        · replace h := q_f h hc
          refine go_aload_n rfl 1 rfl dX8_fits_47 ?_
          refine go_iconst kz_iconst_4 dX8_fits_48 ?_
          obtain ⟨r_34, h_35, h⟩ := q_b h
          refine h_callVi (st := []) [.int 4] (m_X8_refuse h_35) me_X8_refuse (g_recv cl6.1 rfl) tw_323 tw_325 tw_0 (hdd_of (by decide)) ⟨Nat.zero_le _, Nat.zero_le _⟩ rfl rfl (Nat.le_of_ble_eq_true rfl) dX8_fits_49 ?_
          exact h_iret h dX8_fits_52 rfl
      · replace h := q_f h hc
        refine go_aload_n rfl 1 rfl dX8_fits_36 ?_
        refine go_iload 0 rfl dX8_fits_37 ?_
        obtain ⟨r_36, h_37, h⟩ := q_b h
        refine h_callVi (st := []) [.int r_7.1] (m_X8_refuse h_37) me_X8_refuse (g_recv cl6.1 rfl) tw_323 tw_325 tw_0 (hdd_of (by decide)) ⟨Nat.zero_le _, Nat.zero_le _⟩ rfl rfl (Nat.le_of_ble_eq_true rfl) dX8_fits_39 ?_
        exact h_iret h dX8_fits_42 rfl
    · replace h := q_t h hc
      refine go_aload_n rfl 0 rfl dX8_fits_18 ?_
      refine go_iconst kz_iconst_1 dX8_fits_19 ?_
      obtain ⟨r_38, h_39, h⟩ := q_b h
      refine h_callVi (st := []) [.int 1] (m_X8_refuse h_39) me_X8_refuse (g_recv cl6.1 rfl) tw_323 tw_325 tw_0 (hdd_of (by decide)) ⟨Nat.zero_le _, Nat.zero_le _⟩ rfl rfl (Nat.le_of_ble_eq_true rfl) dX8_fits_20 ?_
      exact h_iret h dX8_fits_23 rfl
noncomputable def f_X8_hide_L80 (y2 : Int32) (k164 : Int32 → gN → Option (Int32 × gN)) : Nat → Int32 → Int32 → gN → Option (Int32 × gN)
  | 0, _, _, _ => none
  | n + 1, y3, y4, ν =>
    if 49 ≤ y4 then
      k164 y3 ν
    else
      if inb y4 49 = true then
        if y2 < (ν.1 28 y4.toNatClampNeg) then
          if (0 : Int32) = 0 then
            f_X8_hide_L80 y2 k164 n y3 (y4 + 1) ν
          else
            if y3 = (-1) then
              f_X8_hide_L80 y2 k164 n y4 (y4 + 1) ν
            else
              if inb y4 49 = true then
                if inb y3 49 = true then
                  if (ν.1 25 y4.toNatClampNeg) ≤ (ν.1 25 y3.toNatClampNeg) then
                    f_X8_hide_L80 y2 k164 n y3 (y4 + 1) ν
                  else
                    f_X8_hide_L80 y2 k164 n y4 (y4 + 1) ν
                else none
              else none
        else
          if inb y4 49 = true then
            if (ν.1 25 y4.toNatClampNeg) = 99 then
              if (0 : Int32) = 0 then
                f_X8_hide_L80 y2 k164 n y3 (y4 + 1) ν
              else
                if y3 = (-1) then
                  f_X8_hide_L80 y2 k164 n y4 (y4 + 1) ν
                else
                  if inb y4 49 = true then
                    if inb y3 49 = true then
                      if (ν.1 25 y4.toNatClampNeg) ≤ (ν.1 25 y3.toNatClampNeg) then
                        f_X8_hide_L80 y2 k164 n y3 (y4 + 1) ν
                      else
                        f_X8_hide_L80 y2 k164 n y4 (y4 + 1) ν
                    else none
                  else none
            else
              if (1 : Int32) = 0 then
                f_X8_hide_L80 y2 k164 n y3 (y4 + 1) ν
              else
                if y3 = (-1) then
                  f_X8_hide_L80 y2 k164 n y4 (y4 + 1) ν
                else
                  if inb y4 49 = true then
                    if inb y3 49 = true then
                      if (ν.1 25 y4.toNatClampNeg) ≤ (ν.1 25 y3.toNatClampNeg) then
                        f_X8_hide_L80 y2 k164 n y3 (y4 + 1) ν
                      else
                        f_X8_hide_L80 y2 k164 n y4 (y4 + 1) ν
                    else none
                  else none
          else none
      else none
noncomputable def f_X8_hide (x1 : Int32) (x2 : Int32) (ν : gN) : Option (Int32 × gN) :=
  (f_X4_isPerson 1 x1 ν).bind (fun r_1 =>
    if r_1.1 = 0 then
      (f_X8_refuseApart 1 r_1.2).bind (fun r_22 =>
        some (r_22.1, r_22.2))
    else
      (f_X8_isAhead x2 r_1.2).bind (fun r_3 =>
        if r_3.1 = 0 then
          (f_X8_refuseApart 6 r_3.2).bind (fun r_20 =>
            some (r_20.1, r_20.2))
        else
          (f_X7_chart (r_3.2.2 1 7) r_3.2).bind (fun r_5 =>
            if inb x1 7 = true then
              (f_X7_spread (r_5.2 1 7) (r_5.1 6 x1.toNatClampNeg) 28 r_5).bind (fun r_8 =>
                f_X8_hide_L80 x2 (fun z3_18 ν_19 =>
                  some (z3_18, ν_19)) FU (-1) 0 r_8)
            else none)))
theorem me_X8_hide : g_me yX8_hide cX8_hide 6 ((Option.some .int)) 2 := ⟨tw_712, tw_72, ⟨by decide +kernel, by decide +kernel, by decide +kernel⟩, by decide⟩
set_option maxRecDepth 20000 in
set_option maxHeartbeats 2000000 in
theorem m_X8_hide_L80 {X : gX} {ad : Nat → Nat} {y2 : Int32} {k164 : Int32 → gN → Option (Int32 × gN)}  : ∀ (n : Nat) (y3 : Int32) (y4 : Int32) (ν : gN) (r : Int32 × gN), f_X8_hide_L80 y2 k164 n y3 y4 ν = some r → (∀ (z3 : Int32) (ν1 : gN), k164 z3 ν1 = some r → h_go X ad RX8 "hide" cX8_hide 6 ((Option.some .int)) 4 (some (.int r.1), r.2) 164 [(3, .int z3)] [] ν1) → h_go X ad RX8 "hide" cX8_hide 6 ((Option.some .int)) 4 (some (.int r.1), r.2) 80 [(0, .ref (ad 0)), (2, .int y2), (3, .int y3), (4, .int y4)] [] ν := by
  intro n
  induction n with
  | zero => intro y3 y4 ν r h hk164; rw [f_X8_hide_L80] at h; exact q_n h
  | succ n ih =>
    intro y3 y4 ν r h hk164
    rw [f_X8_hide_L80] at h
    refine go_iload 3 rfl dX8_hide_80 ?_
    refine go_bipush kz_bipush_49 dX8_hide_82 ?_
    refine go_icmp_ge (tgt := 164) dX8_hide_84 rfl (fun hc => ?_) (fun hc => ?_)
    · replace h := q_t h hc
      refine go_sub (l' := [(3, .int y3)]) [2] rfl ?_
      exact hk164 _ _ h
    · replace h := q_f h hc
      refine go_aload_n rfl 0 rfl dX8_hide_87 ?_
      refine h_getr 5 cl6 rfl (by decide) tw_284 24 rfl dX8_hide_88 ?_
      refine h_getrN 3 cl5 rfl (by decide) tw_185 28 rfl dX8_hide_91 ?_
      refine go_iload 3 rfl dX8_hide_94 ?_
      obtain ⟨hg_10, h⟩ := q_g h
      refine h_iald 49 rfl hg_10 dX8_hide_96 ?_
      refine go_iload_n rfl 1 rfl dX8_hide_97 ?_
      refine go_icmp_gt (tgt := 120) dX8_hide_98 rfl (fun hc => ?_) (fun hc => ?_)
      · replace h := q_t h hc
        refine go_iconst kz_iconst_0 dX8_hide_120 ?_
        refine go_istore (l' := [(5, .int 0), (0, .ref (ad 0)), (2, .int y2), (3, .int y3), (4, .int y4)]) dX8_hide_121 (by decide) rfl ?_
        refine go_iload 0 rfl dX8_hide_123 ?_
        refine go_if_eq (tgt := 158) dX8_hide_125 rfl (fun hc => ?_) (fun hc => ?_)
        · replace h := q_t h hc
          refine h_iinc (l' := [(4, .int (y4 + 1)), (5, .int 0), (0, .ref (ad 0)), (2, .int y2), (3, .int y3)]) dX8_hide_158 4 rfl kz_iconst_1 (by decide) rfl ?_
          refine go_goto (tgt := 80) dX8_hide_161 rfl ?_
          refine go_sub (l' := [(0, .ref (ad 0)), (2, .int y2), (3, .int y3), (4, .int (y4 + 1))]) [2, 3, 4, 0] rfl ?_
          exact ih _ _ _ _ h hk164
        · replace h := q_f h hc
          refine go_iload_n rfl 3 rfl dX8_hide_128 ?_
          refine go_iconst kz_iconst_m1 dX8_hide_129 ?_
          refine go_icmp_eq (tgt := 155) dX8_hide_130 rfl (fun hc => ?_) (fun hc => ?_)
          · replace h := q_t h hc
            refine go_iload 4 rfl dX8_hide_155 ?_
            refine go_istore_n (l' := [(3, .int y4), (5, .int 0), (0, .ref (ad 0)), (2, .int y2), (4, .int y4)]) dX8_hide_157 rfl (by decide) rfl ?_
            refine h_iinc (l' := [(4, .int (y4 + 1)), (3, .int y4), (5, .int 0), (0, .ref (ad 0)), (2, .int y2)]) dX8_hide_158 4 rfl kz_iconst_1 (by decide) rfl ?_
            refine go_goto (tgt := 80) dX8_hide_161 rfl ?_
            refine go_sub (l' := [(0, .ref (ad 0)), (2, .int y2), (3, .int y4), (4, .int (y4 + 1))]) [3, 4, 1, 0] rfl ?_
            exact ih _ _ _ _ h hk164
          · replace h := q_f h hc
            refine go_aload_n rfl 1 rfl dX8_hide_133 ?_
            refine h_getr 5 cl6 rfl (by decide) tw_284 24 rfl dX8_hide_134 ?_
            refine h_getrN 0 cl5 rfl (by decide) tw_181 25 rfl dX8_hide_137 ?_
            refine go_iload 4 rfl dX8_hide_140 ?_
            obtain ⟨hg_11, h⟩ := q_g h
            refine h_iald 49 rfl hg_11 dX8_hide_142 ?_
            refine go_aload_n rfl 1 rfl dX8_hide_143 ?_
            refine h_getr 5 cl6 rfl (by decide) tw_284 24 rfl dX8_hide_144 ?_
            refine h_getrN 0 cl5 rfl (by decide) tw_181 25 rfl dX8_hide_147 ?_
            refine go_iload_n rfl 3 rfl dX8_hide_150 ?_
            obtain ⟨hg_12, h⟩ := q_g h
            refine h_iald 49 rfl hg_12 dX8_hide_151 ?_
            refine go_icmp_le (tgt := 158) dX8_hide_152 rfl (fun hc => ?_) (fun hc => ?_)
            · replace h := q_t h hc
              refine h_iinc (l' := [(4, .int (y4 + 1)), (5, .int 0), (0, .ref (ad 0)), (2, .int y2), (3, .int y3)]) dX8_hide_158 4 rfl kz_iconst_1 (by decide) rfl ?_
              refine go_goto (tgt := 80) dX8_hide_161 rfl ?_
              refine go_sub (l' := [(0, .ref (ad 0)), (2, .int y2), (3, .int y3), (4, .int (y4 + 1))]) [2, 3, 4, 0] rfl ?_
              exact ih _ _ _ _ h hk164
            · replace h := q_f h hc
              refine go_iload 4 rfl dX8_hide_155 ?_
              refine go_istore_n (l' := [(3, .int y4), (5, .int 0), (0, .ref (ad 0)), (2, .int y2), (4, .int y4)]) dX8_hide_157 rfl (by decide) rfl ?_
              refine h_iinc (l' := [(4, .int (y4 + 1)), (3, .int y4), (5, .int 0), (0, .ref (ad 0)), (2, .int y2)]) dX8_hide_158 4 rfl kz_iconst_1 (by decide) rfl ?_
              refine go_goto (tgt := 80) dX8_hide_161 rfl ?_
              refine go_sub (l' := [(0, .ref (ad 0)), (2, .int y2), (3, .int y4), (4, .int (y4 + 1))]) [3, 4, 1, 0] rfl ?_
              exact ih _ _ _ _ h hk164
      · replace h := q_f h hc
        refine go_aload_n rfl 0 rfl dX8_hide_101 ?_
        refine h_getr 5 cl6 rfl (by decide) tw_284 24 rfl dX8_hide_102 ?_
        refine h_getrN 0 cl5 rfl (by decide) tw_181 25 rfl dX8_hide_105 ?_
        refine go_iload 3 rfl dX8_hide_108 ?_
        obtain ⟨hg_13, h⟩ := q_g h
        refine h_iald 49 rfl hg_13 dX8_hide_110 ?_
        refine go_bipush kz_bipush_99 dX8_hide_111 ?_
        refine go_icmp_eq (tgt := 120) dX8_hide_113 rfl (fun hc => ?_) (fun hc => ?_)
        · replace h := q_t h hc
          refine go_iconst kz_iconst_0 dX8_hide_120 ?_
          refine go_istore (l' := [(5, .int 0), (0, .ref (ad 0)), (2, .int y2), (3, .int y3), (4, .int y4)]) dX8_hide_121 (by decide) rfl ?_
          refine go_iload 0 rfl dX8_hide_123 ?_
          refine go_if_eq (tgt := 158) dX8_hide_125 rfl (fun hc => ?_) (fun hc => ?_)
          · replace h := q_t h hc
            refine h_iinc (l' := [(4, .int (y4 + 1)), (5, .int 0), (0, .ref (ad 0)), (2, .int y2), (3, .int y3)]) dX8_hide_158 4 rfl kz_iconst_1 (by decide) rfl ?_
            refine go_goto (tgt := 80) dX8_hide_161 rfl ?_
            refine go_sub (l' := [(0, .ref (ad 0)), (2, .int y2), (3, .int y3), (4, .int (y4 + 1))]) [2, 3, 4, 0] rfl ?_
            exact ih _ _ _ _ h hk164
          · replace h := q_f h hc
            refine go_iload_n rfl 3 rfl dX8_hide_128 ?_
            refine go_iconst kz_iconst_m1 dX8_hide_129 ?_
            refine go_icmp_eq (tgt := 155) dX8_hide_130 rfl (fun hc => ?_) (fun hc => ?_)
            · replace h := q_t h hc
              refine go_iload 4 rfl dX8_hide_155 ?_
              refine go_istore_n (l' := [(3, .int y4), (5, .int 0), (0, .ref (ad 0)), (2, .int y2), (4, .int y4)]) dX8_hide_157 rfl (by decide) rfl ?_
              refine h_iinc (l' := [(4, .int (y4 + 1)), (3, .int y4), (5, .int 0), (0, .ref (ad 0)), (2, .int y2)]) dX8_hide_158 4 rfl kz_iconst_1 (by decide) rfl ?_
              refine go_goto (tgt := 80) dX8_hide_161 rfl ?_
              refine go_sub (l' := [(0, .ref (ad 0)), (2, .int y2), (3, .int y4), (4, .int (y4 + 1))]) [3, 4, 1, 0] rfl ?_
              exact ih _ _ _ _ h hk164
            · replace h := q_f h hc
              refine go_aload_n rfl 1 rfl dX8_hide_133 ?_
              refine h_getr 5 cl6 rfl (by decide) tw_284 24 rfl dX8_hide_134 ?_
              refine h_getrN 0 cl5 rfl (by decide) tw_181 25 rfl dX8_hide_137 ?_
              refine go_iload 4 rfl dX8_hide_140 ?_
              obtain ⟨hg_14, h⟩ := q_g h
              refine h_iald 49 rfl hg_14 dX8_hide_142 ?_
              refine go_aload_n rfl 1 rfl dX8_hide_143 ?_
              refine h_getr 5 cl6 rfl (by decide) tw_284 24 rfl dX8_hide_144 ?_
              refine h_getrN 0 cl5 rfl (by decide) tw_181 25 rfl dX8_hide_147 ?_
              refine go_iload_n rfl 3 rfl dX8_hide_150 ?_
              obtain ⟨hg_15, h⟩ := q_g h
              refine h_iald 49 rfl hg_15 dX8_hide_151 ?_
              refine go_icmp_le (tgt := 158) dX8_hide_152 rfl (fun hc => ?_) (fun hc => ?_)
              · replace h := q_t h hc
                refine h_iinc (l' := [(4, .int (y4 + 1)), (5, .int 0), (0, .ref (ad 0)), (2, .int y2), (3, .int y3)]) dX8_hide_158 4 rfl kz_iconst_1 (by decide) rfl ?_
                refine go_goto (tgt := 80) dX8_hide_161 rfl ?_
                refine go_sub (l' := [(0, .ref (ad 0)), (2, .int y2), (3, .int y3), (4, .int (y4 + 1))]) [2, 3, 4, 0] rfl ?_
                exact ih _ _ _ _ h hk164
              · replace h := q_f h hc
                refine go_iload 4 rfl dX8_hide_155 ?_
                refine go_istore_n (l' := [(3, .int y4), (5, .int 0), (0, .ref (ad 0)), (2, .int y2), (4, .int y4)]) dX8_hide_157 rfl (by decide) rfl ?_
                refine h_iinc (l' := [(4, .int (y4 + 1)), (3, .int y4), (5, .int 0), (0, .ref (ad 0)), (2, .int y2)]) dX8_hide_158 4 rfl kz_iconst_1 (by decide) rfl ?_
                refine go_goto (tgt := 80) dX8_hide_161 rfl ?_
                refine go_sub (l' := [(0, .ref (ad 0)), (2, .int y2), (3, .int y4), (4, .int (y4 + 1))]) [3, 4, 1, 0] rfl ?_
                exact ih _ _ _ _ h hk164
        · replace h := q_f h hc
          refine go_iconst kz_iconst_1 dX8_hide_116 ?_
          refine go_goto (tgt := 121) dX8_hide_117 rfl ?_
          refine go_istore (l' := [(5, .int 1), (0, .ref (ad 0)), (2, .int y2), (3, .int y3), (4, .int y4)]) dX8_hide_121 (by decide) rfl ?_
          refine go_iload 0 rfl dX8_hide_123 ?_
          refine go_if_eq (tgt := 158) dX8_hide_125 rfl (fun hc => ?_) (fun hc => ?_)
          · replace h := q_t h hc
            refine h_iinc (l' := [(4, .int (y4 + 1)), (5, .int 1), (0, .ref (ad 0)), (2, .int y2), (3, .int y3)]) dX8_hide_158 4 rfl kz_iconst_1 (by decide) rfl ?_
            refine go_goto (tgt := 80) dX8_hide_161 rfl ?_
            refine go_sub (l' := [(0, .ref (ad 0)), (2, .int y2), (3, .int y3), (4, .int (y4 + 1))]) [2, 3, 4, 0] rfl ?_
            exact ih _ _ _ _ h hk164
          · replace h := q_f h hc
            refine go_iload_n rfl 3 rfl dX8_hide_128 ?_
            refine go_iconst kz_iconst_m1 dX8_hide_129 ?_
            refine go_icmp_eq (tgt := 155) dX8_hide_130 rfl (fun hc => ?_) (fun hc => ?_)
            · replace h := q_t h hc
              refine go_iload 4 rfl dX8_hide_155 ?_
              refine go_istore_n (l' := [(3, .int y4), (5, .int 1), (0, .ref (ad 0)), (2, .int y2), (4, .int y4)]) dX8_hide_157 rfl (by decide) rfl ?_
              refine h_iinc (l' := [(4, .int (y4 + 1)), (3, .int y4), (5, .int 1), (0, .ref (ad 0)), (2, .int y2)]) dX8_hide_158 4 rfl kz_iconst_1 (by decide) rfl ?_
              refine go_goto (tgt := 80) dX8_hide_161 rfl ?_
              refine go_sub (l' := [(0, .ref (ad 0)), (2, .int y2), (3, .int y4), (4, .int (y4 + 1))]) [3, 4, 1, 0] rfl ?_
              exact ih _ _ _ _ h hk164
            · replace h := q_f h hc
              refine go_aload_n rfl 1 rfl dX8_hide_133 ?_
              refine h_getr 5 cl6 rfl (by decide) tw_284 24 rfl dX8_hide_134 ?_
              refine h_getrN 0 cl5 rfl (by decide) tw_181 25 rfl dX8_hide_137 ?_
              refine go_iload 4 rfl dX8_hide_140 ?_
              obtain ⟨hg_16, h⟩ := q_g h
              refine h_iald 49 rfl hg_16 dX8_hide_142 ?_
              refine go_aload_n rfl 1 rfl dX8_hide_143 ?_
              refine h_getr 5 cl6 rfl (by decide) tw_284 24 rfl dX8_hide_144 ?_
              refine h_getrN 0 cl5 rfl (by decide) tw_181 25 rfl dX8_hide_147 ?_
              refine go_iload_n rfl 3 rfl dX8_hide_150 ?_
              obtain ⟨hg_17, h⟩ := q_g h
              refine h_iald 49 rfl hg_17 dX8_hide_151 ?_
              refine go_icmp_le (tgt := 158) dX8_hide_152 rfl (fun hc => ?_) (fun hc => ?_)
              · replace h := q_t h hc
                refine h_iinc (l' := [(4, .int (y4 + 1)), (5, .int 1), (0, .ref (ad 0)), (2, .int y2), (3, .int y3)]) dX8_hide_158 4 rfl kz_iconst_1 (by decide) rfl ?_
                refine go_goto (tgt := 80) dX8_hide_161 rfl ?_
                refine go_sub (l' := [(0, .ref (ad 0)), (2, .int y2), (3, .int y3), (4, .int (y4 + 1))]) [2, 3, 4, 0] rfl ?_
                exact ih _ _ _ _ h hk164
              · replace h := q_f h hc
                refine go_iload 4 rfl dX8_hide_155 ?_
                refine go_istore_n (l' := [(3, .int y4), (5, .int 1), (0, .ref (ad 0)), (2, .int y2), (4, .int y4)]) dX8_hide_157 rfl (by decide) rfl ?_
                refine h_iinc (l' := [(4, .int (y4 + 1)), (3, .int y4), (5, .int 1), (0, .ref (ad 0)), (2, .int y2)]) dX8_hide_158 4 rfl kz_iconst_1 (by decide) rfl ?_
                refine go_goto (tgt := 80) dX8_hide_161 rfl ?_
                refine go_sub (l' := [(0, .ref (ad 0)), (2, .int y2), (3, .int y4), (4, .int (y4 + 1))]) [3, 4, 1, 0] rfl ?_
                exact ih _ _ _ _ h hk164
set_option maxRecDepth 20000 in
set_option maxHeartbeats 2000000 in
theorem m_X8_hide {X : gX} {ad : Nat → Nat} {x1 : Int32} {x2 : Int32} {ν : gN} {r : Int32 × gN}  (h : f_X8_hide x1 x2 ν = some r) : h_ct X ad yX8_hide cX8_hide 6 ((Option.some .int)) 4 [.ref (ad 0), .int x1, .int x2] ν (some (.int r.1), r.2) := by
  rw [f_X8_hide] at h
  refine h_ct_of (l := [(0, .ref (ad 0)), (1, .int x1), (2, .int x2)]) (by decide) (Nat.le_of_ble_eq_true rfl) rfl ?_
  refine go_aload_n rfl 0 rfl dX8_hide_0 ?_
  refine h_getr 0 cl6 rfl (by decide) tw_279 1 rfl dX8_hide_1 ?_
  refine go_iload_n rfl 1 rfl dX8_hide_4 ?_
  obtain ⟨r_1, h_2, h⟩ := q_b h
  refine h_callVi (st := []) [.int x1] (m_X4_isPerson isP_1 h_2) me_X4_isPerson (g_recv cl2.1 rfl) tw_386 tw_387 tw_388 (hdd_of (by decide)) ⟨Nat.zero_le _, Nat.zero_le _⟩ rfl rfl (Nat.le_of_ble_eq_true rfl) dX8_hide_5 ?_
  refine go_if_ne (tgt := 17) dX8_hide_8 rfl (fun hc => ?_) (fun hc => ?_)
  · replace h := q_f h hc
    refine go_iload_n rfl 2 rfl dX8_hide_17 ?_
    obtain ⟨r_3, h_4, h⟩ := q_b h
    refine h_callSi (st := []) [.int x2] (m_X8_isAhead h_4) me_X8_isAhead tw_702 tw_703 (hdd_of (by decide)) ⟨Nat.zero_le _, Nat.zero_le _⟩ rfl rfl (Nat.le_of_ble_eq_true rfl) dX8_hide_18 ?_
    refine go_if_ne (tgt := 31) dX8_hide_21 rfl (fun hc => ?_) (fun hc => ?_)
    · replace h := q_f h hc
      refine go_aload_n rfl 0 rfl dX8_hide_31 ?_
      refine h_getr 5 cl6 rfl (by decide) tw_284 24 rfl dX8_hide_32 ?_
      refine go_aload_n rfl 0 rfl dX8_hide_35 ?_
      refine h_getr 0 cl6 rfl (by decide) tw_279 1 rfl dX8_hide_36 ?_
      refine h_getlN 7 cl2 rfl (by decide) tw_127 rfl dX8_hide_39 ?_
      obtain ⟨r_5, h_6, h⟩ := q_b h
      refine h_callVv (st := []) [.long (r_3.2.2 1 7)] (m_X7_chart h_6) me_X7_chart (g_recv cl5.1 rfl) tw_632 tw_633 tw_634 (hdd_of (by decide)) ⟨Nat.zero_le _, Nat.zero_le _⟩ rfl rfl (Nat.le_of_ble_eq_true rfl) dX8_hide_42 ?_
      refine go_aload_n rfl 0 rfl dX8_hide_45 ?_
      refine h_getr 5 cl6 rfl (by decide) tw_284 24 rfl dX8_hide_46 ?_
      refine go_aload_n rfl 0 rfl dX8_hide_49 ?_
      refine h_getr 0 cl6 rfl (by decide) tw_279 1 rfl dX8_hide_50 ?_
      refine h_getlN 7 cl2 rfl (by decide) tw_127 rfl dX8_hide_53 ?_
      refine go_aload_n rfl 0 rfl dX8_hide_56 ?_
      refine h_getr 0 cl6 rfl (by decide) tw_279 1 rfl dX8_hide_57 ?_
      refine h_getrN 4 cl2 rfl (by decide) tw_119 6 rfl dX8_hide_60 ?_
      refine go_iload_n rfl 1 rfl dX8_hide_63 ?_
      obtain ⟨hg_7, h⟩ := q_g h
      refine h_iald 7 rfl hg_7 dX8_hide_64 ?_
      refine go_aload_n rfl 0 rfl dX8_hide_65 ?_
      refine h_getr 5 cl6 rfl (by decide) tw_284 24 rfl dX8_hide_66 ?_
      refine h_getrN 3 cl5 rfl (by decide) tw_185 28 rfl dX8_hide_69 ?_
      obtain ⟨r_8, h_9, h⟩ := q_b h
      refine h_callVv (st := []) [.long (r_5.2 1 7), .int (r_5.1 6 x1.toNatClampNeg), .ref (ad 28)] (m_X7_spread rfl h_9) me_X7_spread (g_recv cl5.1 rfl) tw_717 tw_637 tw_638 (hdd_of (by decide)) ⟨Nat.zero_le _, Nat.zero_le _⟩ rfl rfl (Nat.le_of_ble_eq_true rfl) dX8_hide_72 ?_
      refine go_iconst kz_iconst_m1 dX8_hide_75 ?_
      refine go_istore_n (l' := [(3, .int (-1)), (0, .ref (ad 0)), (1, .int x1), (2, .int x2)]) dX8_hide_76 rfl (by decide) rfl ?_
      refine go_iconst kz_iconst_0 dX8_hide_77 ?_
      refine go_istore (l' := [(4, .int 0), (3, .int (-1)), (0, .ref (ad 0)), (1, .int x1), (2, .int x2)]) dX8_hide_78 (by decide) rfl ?_
      refine go_sub (l' := [(0, .ref (ad 0)), (2, .int x2), (3, .int (-1)), (4, .int 0)]) [2, 4, 1, 0] rfl ?_
      refine m_X8_hide_L80  FU _ _ _ _ h (fun z3_18 ν_19 h => ?_)
      refine go_iload_n rfl 0 rfl dX8_hide_164 ?_
      exact h_iret h dX8_hide_165 rfl
    · replace h := q_t h hc
      refine go_aload_n rfl 0 rfl dX8_hide_24 ?_
      refine go_bipush kz_bipush_6 dX8_hide_25 ?_
      obtain ⟨r_20, h_21, h⟩ := q_b h
      refine h_callVi (st := []) [.int 6] (m_X8_refuseApart h_21) me_X8_refuseApart (g_recv cl6.1 rfl) tw_713 tw_715 tw_16 (hdd_of (by decide)) ⟨Nat.zero_le _, Nat.zero_le _⟩ rfl rfl (Nat.le_of_ble_eq_true rfl) dX8_hide_27 ?_
      exact h_iret h dX8_hide_30 rfl
  · replace h := q_t h hc
    refine go_aload_n rfl 0 rfl dX8_hide_11 ?_
    refine go_iconst kz_iconst_1 dX8_hide_12 ?_
    obtain ⟨r_22, h_23, h⟩ := q_b h
    refine h_callVi (st := []) [.int 1] (m_X8_refuseApart h_23) me_X8_refuseApart (g_recv cl6.1 rfl) tw_713 tw_715 tw_16 (hdd_of (by decide)) ⟨Nat.zero_le _, Nat.zero_le _⟩ rfl rfl (Nat.le_of_ble_eq_true rfl) dX8_hide_13 ?_
    exact h_iret h dX8_hide_16 rfl
noncomputable def f_X8_holdVote_L35 (y1 : Int32) (k84 : gN → Option (Int32 × gN)) : Nat → Int32 → gN → Option (Int32 × gN)
  | 0, _, _ => none
  | n + 1, y2, ν =>
    if (ν.1 1 6) ≤ y2 then
      k84  ν
    else
      (f_X8_isIn y1 y2 ν).bind (fun r_5 =>
        if r_5.1 = 0 then
          f_X8_holdVote_L35 y1 k84 n (y2 + 1) r_5.2
        else
          if inb y2 7 = true then
            if inb y2 7 = true then
              qL (nWI r_5.2 7 y2.toNatClampNeg ((r_5.2.1 7 y2.toNatClampNeg) + 1)) (fun ν_9 =>
                if inb y2 7 = true then
                  qL (nWI ν_9 6 y2.toNatClampNeg 24) (fun ν_12 =>
                    f_X8_holdVote_L35 y1 k84 n (y2 + 1) ν_12)
                else none)
            else none
          else none)
noncomputable def f_X8_holdVote  (ν : gN) : Option (Int32 × gN) :=
  (f_X2_look 1 0 ν).bind (fun r_1 =>
    (f_X2_elect 1 0 r_1).bind (fun r_3 =>
      f_X8_holdVote_L35 r_3.1 (fun ν_14 =>
        qL (nWI ν_14 1 11 ((ν_14.1 1 11) + 1)) (fun ν_15 =>
          some (r_3.1, ν_15))) FU 0 r_3.2))
theorem me_X8_holdVote : g_me yX8_holdVote cX8_holdVote 3 ((Option.some .int)) 0 := ⟨tw_842, tw_72, ⟨by decide +kernel, by decide +kernel, by decide +kernel⟩, by decide⟩
set_option maxRecDepth 20000 in
set_option maxHeartbeats 2000000 in
theorem m_X8_holdVote_L35 {X : gX} {ad : Nat → Nat} {y1 : Int32} {k84 : gN → Option (Int32 × gN)}  : ∀ (n : Nat) (y2 : Int32) (ν : gN) (r : Int32 × gN), f_X8_holdVote_L35 y1 k84 n y2 ν = some r → (∀ (ν1 : gN), k84 ν1 = some r → h_go X ad RX8 "holdVote" cX8_holdVote 3 ((Option.some .int)) 5 (some (.int r.1), r.2) 84 [(0, .ref (ad 0)), (1, .int y1)] [] ν1) → h_go X ad RX8 "holdVote" cX8_holdVote 3 ((Option.some .int)) 5 (some (.int r.1), r.2) 35 [(0, .ref (ad 0)), (1, .int y1), (2, .int y2)] [] ν := by
  intro n
  induction n with
  | zero => intro y2 ν r h hk84; rw [f_X8_holdVote_L35] at h; exact q_n h
  | succ n ih =>
    intro y2 ν r h hk84
    rw [f_X8_holdVote_L35] at h
    refine go_iload_n rfl 2 rfl dX8_holdVote_35 ?_
    refine go_aload_n rfl 0 rfl dX8_holdVote_36 ?_
    refine h_getr 0 cl6 rfl (by decide) tw_279 1 rfl dX8_holdVote_37 ?_
    refine h_getiN 6 cl2 rfl (by decide) tw_125 rfl dX8_holdVote_40 ?_
    refine go_icmp_ge (tgt := 84) dX8_holdVote_43 rfl (fun hc => ?_) (fun hc => ?_)
    · replace h := q_t h hc
      refine go_sub (l' := [(0, .ref (ad 0)), (1, .int y1)]) [0, 1] rfl ?_
      exact hk84  _ h
    · replace h := q_f h hc
      refine go_iload_n rfl 1 rfl dX8_holdVote_46 ?_
      refine go_iload_n rfl 2 rfl dX8_holdVote_47 ?_
      obtain ⟨r_5, h_6, h⟩ := q_b h
      refine h_callSi (st := []) [.int y1, .int y2] (m_X8_isIn h_6) me_X8_isIn tw_726 tw_691 (hdd_of (by decide)) ⟨Nat.zero_le _, Nat.zero_le _⟩ rfl rfl (Nat.le_of_ble_eq_true rfl) dX8_holdVote_48 ?_
      refine go_if_eq (tgt := 78) dX8_holdVote_51 rfl (fun hc => ?_) (fun hc => ?_)
      · replace h := q_t h hc
        refine h_iinc (l' := [(2, .int (y2 + 1)), (0, .ref (ad 0)), (1, .int y1)]) dX8_holdVote_78 2 rfl kz_iconst_1 (by decide) rfl ?_
        refine go_goto (tgt := 35) dX8_holdVote_81 rfl ?_
        refine go_sub (l' := [(0, .ref (ad 0)), (1, .int y1), (2, .int (y2 + 1))]) [1, 2, 0] rfl ?_
        exact ih _ _ _ h hk84
      · replace h := q_f h hc
        refine go_aload_n rfl 0 rfl dX8_holdVote_54 ?_
        refine h_getr 0 cl6 rfl (by decide) tw_279 1 rfl dX8_holdVote_55 ?_
        refine h_getrN 5 cl2 rfl (by decide) tw_121 7 rfl dX8_holdVote_58 ?_
        refine go_iload_n rfl 2 rfl dX8_holdVote_61 ?_
        refine go_dup2 rfl rfl dX8_holdVote_62 ?_
        obtain ⟨hg_7, h⟩ := q_g h
        refine h_iald 7 rfl hg_7 dX8_holdVote_63 ?_
        refine go_iconst kz_iconst_1 dX8_holdVote_64 ?_
        refine go_iadd dX8_holdVote_65 ?_
        obtain ⟨hg_8, h⟩ := q_g h
        obtain ⟨ν_9, e_10, h⟩ := q_l h
        refine h_iast 7 rfl hg_8 e_10 dX8_holdVote_66 ?_
        refine go_aload_n rfl 0 rfl dX8_holdVote_67 ?_
        refine h_getr 0 cl6 rfl (by decide) tw_279 1 rfl dX8_holdVote_68 ?_
        refine h_getrN 4 cl2 rfl (by decide) tw_119 6 rfl dX8_holdVote_71 ?_
        refine go_iload_n rfl 2 rfl dX8_holdVote_74 ?_
        refine go_bipush kz_bipush_24 dX8_holdVote_75 ?_
        obtain ⟨hg_11, h⟩ := q_g h
        obtain ⟨ν_12, e_13, h⟩ := q_l h
        refine h_iast 7 rfl hg_11 e_13 dX8_holdVote_77 ?_
        refine h_iinc (l' := [(2, .int (y2 + 1)), (0, .ref (ad 0)), (1, .int y1)]) dX8_holdVote_78 2 rfl kz_iconst_1 (by decide) rfl ?_
        refine go_goto (tgt := 35) dX8_holdVote_81 rfl ?_
        refine go_sub (l' := [(0, .ref (ad 0)), (1, .int y1), (2, .int (y2 + 1))]) [1, 2, 0] rfl ?_
        exact ih _ _ _ h hk84
set_option maxRecDepth 20000 in
set_option maxHeartbeats 2000000 in
theorem m_X8_holdVote {X : gX} {ad : Nat → Nat}  {ν : gN} {r : Int32 × gN}  (h : f_X8_holdVote  ν = some r) : h_ct X ad yX8_holdVote cX8_holdVote 3 ((Option.some .int)) 5 [.ref (ad 0)] ν (some (.int r.1), r.2) := by
  rw [f_X8_holdVote] at h
  refine h_ct_of (l := [(0, .ref (ad 0))]) (by decide) (Nat.le_of_ble_eq_true rfl) rfl ?_
  refine go_aload_n rfl 0 rfl dX8_holdVote_0 ?_
  refine h_getr 6 cl6 rfl (by decide) tw_285 30 rfl dX8_holdVote_1 ?_
  refine go_aload_n rfl 0 rfl dX8_holdVote_4 ?_
  refine h_getr 0 cl6 rfl (by decide) tw_279 1 rfl dX8_holdVote_5 ?_
  refine go_aload_n rfl 0 rfl dX8_holdVote_8 ?_
  refine h_getr 5 cl6 rfl (by decide) tw_284 24 rfl dX8_holdVote_9 ?_
  refine go_iconst kz_iconst_0 dX8_holdVote_12 ?_
  obtain ⟨r_1, h_2, h⟩ := q_b h
  refine h_callVv (st := []) [.ref (ad 1), .ref (ad 24), .int 0] (m_X2_look isP_1 h_2) me_X2_look (g_recv cl1.1 rfl) tw_662 tw_663 tw_664 (hdd_of (by decide)) ⟨Nat.zero_le _, Nat.zero_le _⟩ rfl rfl (Nat.le_of_ble_eq_true rfl) dX8_holdVote_13 ?_
  refine go_aload_n rfl 0 rfl dX8_holdVote_16 ?_
  refine h_getr 6 cl6 rfl (by decide) tw_285 30 rfl dX8_holdVote_17 ?_
  refine go_aload_n rfl 0 rfl dX8_holdVote_20 ?_
  refine h_getr 0 cl6 rfl (by decide) tw_279 1 rfl dX8_holdVote_21 ?_
  refine go_aload_n rfl 0 rfl dX8_holdVote_24 ?_
  refine h_getr 5 cl6 rfl (by decide) tw_284 24 rfl dX8_holdVote_25 ?_
  refine go_iconst kz_iconst_0 dX8_holdVote_28 ?_
  obtain ⟨r_3, h_4, h⟩ := q_b h
  refine h_callVi (st := []) [.ref (ad 1), .ref (ad 24), .int 0] (m_X2_elect isP_1 h_4) me_X2_elect (g_recv cl1.1 rfl) tw_678 tw_679 tw_680 (hdd_of (by decide)) ⟨Nat.zero_le _, Nat.zero_le _⟩ rfl rfl (Nat.le_of_ble_eq_true rfl) dX8_holdVote_29 ?_
  refine go_istore_n (l' := [(1, .int r_3.1), (0, .ref (ad 0))]) dX8_holdVote_32 rfl (by decide) rfl ?_
  refine go_iconst kz_iconst_0 dX8_holdVote_33 ?_
  refine go_istore_n (l' := [(2, .int 0), (1, .int r_3.1), (0, .ref (ad 0))]) dX8_holdVote_34 rfl (by decide) rfl ?_
  refine go_sub (l' := [(0, .ref (ad 0)), (1, .int r_3.1), (2, .int 0)]) [2, 1, 0] rfl ?_
  refine m_X8_holdVote_L35  FU _ _ _ h (fun ν_14 h => ?_)
  refine go_aload_n rfl 0 rfl dX8_holdVote_84 ?_
  refine h_getr 0 cl6 rfl (by decide) tw_279 1 rfl dX8_holdVote_85 ?_
  refine go_dup rfl dX8_holdVote_88 ?_
  refine h_getiN 11 cl2 rfl (by decide) tw_140 rfl dX8_holdVote_89 ?_
  refine go_iconst kz_iconst_1 dX8_holdVote_92 ?_
  refine go_iadd dX8_holdVote_93 ?_
  obtain ⟨ν_15, e_16, h⟩ := q_l h
  refine h_putiN 11 cl2 rfl (by decide) tw_140 rfl rfl e_16 dX8_holdVote_94 ?_
  refine go_iload_n rfl 1 rfl dX8_holdVote_97 ?_
  exact h_iret h dX8_holdVote_98 rfl
noncomputable def f_X8_holds (x1 : Int32) (ν : gN) : Option (Int32 × gN) :=
  (f_X8_isShelf x1 ν).bind (fun r_1 =>
    if r_1.1 = 0 then
      some ((-1), r_1.2)
    else
      if inb x1 8 = true then
        some (r_1.2.1 (37 + 2 * x1.toNatClampNeg) 1, r_1.2)
      else none)
theorem me_X8_holds : g_me yX8_holds cX8_holds 2 ((Option.some .int)) 1 := ⟨tw_397, tw_72, ⟨by decide +kernel, by decide +kernel, by decide +kernel⟩, by decide⟩
set_option maxRecDepth 20000 in
set_option maxHeartbeats 2000000 in
theorem m_X8_holds {X : gX} {ad : Nat → Nat} {x1 : Int32} {ν : gN} {r : Int32 × gN}  (h : f_X8_holds x1 ν = some r) : h_ct X ad yX8_holds cX8_holds 2 ((Option.some .int)) 3 [.ref (ad 0), .int x1] ν (some (.int r.1), r.2) := by
  rw [f_X8_holds] at h
  refine h_ct_of (l := [(0, .ref (ad 0)), (1, .int x1)]) (by decide) (Nat.le_of_ble_eq_true rfl) rfl ?_
  refine go_iload_n rfl 1 rfl dX8_holds_0 ?_
  obtain ⟨r_1, h_2, h⟩ := q_b h
  refine h_callSi (st := []) [.int x1] (m_X8_isShelf h_2) me_X8_isShelf tw_317 tw_318 (hdd_of (by decide)) ⟨Nat.zero_le _, Nat.zero_le _⟩ rfl rfl (Nat.le_of_ble_eq_true rfl) dX8_holds_1 ?_
  refine go_if_eq (tgt := 19) dX8_holds_4 rfl (fun hc => ?_) (fun hc => ?_)
  · replace h := q_t h hc
    refine go_iconst kz_iconst_m1 dX8_holds_19 ?_
    exact h_iret h dX8_holds_20 rfl
  · replace h := q_f h hc
    refine go_aload_n rfl 0 rfl dX8_holds_7 ?_
    refine h_getr 3 cl6 rfl (by decide) tw_282 22 rfl dX8_holds_8 ?_
    refine go_iload_n rfl 1 rfl dX8_holds_11 ?_
    obtain ⟨hg_3, h⟩ := q_g h
    refine h_aald hg_3 dX8_holds_12 ?_
    refine h_getiN 1 cl4 (shS (isS_in hg_3)) (by decide) tw_268 rfl dX8_holds_13 ?_
    refine go_goto (tgt := 20) dX8_holds_16 rfl ?_
    exact h_iret h dX8_holds_20 rfl
noncomputable def f_X8_image  (ν : gN) : Option (Int32 × gN) :=
  (f_X4_takeFrom 15 1 ν).bind (fun r_1 =>
    qL (nWI r_1 0 9 1) (fun ν_3 =>
      some (ν_3.1 1 6, ν_3)))
theorem me_X8_image : g_me yX8_image cX8_image 1 ((Option.some .int)) 0 := ⟨tw_893, tw_72, ⟨by decide +kernel, by decide +kernel, by decide +kernel⟩, by decide⟩
set_option maxRecDepth 20000 in
set_option maxHeartbeats 2000000 in
theorem m_X8_image {X : gX} {ad : Nat → Nat}  {ν : gN} {r : Int32 × gN}  (h : f_X8_image  ν = some r) : h_ct X ad yX8_image cX8_image 1 ((Option.some .int)) 2 [.ref (ad 0)] ν (some (.int r.1), r.2) := by
  rw [f_X8_image] at h
  refine h_ct_of (l := [(0, .ref (ad 0))]) (by decide) (Nat.le_of_ble_eq_true rfl) rfl ?_
  refine go_aload_n rfl 0 rfl dX8_image_0 ?_
  refine h_getr 2 cl6 rfl (by decide) tw_281 15 rfl dX8_image_1 ?_
  refine go_aload_n rfl 0 rfl dX8_image_4 ?_
  refine h_getr 0 cl6 rfl (by decide) tw_279 1 rfl dX8_image_5 ?_
  obtain ⟨r_1, h_2, h⟩ := q_b h
  refine h_callVv (st := []) [.ref (ad 1)] (m_X4_takeFrom isP_15 isP_1 h_2) me_X4_takeFrom (g_recv cl2.1 rfl) tw_505 tw_506 tw_507 (hdd_of (by decide)) ⟨Nat.zero_le _, Nat.zero_le _⟩ rfl rfl (Nat.le_of_ble_eq_true rfl) dX8_image_8 ?_
  refine go_aload_n rfl 0 rfl dX8_image_11 ?_
  refine go_iconst kz_iconst_1 dX8_image_12 ?_
  obtain ⟨ν_3, e_4, h⟩ := q_l h
  refine h_putz 9 cl6 rfl (by decide) tw_288 rfl rfl rfl e_4 dX8_image_13 ?_
  refine go_aload_n rfl 0 rfl dX8_image_16 ?_
  refine h_getr 0 cl6 rfl (by decide) tw_279 1 rfl dX8_image_17 ?_
  refine h_getiN 6 cl2 rfl (by decide) tw_125 rfl dX8_image_20 ?_
  exact h_iret h dX8_image_23 rfl
noncomputable def f_X8_judge_L81 (y1 : Int32) (y2 : Int32) (k120 : gN → Option (Int32 × gN)) : Nat → Int32 → gN → Option (Int32 × gN)
  | 0, _, _ => none
  | n + 1, y5, ν =>
    if y2 ≤ y5 then
      k120  ν
    else
      if inb y1 8 = true then
        (f_X6_intAt (37 + 2 * y1.toNatClampNeg) y5 ν).bind (fun r_11 =>
          if inb y5 7 = true then
            if r_11.1 = (r_11.2.1 31 y5.toNatClampNeg) then
              f_X8_judge_L81 y1 y2 k120 n (y5 + 1) r_11.2
            else
              some (y5, r_11.2)
          else none)
      else none
noncomputable def f_X8_judge (x1 : Int32) (x2 : Int32) (x3 : Int32) (ν : gN) : Option (Int32 × gN) :=
  (f_X8_whyNoRow x1 ν).bind (fun r_1 =>
    if r_1.1 = 0 then
      if 0 ≤ x2 then
        if inb x1 8 = true then
          if x2 ≤ (r_1.2.1 (37 + 2 * x1.toNatClampNeg) 2) then
            (f_X8_isAhead x3 r_1.2).bind (fun r_4 =>
              if r_4.1 = 0 then
                (f_X8_refuseApart 6 r_4.2).bind (fun r_6 =>
                  some (r_6.1, r_6.2))
              else
                if x2 ≤ (r_4.2.1 1 6) then
                  (f_X8_lookAhead x3 r_4.2).bind (fun r_8 =>
                    f_X8_judge_L81 x1 x2 (fun ν_14 =>
                      some ((-1), ν_14)) FU 0 r_8)
                else
                  (f_X8_refuseApart 6 r_4.2).bind (fun r_15 =>
                    some (r_15.1, r_15.2)))
          else
            (f_X8_refuseApart 5 r_1.2).bind (fun r_17 =>
              some (r_17.1, r_17.2))
        else none
      else
        (f_X8_refuseApart 4 r_1.2).bind (fun r_19 =>
          some (r_19.1, r_19.2))
    else
      (f_X8_refuseApart r_1.1 r_1.2).bind (fun r_21 =>
        some (r_21.1, r_21.2)))
theorem me_X8_judge : g_me yX8_judge cX8_judge 6 ((Option.some .int)) 3 := ⟨tw_826, tw_72, ⟨by decide +kernel, by decide +kernel, by decide +kernel⟩, by decide⟩
set_option maxRecDepth 20000 in
set_option maxHeartbeats 2000000 in
theorem m_X8_judge_L81 {X : gX} {ad : Nat → Nat} {y1 : Int32} {y2 : Int32} {k120 : gN → Option (Int32 × gN)}  : ∀ (n : Nat) (y5 : Int32) (ν : gN) (r : Int32 × gN), f_X8_judge_L81 y1 y2 k120 n y5 ν = some r → (∀ (ν1 : gN), k120 ν1 = some r → h_go X ad RX8 "judge" cX8_judge 6 ((Option.some .int)) 6 (some (.int r.1), r.2) 120 [] [] ν1) → h_go X ad RX8 "judge" cX8_judge 6 ((Option.some .int)) 6 (some (.int r.1), r.2) 81 [(0, .ref (ad 0)), (1, .int y1), (2, .int y2), (5, .int y5)] [] ν := by
  intro n
  induction n with
  | zero => intro y5 ν r h hk120; rw [f_X8_judge_L81] at h; exact q_n h
  | succ n ih =>
    intro y5 ν r h hk120
    rw [f_X8_judge_L81] at h
    refine go_iload 3 rfl dX8_judge_81 ?_
    refine go_iload_n rfl 2 rfl dX8_judge_83 ?_
    refine go_icmp_ge (tgt := 120) dX8_judge_84 rfl (fun hc => ?_) (fun hc => ?_)
    · replace h := q_t h hc
      refine go_sub (l' := []) [] rfl ?_
      exact hk120  _ h
    · replace h := q_f h hc
      refine go_aload_n rfl 0 rfl dX8_judge_87 ?_
      refine h_getr 3 cl6 rfl (by decide) tw_282 22 rfl dX8_judge_88 ?_
      refine go_iload_n rfl 1 rfl dX8_judge_91 ?_
      obtain ⟨hg_10, h⟩ := q_g h
      refine h_aald hg_10 dX8_judge_92 ?_
      refine go_iload 3 rfl dX8_judge_93 ?_
      obtain ⟨r_11, h_12, h⟩ := q_b h
      refine h_callVi (st := []) [.int y5] (m_X6_intAt (isS_in hg_10) h_12) me_X6_intAt (g_recv cl4.1 (shS (isS_in hg_10))) tw_748 tw_515 tw_516 (hdd_of (by decide)) ⟨Nat.zero_le _, Nat.zero_le _⟩ rfl rfl (Nat.le_of_ble_eq_true rfl) dX8_judge_95 ?_
      refine go_aload_n rfl 0 rfl dX8_judge_98 ?_
      refine h_getr 6 cl6 rfl (by decide) tw_285 30 rfl dX8_judge_99 ?_
      refine h_getrN 0 cl1 rfl (by decide) tw_205 31 rfl dX8_judge_102 ?_
      refine go_iload 3 rfl dX8_judge_105 ?_
      obtain ⟨hg_13, h⟩ := q_g h
      refine h_iald 7 rfl hg_13 dX8_judge_107 ?_
      refine go_icmp_eq (tgt := 114) dX8_judge_108 rfl (fun hc => ?_) (fun hc => ?_)
      · replace h := q_t h hc
        refine h_iinc (l' := [(5, .int (y5 + 1)), (0, .ref (ad 0)), (1, .int y1), (2, .int y2)]) dX8_judge_114 3 rfl kz_iconst_1 (by decide) rfl ?_
        refine go_goto (tgt := 81) dX8_judge_117 rfl ?_
        refine go_sub (l' := [(0, .ref (ad 0)), (1, .int y1), (2, .int y2), (5, .int (y5 + 1))]) [1, 2, 3, 0] rfl ?_
        exact ih _ _ _ h hk120
      · replace h := q_f h hc
        refine go_iload 3 rfl dX8_judge_111 ?_
        exact h_iret h dX8_judge_113 rfl
set_option maxRecDepth 20000 in
set_option maxHeartbeats 2000000 in
theorem m_X8_judge {X : gX} {ad : Nat → Nat} {x1 : Int32} {x2 : Int32} {x3 : Int32} {ν : gN} {r : Int32 × gN}  (h : f_X8_judge x1 x2 x3 ν = some r) : h_ct X ad yX8_judge cX8_judge 6 ((Option.some .int)) 6 [.ref (ad 0), .int x1, .int x2, .int x3] ν (some (.int r.1), r.2) := by
  rw [f_X8_judge] at h
  refine h_ct_of (l := [(0, .ref (ad 0)), (1, .int x1), (2, .int x2), (3, .int x3)]) (by decide) (Nat.le_of_ble_eq_true rfl) rfl ?_
  refine go_aload_n rfl 0 rfl dX8_judge_0 ?_
  refine go_iload_n rfl 1 rfl dX8_judge_1 ?_
  obtain ⟨r_1, h_2, h⟩ := q_b h
  refine h_callVi (st := []) [.int x1] (m_X8_whyNoRow h_2) me_X8_whyNoRow (g_recv cl6.1 rfl) tw_338 tw_340 tw_1 (hdd_of (by decide)) ⟨Nat.zero_le _, Nat.zero_le _⟩ rfl rfl (Nat.le_of_ble_eq_true rfl) dX8_judge_2 ?_
  refine go_istore (l' := [(4, .int r_1.1), (0, .ref (ad 0)), (1, .int x1), (2, .int x2), (3, .int x3)]) dX8_judge_5 (by decide) rfl ?_
  refine go_iload 0 rfl dX8_judge_7 ?_
  refine go_if_eq (tgt := 19) dX8_judge_9 rfl (fun hc => ?_) (fun hc => ?_)
  · replace h := q_t h hc
    refine go_iload_n rfl 3 rfl dX8_judge_19 ?_
    refine go_if_ge (tgt := 29) dX8_judge_20 rfl (fun hc => ?_) (fun hc => ?_)
    · replace h := q_t h hc
      refine go_iload_n rfl 3 rfl dX8_judge_29 ?_
      refine go_aload_n rfl 1 rfl dX8_judge_30 ?_
      refine h_getr 3 cl6 rfl (by decide) tw_282 22 rfl dX8_judge_31 ?_
      refine go_iload_n rfl 2 rfl dX8_judge_34 ?_
      obtain ⟨hg_3, h⟩ := q_g h
      refine h_aald hg_3 dX8_judge_35 ?_
      refine h_getiN 2 cl4 (shS (isS_in hg_3)) (by decide) tw_271 rfl dX8_judge_36 ?_
      refine go_icmp_le (tgt := 48) dX8_judge_39 rfl (fun hc => ?_) (fun hc => ?_)
      · replace h := q_t h hc
        refine go_iload_n rfl 4 rfl dX8_judge_48 ?_
        obtain ⟨r_4, h_5, h⟩ := q_b h
        refine h_callSi (st := []) [.int x3] (m_X8_isAhead h_5) me_X8_isAhead tw_702 tw_703 (hdd_of (by decide)) ⟨Nat.zero_le _, Nat.zero_le _⟩ rfl rfl (Nat.le_of_ble_eq_true rfl) dX8_judge_49 ?_
        refine go_if_eq (tgt := 66) dX8_judge_52 rfl (fun hc => ?_) (fun hc => ?_)
        · replace h := q_t h hc
          refine go_aload_n rfl 1 rfl dX8_judge_66 ?_
          refine go_bipush kz_bipush_6 dX8_judge_67 ?_
          obtain ⟨r_6, h_7, h⟩ := q_b h
          refine h_callVi (st := []) [.int 6] (m_X8_refuseApart h_7) me_X8_refuseApart (g_recv cl6.1 rfl) tw_713 tw_715 tw_16 (hdd_of (by decide)) ⟨Nat.zero_le _, Nat.zero_le _⟩ rfl rfl (Nat.le_of_ble_eq_true rfl) dX8_judge_69 ?_
          exact h_iret h dX8_judge_72 rfl
        · replace h := q_f h hc
          refine go_iload_n rfl 3 rfl dX8_judge_55 ?_
          refine go_aload_n rfl 1 rfl dX8_judge_56 ?_
          refine h_getr 0 cl6 rfl (by decide) tw_279 1 rfl dX8_judge_57 ?_
          refine h_getiN 6 cl2 rfl (by decide) tw_125 rfl dX8_judge_60 ?_
          refine go_icmp_le (tgt := 73) dX8_judge_63 rfl (fun hc => ?_) (fun hc => ?_)
          · replace h := q_t h hc
            refine go_aload_n rfl 1 rfl dX8_judge_73 ?_
            refine go_iload_n rfl 4 rfl dX8_judge_74 ?_
            obtain ⟨r_8, h_9, h⟩ := q_b h
            refine h_callVv (st := []) [.int x3] (m_X8_lookAhead h_9) me_X8_lookAhead (g_recv cl6.1 rfl) tw_658 tw_660 tw_15 (hdd_of (by decide)) ⟨Nat.zero_le _, Nat.zero_le _⟩ rfl rfl (Nat.le_of_ble_eq_true rfl) dX8_judge_75 ?_
            refine go_iconst kz_iconst_0 dX8_judge_78 ?_
            refine go_istore (l' := [(5, .int 0), (4, .int r_1.1), (0, .ref (ad 0)), (1, .int x1), (2, .int x2), (3, .int x3)]) dX8_judge_79 (by decide) rfl ?_
            refine go_sub (l' := [(0, .ref (ad 0)), (1, .int x1), (2, .int x2), (5, .int 0)]) [2, 3, 4, 0] rfl ?_
            refine m_X8_judge_L81  FU _ _ _ h (fun ν_14 h => ?_)
            refine go_iconst kz_iconst_m1 dX8_judge_120 ?_
            exact h_iret h dX8_judge_121 rfl
          · replace h := q_f h hc
            refine go_aload_n rfl 1 rfl dX8_judge_66 ?_
            refine go_bipush kz_bipush_6 dX8_judge_67 ?_
            obtain ⟨r_15, h_16, h⟩ := q_b h
            refine h_callVi (st := []) [.int 6] (m_X8_refuseApart h_16) me_X8_refuseApart (g_recv cl6.1 rfl) tw_713 tw_715 tw_16 (hdd_of (by decide)) ⟨Nat.zero_le _, Nat.zero_le _⟩ rfl rfl (Nat.le_of_ble_eq_true rfl) dX8_judge_69 ?_
            exact h_iret h dX8_judge_72 rfl
      · replace h := q_f h hc
        refine go_aload_n rfl 1 rfl dX8_judge_42 ?_
        refine go_iconst kz_iconst_5 dX8_judge_43 ?_
        obtain ⟨r_17, h_18, h⟩ := q_b h
        refine h_callVi (st := []) [.int 5] (m_X8_refuseApart h_18) me_X8_refuseApart (g_recv cl6.1 rfl) tw_713 tw_715 tw_16 (hdd_of (by decide)) ⟨Nat.zero_le _, Nat.zero_le _⟩ rfl rfl (Nat.le_of_ble_eq_true rfl) dX8_judge_44 ?_
        exact h_iret h dX8_judge_47 rfl
    · replace h := q_f h hc
      refine go_aload_n rfl 1 rfl dX8_judge_23 ?_
      refine go_iconst kz_iconst_4 dX8_judge_24 ?_
      obtain ⟨r_19, h_20, h⟩ := q_b h
      refine h_callVi (st := []) [.int 4] (m_X8_refuseApart h_20) me_X8_refuseApart (g_recv cl6.1 rfl) tw_713 tw_715 tw_16 (hdd_of (by decide)) ⟨Nat.zero_le _, Nat.zero_le _⟩ rfl rfl (Nat.le_of_ble_eq_true rfl) dX8_judge_25 ?_
      exact h_iret h dX8_judge_28 rfl
  · replace h := q_f h hc
    refine go_aload_n rfl 1 rfl dX8_judge_12 ?_
    refine go_iload 0 rfl dX8_judge_13 ?_
    obtain ⟨r_21, h_22, h⟩ := q_b h
    refine h_callVi (st := []) [.int r_1.1] (m_X8_refuseApart h_22) me_X8_refuseApart (g_recv cl6.1 rfl) tw_713 tw_715 tw_16 (hdd_of (by decide)) ⟨Nat.zero_le _, Nat.zero_le _⟩ rfl rfl (Nat.le_of_ble_eq_true rfl) dX8_judge_15 ?_
    exact h_iret h dX8_judge_18 rfl
noncomputable def f_X8_passYards_L18 (y1 : Int32) (k53 : gN → Option (gN)) : Nat → Int32 → gN → Option (gN)
  | 0, _, _ => none
  | n + 1, y2, ν =>
    if (ν.1 1 6) ≤ y2 then
      k53  ν
    else
      if inb y2 7 = true then
        if inb y2 7 = true then
          qL (nWI ν 6 y2.toNatClampNeg (ν.1 31 y2.toNatClampNeg)) (fun ν_5 =>
            f_X8_passYards_L18 y1 k53 n (y2 + 1) ν_5)
        else none
      else none
noncomputable def f_X8_passYards (x1 : Int32) (ν : gN) : Option (gN) :=
  (f_X2_look 1 x1 ν).bind (fun r_1 =>
    f_X8_passYards_L18 x1 (fun ν_7 =>
      qL (nWI ν_7 1 10 ((ν_7.1 1 10) + x1)) (fun ν_8 =>
        some ν_8)) FU 0 r_1)
theorem me_X8_passYards : g_me yX8_passYards cX8_passYards 3 (none) 1 := ⟨tw_834, tw_72, ⟨by decide +kernel, by decide +kernel, by decide +kernel⟩, by decide⟩
set_option maxRecDepth 20000 in
set_option maxHeartbeats 2000000 in
theorem m_X8_passYards_L18 {X : gX} {ad : Nat → Nat} {y1 : Int32} {k53 : gN → Option (gN)}  : ∀ (n : Nat) (y2 : Int32) (ν : gN) (r : gN), f_X8_passYards_L18 y1 k53 n y2 ν = some r → (∀ (ν1 : gN), k53 ν1 = some r → h_go X ad RX8 "passYards" cX8_passYards 3 (none) 5 (none, r) 53 [(0, .ref (ad 0)), (1, .int y1)] [] ν1) → h_go X ad RX8 "passYards" cX8_passYards 3 (none) 5 (none, r) 18 [(0, .ref (ad 0)), (1, .int y1), (2, .int y2)] [] ν := by
  intro n
  induction n with
  | zero => intro y2 ν r h hk53; rw [f_X8_passYards_L18] at h; exact q_n h
  | succ n ih =>
    intro y2 ν r h hk53
    rw [f_X8_passYards_L18] at h
    refine go_iload_n rfl 2 rfl dX8_passYards_18 ?_
    refine go_aload_n rfl 0 rfl dX8_passYards_19 ?_
    refine h_getr 0 cl6 rfl (by decide) tw_279 1 rfl dX8_passYards_20 ?_
    refine h_getiN 6 cl2 rfl (by decide) tw_125 rfl dX8_passYards_23 ?_
    refine go_icmp_ge (tgt := 53) dX8_passYards_26 rfl (fun hc => ?_) (fun hc => ?_)
    · replace h := q_t h hc
      refine go_sub (l' := [(0, .ref (ad 0)), (1, .int y1)]) [0, 1] rfl ?_
      exact hk53  _ h
    · replace h := q_f h hc
      refine go_aload_n rfl 0 rfl dX8_passYards_29 ?_
      refine h_getr 0 cl6 rfl (by decide) tw_279 1 rfl dX8_passYards_30 ?_
      refine h_getrN 4 cl2 rfl (by decide) tw_119 6 rfl dX8_passYards_33 ?_
      refine go_iload_n rfl 2 rfl dX8_passYards_36 ?_
      refine go_aload_n rfl 0 rfl dX8_passYards_37 ?_
      refine h_getr 6 cl6 rfl (by decide) tw_285 30 rfl dX8_passYards_38 ?_
      refine h_getrN 0 cl1 rfl (by decide) tw_205 31 rfl dX8_passYards_41 ?_
      refine go_iload_n rfl 2 rfl dX8_passYards_44 ?_
      obtain ⟨hg_3, h⟩ := q_g h
      refine h_iald 7 rfl hg_3 dX8_passYards_45 ?_
      obtain ⟨hg_4, h⟩ := q_g h
      obtain ⟨ν_5, e_6, h⟩ := q_l h
      refine h_iast 7 rfl hg_4 e_6 dX8_passYards_46 ?_
      refine h_iinc (l' := [(2, .int (y2 + 1)), (0, .ref (ad 0)), (1, .int y1)]) dX8_passYards_47 2 rfl kz_iconst_1 (by decide) rfl ?_
      refine go_goto (tgt := 18) dX8_passYards_50 rfl ?_
      refine go_sub (l' := [(0, .ref (ad 0)), (1, .int y1), (2, .int (y2 + 1))]) [1, 2, 0] rfl ?_
      exact ih _ _ _ h hk53
set_option maxRecDepth 20000 in
set_option maxHeartbeats 2000000 in
theorem m_X8_passYards {X : gX} {ad : Nat → Nat} {x1 : Int32} {ν : gN} {r : gN}  (h : f_X8_passYards x1 ν = some r) : h_ct X ad yX8_passYards cX8_passYards 3 (none) 5 [.ref (ad 0), .int x1] ν (none, r) := by
  rw [f_X8_passYards] at h
  refine h_ct_of (l := [(0, .ref (ad 0)), (1, .int x1)]) (by decide) (Nat.le_of_ble_eq_true rfl) rfl ?_
  refine go_aload_n rfl 0 rfl dX8_passYards_0 ?_
  refine h_getr 6 cl6 rfl (by decide) tw_285 30 rfl dX8_passYards_1 ?_
  refine go_aload_n rfl 0 rfl dX8_passYards_4 ?_
  refine h_getr 0 cl6 rfl (by decide) tw_279 1 rfl dX8_passYards_5 ?_
  refine go_aload_n rfl 0 rfl dX8_passYards_8 ?_
  refine h_getr 5 cl6 rfl (by decide) tw_284 24 rfl dX8_passYards_9 ?_
  refine go_iload_n rfl 1 rfl dX8_passYards_12 ?_
  obtain ⟨r_1, h_2, h⟩ := q_b h
  refine h_callVv (st := []) [.ref (ad 1), .ref (ad 24), .int x1] (m_X2_look isP_1 h_2) me_X2_look (g_recv cl1.1 rfl) tw_662 tw_663 tw_664 (hdd_of (by decide)) ⟨Nat.zero_le _, Nat.zero_le _⟩ rfl rfl (Nat.le_of_ble_eq_true rfl) dX8_passYards_13 ?_
  refine go_iconst kz_iconst_0 dX8_passYards_16 ?_
  refine go_istore_n (l' := [(2, .int 0), (0, .ref (ad 0)), (1, .int x1)]) dX8_passYards_17 rfl (by decide) rfl ?_
  refine go_sub (l' := [(0, .ref (ad 0)), (1, .int x1), (2, .int 0)]) [1, 2, 0] rfl ?_
  refine m_X8_passYards_L18  FU _ _ _ h (fun ν_7 h => ?_)
  refine go_aload_n rfl 0 rfl dX8_passYards_53 ?_
  refine h_getr 0 cl6 rfl (by decide) tw_279 1 rfl dX8_passYards_54 ?_
  refine go_dup rfl dX8_passYards_57 ?_
  refine h_getiN 10 cl2 rfl (by decide) tw_138 rfl dX8_passYards_58 ?_
  refine go_iload_n rfl 1 rfl dX8_passYards_61 ?_
  refine go_iadd dX8_passYards_62 ?_
  obtain ⟨ν_8, e_9, h⟩ := q_l h
  refine h_putiN 10 cl2 rfl (by decide) tw_138 rfl rfl e_9 dX8_passYards_63 ?_
  exact h_vret h dX8_passYards_66 rfl
noncomputable def f_X8_person (x1 : Int32) (x2 : Int32) (x3 : Int32) (x4 : Int32) (x5 : Int32) (ν : gN) : Option (Int32 × gN) :=
  (f_X3_isKind x1 ν).bind (fun r_1 =>
    if r_1.1 = 0 then
      (f_X8_refuse 1 r_1.2).bind (fun r_25 =>
        some (r_25.1, r_25.2))
    else
      (f_X8_isBetween x2 0 9 r_1.2).bind (fun r_3 =>
        if r_3.1 = 0 then
          (f_X8_refuse 6 r_3.2).bind (fun r_5 =>
            some (r_5.1, r_5.2))
        else
          (f_X8_isBetween x3 0 20 r_3.2).bind (fun r_7 =>
            if r_7.1 = 0 then
              (f_X8_refuse 6 r_7.2).bind (fun r_9 =>
                some (r_9.1, r_9.2))
            else
              (f_X8_isBetween x4 1 4 r_7.2).bind (fun r_11 =>
                if r_11.1 = 0 then
                  (f_X8_refuse 6 r_11.2).bind (fun r_13 =>
                    some (r_13.1, r_13.2))
                else
                  (f_X4_isOpen 1 x5 r_11.2).bind (fun r_15 =>
                    if r_15.1 = 0 then
                      (f_X8_refuse 6 r_15.2).bind (fun r_23 =>
                        some (r_23.1, r_23.2))
                    else
                      (f_X4_hasRoom 1 r_15.2).bind (fun r_17 =>
                        if r_17.1 = 0 then
                          (f_X8_refuse 7 r_17.2).bind (fun r_21 =>
                            some (r_21.1, r_21.2))
                        else
                          (f_X4_addPerson 1 x1 x2 x3 x4 x5 r_17.2).bind (fun r_19 =>
                            some (r_19.1, r_19.2))))))))
theorem me_X8_person : g_me yX8_person cX8_person 6 ((Option.some .int)) 5 := ⟨tw_429, tw_72, ⟨by decide +kernel, by decide +kernel, by decide +kernel⟩, by decide⟩
set_option maxRecDepth 20000 in
set_option maxHeartbeats 2000000 in
theorem m_X8_person {X : gX} {ad : Nat → Nat} {x1 : Int32} {x2 : Int32} {x3 : Int32} {x4 : Int32} {x5 : Int32} {ν : gN} {r : Int32 × gN}  (h : f_X8_person x1 x2 x3 x4 x5 ν = some r) : h_ct X ad yX8_person cX8_person 6 ((Option.some .int)) 4 [.ref (ad 0), .int x1, .int x2, .int x3, .int x4, .int x5] ν (some (.int r.1), r.2) := by
  rw [f_X8_person] at h
  refine h_ct_of (l := [(0, .ref (ad 0)), (1, .int x1), (2, .int x2), (3, .int x3), (4, .int x4), (5, .int x5)]) (by decide) (Nat.le_of_ble_eq_true rfl) rfl ?_
  refine go_iload_n rfl 1 rfl dX8_person_0 ?_
  obtain ⟨r_1, h_2, h⟩ := q_b h
  refine h_callSi (st := []) [.int x1] (m_X3_isKind h_2) me_X3_isKind tw_402 tw_403 (hdd_of (by decide)) ⟨Nat.zero_le _, Nat.zero_le _⟩ rfl rfl (Nat.le_of_ble_eq_true rfl) dX8_person_1 ?_
  refine go_if_ne (tgt := 13) dX8_person_4 rfl (fun hc => ?_) (fun hc => ?_)
  · replace h := q_f h hc
    refine go_iload_n rfl 2 rfl dX8_person_13 ?_
    refine go_iconst kz_iconst_0 dX8_person_14 ?_
    refine go_bipush kz_bipush_9 dX8_person_15 ?_
    obtain ⟨r_3, h_4, h⟩ := q_b h
    refine h_callSi (st := []) [.int x2, .int 0, .int 9] (m_X8_isBetween h_4) me_X8_isBetween tw_320 tw_321 (hdd_of (by decide)) ⟨Nat.zero_le _, Nat.zero_le _⟩ rfl rfl (Nat.le_of_ble_eq_true rfl) dX8_person_17 ?_
    refine go_if_eq (tgt := 55) dX8_person_20 rfl (fun hc => ?_) (fun hc => ?_)
    · replace h := q_t h hc
      refine go_aload_n rfl 0 rfl dX8_person_55 ?_
      refine go_bipush kz_bipush_6 dX8_person_56 ?_
      obtain ⟨r_5, h_6, h⟩ := q_b h
      refine h_callVi (st := []) [.int 6] (m_X8_refuse h_6) me_X8_refuse (g_recv cl6.1 rfl) tw_323 tw_325 tw_0 (hdd_of (by decide)) ⟨Nat.zero_le _, Nat.zero_le _⟩ rfl rfl (Nat.le_of_ble_eq_true rfl) dX8_person_58 ?_
      exact h_iret h dX8_person_61 rfl
    · replace h := q_f h hc
      refine go_iload_n rfl 3 rfl dX8_person_23 ?_
      refine go_iconst kz_iconst_0 dX8_person_24 ?_
      refine go_bipush kz_bipush_20 dX8_person_25 ?_
      obtain ⟨r_7, h_8, h⟩ := q_b h
      refine h_callSi (st := []) [.int x3, .int 0, .int 20] (m_X8_isBetween h_8) me_X8_isBetween tw_320 tw_321 (hdd_of (by decide)) ⟨Nat.zero_le _, Nat.zero_le _⟩ rfl rfl (Nat.le_of_ble_eq_true rfl) dX8_person_27 ?_
      refine go_if_eq (tgt := 55) dX8_person_30 rfl (fun hc => ?_) (fun hc => ?_)
      · replace h := q_t h hc
        refine go_aload_n rfl 0 rfl dX8_person_55 ?_
        refine go_bipush kz_bipush_6 dX8_person_56 ?_
        obtain ⟨r_9, h_10, h⟩ := q_b h
        refine h_callVi (st := []) [.int 6] (m_X8_refuse h_10) me_X8_refuse (g_recv cl6.1 rfl) tw_323 tw_325 tw_0 (hdd_of (by decide)) ⟨Nat.zero_le _, Nat.zero_le _⟩ rfl rfl (Nat.le_of_ble_eq_true rfl) dX8_person_58 ?_
        exact h_iret h dX8_person_61 rfl
      · replace h := q_f h hc
        refine go_iload 4 rfl dX8_person_33 ?_
        refine go_iconst kz_iconst_1 dX8_person_35 ?_
        refine go_iconst kz_iconst_4 dX8_person_36 ?_
        obtain ⟨r_11, h_12, h⟩ := q_b h
        refine h_callSi (st := []) [.int x4, .int 1, .int 4] (m_X8_isBetween h_12) me_X8_isBetween tw_320 tw_321 (hdd_of (by decide)) ⟨Nat.zero_le _, Nat.zero_le _⟩ rfl rfl (Nat.le_of_ble_eq_true rfl) dX8_person_37 ?_
        refine go_if_eq (tgt := 55) dX8_person_40 rfl (fun hc => ?_) (fun hc => ?_)
        · replace h := q_t h hc
          refine go_aload_n rfl 0 rfl dX8_person_55 ?_
          refine go_bipush kz_bipush_6 dX8_person_56 ?_
          obtain ⟨r_13, h_14, h⟩ := q_b h
          refine h_callVi (st := []) [.int 6] (m_X8_refuse h_14) me_X8_refuse (g_recv cl6.1 rfl) tw_323 tw_325 tw_0 (hdd_of (by decide)) ⟨Nat.zero_le _, Nat.zero_le _⟩ rfl rfl (Nat.le_of_ble_eq_true rfl) dX8_person_58 ?_
          exact h_iret h dX8_person_61 rfl
        · replace h := q_f h hc
          refine go_aload_n rfl 0 rfl dX8_person_43 ?_
          refine h_getr 0 cl6 rfl (by decide) tw_279 1 rfl dX8_person_44 ?_
          refine go_iload 5 rfl dX8_person_47 ?_
          obtain ⟨r_15, h_16, h⟩ := q_b h
          refine h_callVi (st := []) [.int x5] (m_X4_isOpen isP_1 h_16) me_X4_isOpen (g_recv cl2.1 rfl) tw_430 tw_431 tw_432 (hdd_of (by decide)) ⟨Nat.zero_le _, Nat.zero_le _⟩ rfl rfl (Nat.le_of_ble_eq_true rfl) dX8_person_49 ?_
          refine go_if_ne (tgt := 62) dX8_person_52 rfl (fun hc => ?_) (fun hc => ?_)
          · replace h := q_f h hc
            refine go_aload_n rfl 0 rfl dX8_person_62 ?_
            refine h_getr 0 cl6 rfl (by decide) tw_279 1 rfl dX8_person_63 ?_
            obtain ⟨r_17, h_18, h⟩ := q_b h
            refine h_callVi (st := []) [] (m_X4_hasRoom isP_1 h_18) me_X4_hasRoom (g_recv cl2.1 rfl) tw_441 tw_442 tw_443 (hdd_of (by decide)) ⟨Nat.zero_le _, Nat.zero_le _⟩ rfl rfl (Nat.le_of_ble_eq_true rfl) dX8_person_66 ?_
            refine go_if_ne (tgt := 79) dX8_person_69 rfl (fun hc => ?_) (fun hc => ?_)
            · replace h := q_f h hc
              refine go_aload_n rfl 0 rfl dX8_person_79 ?_
              refine h_getr 0 cl6 rfl (by decide) tw_279 1 rfl dX8_person_80 ?_
              refine go_iload_n rfl 1 rfl dX8_person_83 ?_
              refine go_iload_n rfl 2 rfl dX8_person_84 ?_
              refine go_iload_n rfl 3 rfl dX8_person_85 ?_
              refine go_iload 4 rfl dX8_person_86 ?_
              refine go_iload 5 rfl dX8_person_88 ?_
              obtain ⟨r_19, h_20, h⟩ := q_b h
              refine h_callVi (st := []) [.int x1, .int x2, .int x3, .int x4, .int x5] (m_X4_addPerson isP_1 h_20) me_X4_addPerson (g_recv cl2.1 rfl) tw_445 tw_446 tw_447 (hdd_of (by decide)) ⟨Nat.zero_le _, Nat.zero_le _⟩ rfl rfl (Nat.le_of_ble_eq_true rfl) dX8_person_90 ?_
              exact h_iret h dX8_person_93 rfl
            · replace h := q_t h hc
              refine go_aload_n rfl 0 rfl dX8_person_72 ?_
              refine go_bipush kz_bipush_7 dX8_person_73 ?_
              obtain ⟨r_21, h_22, h⟩ := q_b h
              refine h_callVi (st := []) [.int 7] (m_X8_refuse h_22) me_X8_refuse (g_recv cl6.1 rfl) tw_323 tw_325 tw_0 (hdd_of (by decide)) ⟨Nat.zero_le _, Nat.zero_le _⟩ rfl rfl (Nat.le_of_ble_eq_true rfl) dX8_person_75 ?_
              exact h_iret h dX8_person_78 rfl
          · replace h := q_t h hc
            refine go_aload_n rfl 0 rfl dX8_person_55 ?_
            refine go_bipush kz_bipush_6 dX8_person_56 ?_
            obtain ⟨r_23, h_24, h⟩ := q_b h
            refine h_callVi (st := []) [.int 6] (m_X8_refuse h_24) me_X8_refuse (g_recv cl6.1 rfl) tw_323 tw_325 tw_0 (hdd_of (by decide)) ⟨Nat.zero_le _, Nat.zero_le _⟩ rfl rfl (Nat.le_of_ble_eq_true rfl) dX8_person_58 ?_
            exact h_iret h dX8_person_61 rfl
  · replace h := q_t h hc
    refine go_aload_n rfl 0 rfl dX8_person_7 ?_
    refine go_iconst kz_iconst_1 dX8_person_8 ?_
    obtain ⟨r_25, h_26, h⟩ := q_b h
    refine h_callVi (st := []) [.int 1] (m_X8_refuse h_26) me_X8_refuse (g_recv cl6.1 rfl) tw_323 tw_325 tw_0 (hdd_of (by decide)) ⟨Nat.zero_le _, Nat.zero_le _⟩ rfl rfl (Nat.le_of_ble_eq_true rfl) dX8_person_9 ?_
    exact h_iret h dX8_person_12 rfl
noncomputable def f_X8_personOf (x1 : Int32) (x2 : Int32) (ν : gN) : Option (Int32 × gN) :=
  (f_X4_isPerson 1 x1 ν).bind (fun r_1 =>
    if r_1.1 = 0 then
      (f_X8_refuse 5 r_1.2).bind (fun r_26 =>
        some (r_26.1, r_26.2))
    else
      if x2 = 0 then
        if inb x1 7 = true then
          some (r_1.2.1 2 x1.toNatClampNeg, r_1.2)
        else none
      else
      if x2 = 1 then
        if inb x1 7 = true then
          some (r_1.2.1 3 x1.toNatClampNeg, r_1.2)
        else none
      else
      if x2 = 2 then
        if inb x1 7 = true then
          some (r_1.2.1 4 x1.toNatClampNeg, r_1.2)
        else none
      else
      if x2 = 3 then
        if inb x1 7 = true then
          some (r_1.2.1 5 x1.toNatClampNeg, r_1.2)
        else none
      else
      if x2 = 4 then
        if inb x1 7 = true then
          some (r_1.2.1 6 x1.toNatClampNeg, r_1.2)
        else none
      else
      if x2 = 5 then
        if inb x1 7 = true then
          some (r_1.2.1 7 x1.toNatClampNeg, r_1.2)
        else none
      else
      if x2 = 6 then
        (f_X4_smellOf 1 x1 r_1.2).bind (fun r_16 =>
          some (r_16.1, r_16.2))
      else
      if x2 = 7 then
        (f_X4_isFleeing 1 x1 r_1.2).bind (fun r_19 =>
          if r_19.1 = 0 then
            some (0, r_19.2)
          else
            some (1, r_19.2))
      else
      if x2 = 8 then
        (f_X4_isPutOut 1 x1 r_1.2).bind (fun r_22 =>
          if r_22.1 = 0 then
            some (0, r_22.2)
          else
            some (1, r_22.2))
      else
      (f_X8_refuse 5 r_1.2).bind (fun r_24 =>
        some (r_24.1, r_24.2)))
theorem me_X8_personOf : g_me yX8_personOf cX8_personOf 3 ((Option.some .int)) 2 := ⟨tw_482, tw_72, ⟨by decide +kernel, by decide +kernel, by decide +kernel⟩, by decide⟩
set_option maxRecDepth 20000 in
set_option maxHeartbeats 2000000 in
theorem m_X8_personOf {X : gX} {ad : Nat → Nat} {x1 : Int32} {x2 : Int32} {ν : gN} {r : Int32 × gN}  (h : f_X8_personOf x1 x2 ν = some r) : h_ct X ad yX8_personOf cX8_personOf 3 ((Option.some .int)) 4 [.ref (ad 0), .int x1, .int x2] ν (some (.int r.1), r.2) := by
  rw [f_X8_personOf] at h
  refine h_ct_of (l := [(0, .ref (ad 0)), (1, .int x1), (2, .int x2)]) (by decide) (Nat.le_of_ble_eq_true rfl) rfl ?_
  refine go_aload_n rfl 0 rfl dX8_personOf_0 ?_
  refine h_getr 0 cl6 rfl (by decide) tw_279 1 rfl dX8_personOf_1 ?_
  refine go_iload_n rfl 1 rfl dX8_personOf_4 ?_
  obtain ⟨r_1, h_2, h⟩ := q_b h
  refine h_callVi (st := []) [.int x1] (m_X4_isPerson isP_1 h_2) me_X4_isPerson (g_recv cl2.1 rfl) tw_386 tw_387 tw_388 (hdd_of (by decide)) ⟨Nat.zero_le _, Nat.zero_le _⟩ rfl rfl (Nat.le_of_ble_eq_true rfl) dX8_personOf_5 ?_
  refine go_if_ne (tgt := 17) dX8_personOf_8 rfl (fun hc => ?_) (fun hc => ?_)
  · replace h := q_f h hc
    refine go_iload_n rfl 2 rfl dX8_personOf_17 ?_
    by_cases hk_3 : x2 = 0
    · replace h := q_t h hk_3
      refine h_tbT (tgt := 68) (off := 50) hk_3 dX8_personOf_18 (by decide) (by decide) rfl rfl ?_
      refine go_aload_n rfl 0 rfl dX8_personOf_68 ?_
      refine h_getr 0 cl6 rfl (by decide) tw_279 1 rfl dX8_personOf_69 ?_
      refine h_getrN 0 cl2 rfl (by decide) tw_107 2 rfl dX8_personOf_72 ?_
      refine go_iload_n rfl 1 rfl dX8_personOf_75 ?_
      obtain ⟨hg_4, h⟩ := q_g h
      refine h_iald 7 rfl hg_4 dX8_personOf_76 ?_
      exact h_iret h dX8_personOf_77 rfl
    replace h := q_f h hk_3
    by_cases hk_5 : x2 = 1
    · replace h := q_t h hk_5
      refine h_tbT (tgt := 78) (off := 60) hk_5 dX8_personOf_18 (by decide) (by decide) rfl rfl ?_
      refine go_aload_n rfl 0 rfl dX8_personOf_78 ?_
      refine h_getr 0 cl6 rfl (by decide) tw_279 1 rfl dX8_personOf_79 ?_
      refine h_getrN 1 cl2 rfl (by decide) tw_111 3 rfl dX8_personOf_82 ?_
      refine go_iload_n rfl 1 rfl dX8_personOf_85 ?_
      obtain ⟨hg_6, h⟩ := q_g h
      refine h_iald 7 rfl hg_6 dX8_personOf_86 ?_
      exact h_iret h dX8_personOf_87 rfl
    replace h := q_f h hk_5
    by_cases hk_7 : x2 = 2
    · replace h := q_t h hk_7
      refine h_tbT (tgt := 88) (off := 70) hk_7 dX8_personOf_18 (by decide) (by decide) rfl rfl ?_
      refine go_aload_n rfl 0 rfl dX8_personOf_88 ?_
      refine h_getr 0 cl6 rfl (by decide) tw_279 1 rfl dX8_personOf_89 ?_
      refine h_getrN 2 cl2 rfl (by decide) tw_114 4 rfl dX8_personOf_92 ?_
      refine go_iload_n rfl 1 rfl dX8_personOf_95 ?_
      obtain ⟨hg_8, h⟩ := q_g h
      refine h_iald 7 rfl hg_8 dX8_personOf_96 ?_
      exact h_iret h dX8_personOf_97 rfl
    replace h := q_f h hk_7
    by_cases hk_9 : x2 = 3
    · replace h := q_t h hk_9
      refine h_tbT (tgt := 98) (off := 80) hk_9 dX8_personOf_18 (by decide) (by decide) rfl rfl ?_
      refine go_aload_n rfl 0 rfl dX8_personOf_98 ?_
      refine h_getr 0 cl6 rfl (by decide) tw_279 1 rfl dX8_personOf_99 ?_
      refine h_getrN 3 cl2 rfl (by decide) tw_116 5 rfl dX8_personOf_102 ?_
      refine go_iload_n rfl 1 rfl dX8_personOf_105 ?_
      obtain ⟨hg_10, h⟩ := q_g h
      refine h_iald 7 rfl hg_10 dX8_personOf_106 ?_
      exact h_iret h dX8_personOf_107 rfl
    replace h := q_f h hk_9
    by_cases hk_11 : x2 = 4
    · replace h := q_t h hk_11
      refine h_tbT (tgt := 108) (off := 90) hk_11 dX8_personOf_18 (by decide) (by decide) rfl rfl ?_
      refine go_aload_n rfl 0 rfl dX8_personOf_108 ?_
      refine h_getr 0 cl6 rfl (by decide) tw_279 1 rfl dX8_personOf_109 ?_
      refine h_getrN 4 cl2 rfl (by decide) tw_119 6 rfl dX8_personOf_112 ?_
      refine go_iload_n rfl 1 rfl dX8_personOf_115 ?_
      obtain ⟨hg_12, h⟩ := q_g h
      refine h_iald 7 rfl hg_12 dX8_personOf_116 ?_
      exact h_iret h dX8_personOf_117 rfl
    replace h := q_f h hk_11
    by_cases hk_13 : x2 = 5
    · replace h := q_t h hk_13
      refine h_tbT (tgt := 118) (off := 100) hk_13 dX8_personOf_18 (by decide) (by decide) rfl rfl ?_
      refine go_aload_n rfl 0 rfl dX8_personOf_118 ?_
      refine h_getr 0 cl6 rfl (by decide) tw_279 1 rfl dX8_personOf_119 ?_
      refine h_getrN 5 cl2 rfl (by decide) tw_121 7 rfl dX8_personOf_122 ?_
      refine go_iload_n rfl 1 rfl dX8_personOf_125 ?_
      obtain ⟨hg_14, h⟩ := q_g h
      refine h_iald 7 rfl hg_14 dX8_personOf_126 ?_
      exact h_iret h dX8_personOf_127 rfl
    replace h := q_f h hk_13
    by_cases hk_15 : x2 = 6
    · replace h := q_t h hk_15
      refine h_tbT (tgt := 128) (off := 110) hk_15 dX8_personOf_18 (by decide) (by decide) rfl rfl ?_
      refine go_aload_n rfl 0 rfl dX8_personOf_128 ?_
      refine h_getr 0 cl6 rfl (by decide) tw_279 1 rfl dX8_personOf_129 ?_
      refine go_iload_n rfl 1 rfl dX8_personOf_132 ?_
      obtain ⟨r_16, h_17, h⟩ := q_b h
      refine h_callVi (st := []) [.int x1] (m_X4_smellOf isP_1 h_17) me_X4_smellOf (g_recv cl2.1 rfl) tw_419 tw_420 tw_421 (hdd_of (by decide)) ⟨Nat.zero_le _, Nat.zero_le _⟩ rfl rfl (Nat.le_of_ble_eq_true rfl) dX8_personOf_133 ?_
      exact h_iret h dX8_personOf_136 rfl
    replace h := q_f h hk_15
    by_cases hk_18 : x2 = 7
    · replace h := q_t h hk_18
      refine h_tbT (tgt := 137) (off := 119) hk_18 dX8_personOf_18 (by decide) (by decide) rfl rfl ?_
      refine go_aload_n rfl 0 rfl dX8_personOf_137 ?_
      refine h_getr 0 cl6 rfl (by decide) tw_279 1 rfl dX8_personOf_138 ?_
      refine go_iload_n rfl 1 rfl dX8_personOf_141 ?_
      obtain ⟨r_19, h_20, h⟩ := q_b h
      refine h_callVi (st := []) [.int x1] (m_X4_isFleeing isP_1 h_20) me_X4_isFleeing (g_recv cl2.1 rfl) tw_483 tw_484 tw_485 (hdd_of (by decide)) ⟨Nat.zero_le _, Nat.zero_le _⟩ rfl rfl (Nat.le_of_ble_eq_true rfl) dX8_personOf_142 ?_
      refine go_if_eq (tgt := 152) dX8_personOf_145 rfl (fun hc => ?_) (fun hc => ?_)
      · replace h := q_t h hc
        refine go_iconst kz_iconst_0 dX8_personOf_152 ?_
        exact h_iret h dX8_personOf_153 rfl
      · replace h := q_f h hc
        refine go_iconst kz_iconst_1 dX8_personOf_148 ?_
        refine go_goto (tgt := 153) dX8_personOf_149 rfl ?_
        exact h_iret h dX8_personOf_153 rfl
    replace h := q_f h hk_18
    by_cases hk_21 : x2 = 8
    · replace h := q_t h hk_21
      refine h_tbT (tgt := 154) (off := 136) hk_21 dX8_personOf_18 (by decide) (by decide) rfl rfl ?_
      refine go_aload_n rfl 0 rfl dX8_personOf_154 ?_
      refine h_getr 0 cl6 rfl (by decide) tw_279 1 rfl dX8_personOf_155 ?_
      refine go_iload_n rfl 1 rfl dX8_personOf_158 ?_
      obtain ⟨r_22, h_23, h⟩ := q_b h
      refine h_callVi (st := []) [.int x1] (m_X4_isPutOut isP_1 h_23) me_X4_isPutOut (g_recv cl2.1 rfl) tw_490 tw_491 tw_492 (hdd_of (by decide)) ⟨Nat.zero_le _, Nat.zero_le _⟩ rfl rfl (Nat.le_of_ble_eq_true rfl) dX8_personOf_159 ?_
      refine go_if_eq (tgt := 169) dX8_personOf_162 rfl (fun hc => ?_) (fun hc => ?_)
      · replace h := q_t h hc
        refine go_iconst kz_iconst_0 dX8_personOf_169 ?_
        exact h_iret h dX8_personOf_170 rfl
      · replace h := q_f h hc
        refine go_iconst kz_iconst_1 dX8_personOf_165 ?_
        refine go_goto (tgt := 170) dX8_personOf_166 rfl ?_
        exact h_iret h dX8_personOf_170 rfl
    replace h := q_f h hk_21
    have hk_3 := h_nT hk_3 (a := 0) (by decide)
    have hk_5 := h_nT hk_5 (a := 1) (by decide)
    have hk_7 := h_nT hk_7 (a := 2) (by decide)
    have hk_9 := h_nT hk_9 (a := 3) (by decide)
    have hk_11 := h_nT hk_11 (a := 4) (by decide)
    have hk_13 := h_nT hk_13 (a := 5) (by decide)
    have hk_15 := h_nT hk_15 (a := 6) (by decide)
    have hk_18 := h_nT hk_18 (a := 7) (by decide)
    have hk_21 := h_nT hk_21 (a := 8) (by decide)
    refine go_tableOut (tgt := 171) dX8_personOf_18 (by omega) rfl ?_
    refine go_aload_n rfl 0 rfl dX8_personOf_171 ?_
    refine go_iconst kz_iconst_5 dX8_personOf_172 ?_
    obtain ⟨r_24, h_25, h⟩ := q_b h
    refine h_callVi (st := []) [.int 5] (m_X8_refuse h_25) me_X8_refuse (g_recv cl6.1 rfl) tw_323 tw_325 tw_0 (hdd_of (by decide)) ⟨Nat.zero_le _, Nat.zero_le _⟩ rfl rfl (Nat.le_of_ble_eq_true rfl) dX8_personOf_173 ?_
    exact h_iret h dX8_personOf_176 rfl
  · replace h := q_t h hc
    refine go_aload_n rfl 0 rfl dX8_personOf_11 ?_
    refine go_iconst kz_iconst_5 dX8_personOf_12 ?_
    obtain ⟨r_26, h_27, h⟩ := q_b h
    refine h_callVi (st := []) [.int 5] (m_X8_refuse h_27) me_X8_refuse (g_recv cl6.1 rfl) tw_323 tw_325 tw_0 (hdd_of (by decide)) ⟨Nat.zero_le _, Nat.zero_le _⟩ rfl rfl (Nat.le_of_ble_eq_true rfl) dX8_personOf_13 ?_
    exact h_iret h dX8_personOf_16 rfl
noncomputable def f_X8_port (x1 : Int32) (ν : gN) : Option (Int32 × gN) :=
  (f_X8_whyNoRow x1 ν).bind (fun r_1 =>
    if r_1.1 = 0 then
      (f_X4_takeFrom 8 1 r_1.2).bind (fun r_3 =>
        if inb x1 8 = true then
          (f_X5_read (37 + 2 * x1.toNatClampNeg) 8 r_3).bind (fun r_6 =>
            qL (nWI r_6.2 0 10 (r_6.2.1 33 4)) (fun ν_8 =>
              if (ν_8.1 0 10) = (-1) then
                (f_X4_takeFrom 1 8 ν_8).bind (fun r_10 =>
                  some (r_6.1, r_10))
              else
                (f_X8_refuse 6 ν_8).bind (fun r_12 =>
                  some (r_12.1, r_12.2))))
        else none)
    else
      (f_X8_refuse r_1.1 r_1.2).bind (fun r_14 =>
        some (r_14.1, r_14.2)))
theorem me_X8_port : g_me yX8_port cX8_port 4 ((Option.some .int)) 1 := ⟨tw_504, tw_72, ⟨by decide +kernel, by decide +kernel, by decide +kernel⟩, by decide⟩
set_option maxRecDepth 20000 in
set_option maxHeartbeats 2000000 in
theorem m_X8_port {X : gX} {ad : Nat → Nat} {x1 : Int32} {ν : gN} {r : Int32 × gN}  (h : f_X8_port x1 ν = some r) : h_ct X ad yX8_port cX8_port 4 ((Option.some .int)) 9 [.ref (ad 0), .int x1] ν (some (.int r.1), r.2) := by
  rw [f_X8_port] at h
  refine h_ct_of (l := [(0, .ref (ad 0)), (1, .int x1)]) (by decide) (Nat.le_of_ble_eq_true rfl) rfl ?_
  refine go_aload_n rfl 0 rfl dX8_port_0 ?_
  refine go_iload_n rfl 1 rfl dX8_port_1 ?_
  obtain ⟨r_1, h_2, h⟩ := q_b h
  refine h_callVi (st := []) [.int x1] (m_X8_whyNoRow h_2) me_X8_whyNoRow (g_recv cl6.1 rfl) tw_338 tw_340 tw_1 (hdd_of (by decide)) ⟨Nat.zero_le _, Nat.zero_le _⟩ rfl rfl (Nat.le_of_ble_eq_true rfl) dX8_port_2 ?_
  refine go_istore_n (l' := [(2, .int r_1.1), (0, .ref (ad 0)), (1, .int x1)]) dX8_port_5 rfl (by decide) rfl ?_
  refine go_iload_n rfl 0 rfl dX8_port_6 ?_
  refine go_if_eq (tgt := 16) dX8_port_7 rfl (fun hc => ?_) (fun hc => ?_)
  · replace h := q_t h hc
    refine go_aload_n rfl 1 rfl dX8_port_16 ?_
    refine h_getr 1 cl6 rfl (by decide) tw_280 8 rfl dX8_port_17 ?_
    refine go_aload_n rfl 1 rfl dX8_port_20 ?_
    refine h_getr 0 cl6 rfl (by decide) tw_279 1 rfl dX8_port_21 ?_
    obtain ⟨r_3, h_4, h⟩ := q_b h
    refine h_callVv (st := []) [.ref (ad 1)] (m_X4_takeFrom isP_8 isP_1 h_4) me_X4_takeFrom (g_recv cl2.1 rfl) tw_505 tw_506 tw_507 (hdd_of (by decide)) ⟨Nat.zero_le _, Nat.zero_le _⟩ rfl rfl (Nat.le_of_ble_eq_true rfl) dX8_port_24 ?_
    refine go_aload_n rfl 1 rfl dX8_port_27 ?_
    refine h_getr 7 cl6 rfl (by decide) tw_286 33 rfl dX8_port_28 ?_
    refine go_aload_n rfl 1 rfl dX8_port_31 ?_
    refine h_getr 3 cl6 rfl (by decide) tw_282 22 rfl dX8_port_32 ?_
    refine go_iload_n rfl 2 rfl dX8_port_35 ?_
    obtain ⟨hg_5, h⟩ := q_g h
    refine h_aald hg_5 dX8_port_36 ?_
    refine go_aload_n rfl 1 rfl dX8_port_37 ?_
    refine h_getr 1 cl6 rfl (by decide) tw_280 8 rfl dX8_port_38 ?_
    obtain ⟨r_6, h_7, h⟩ := q_b h
    refine h_callVi (st := []) [.ref (ad (37 + 2 * x1.toNatClampNeg)), .ref (ad 8)] (m_X5_read (isS_in hg_5) isP_8 h_7) me_X5_read (g_recv cl3.1 rfl) tw_510 tw_511 tw_512 (hdd_of (by decide)) ⟨Nat.zero_le _, Nat.zero_le _⟩ rfl rfl (Nat.le_of_ble_eq_true rfl) dX8_port_41 ?_
    refine go_istore_n (l' := [(3, .int r_6.1), (2, .int r_1.1), (0, .ref (ad 0)), (1, .int x1)]) dX8_port_44 rfl (by decide) rfl ?_
    refine go_aload_n rfl 2 rfl dX8_port_45 ?_
    refine go_aload_n rfl 2 rfl dX8_port_46 ?_
    refine h_getr 7 cl6 rfl (by decide) tw_286 33 rfl dX8_port_47 ?_
    refine h_getiN 4 cl3 rfl (by decide) tw_225 rfl dX8_port_50 ?_
    obtain ⟨ν_8, e_9, h⟩ := q_l h
    refine h_puti 10 cl6 rfl (by decide) tw_289 rfl rfl e_9 dX8_port_53 ?_
    refine go_aload_n rfl 2 rfl dX8_port_56 ?_
    refine h_geti 10 cl6 rfl (by decide) tw_289 rfl dX8_port_57 ?_
    refine go_iconst kz_iconst_m1 dX8_port_60 ?_
    refine go_icmp_eq (tgt := 71) dX8_port_61 rfl (fun hc => ?_) (fun hc => ?_)
    · replace h := q_t h hc
      refine go_aload_n rfl 2 rfl dX8_port_71 ?_
      refine h_getr 0 cl6 rfl (by decide) tw_279 1 rfl dX8_port_72 ?_
      refine go_aload_n rfl 2 rfl dX8_port_75 ?_
      refine h_getr 1 cl6 rfl (by decide) tw_280 8 rfl dX8_port_76 ?_
      obtain ⟨r_10, h_11, h⟩ := q_b h
      refine h_callVv (st := []) [.ref (ad 8)] (m_X4_takeFrom isP_1 isP_8 h_11) me_X4_takeFrom (g_recv cl2.1 rfl) tw_505 tw_506 tw_507 (hdd_of (by decide)) ⟨Nat.zero_le _, Nat.zero_le _⟩ rfl rfl (Nat.le_of_ble_eq_true rfl) dX8_port_79 ?_
      refine go_iload_n rfl 0 rfl dX8_port_82 ?_
      exact h_iret h dX8_port_83 rfl
    · replace h := q_f h hc
      refine go_aload_n rfl 2 rfl dX8_port_64 ?_
      refine go_bipush kz_bipush_6 dX8_port_65 ?_
      obtain ⟨r_12, h_13, h⟩ := q_b h
      refine h_callVi (st := []) [.int 6] (m_X8_refuse h_13) me_X8_refuse (g_recv cl6.1 rfl) tw_323 tw_325 tw_0 (hdd_of (by decide)) ⟨Nat.zero_le _, Nat.zero_le _⟩ rfl rfl (Nat.le_of_ble_eq_true rfl) dX8_port_67 ?_
      exact h_iret h dX8_port_70 rfl
  · replace h := q_f h hc
    refine go_aload_n rfl 1 rfl dX8_port_10 ?_
    refine go_iload_n rfl 0 rfl dX8_port_11 ?_
    obtain ⟨r_14, h_15, h⟩ := q_b h
    refine h_callVi (st := []) [.int r_1.1] (m_X8_refuse h_15) me_X8_refuse (g_recv cl6.1 rfl) tw_323 tw_325 tw_0 (hdd_of (by decide)) ⟨Nat.zero_le _, Nat.zero_le _⟩ rfl rfl (Nat.le_of_ble_eq_true rfl) dX8_port_12 ?_
    exact h_iret h dX8_port_15 rfl
noncomputable def f_X8_power (x1 : Int32) (x2 : Int32) (ν : gN) : Option (Int32 × gN) :=
  (f_X4_isPerson 1 x1 ν).bind (fun r_1 =>
    if r_1.1 = 0 then
      (f_X8_refuse 1 r_1.2).bind (fun r_13 =>
        some (r_13.1, r_13.2))
    else
      (f_X8_isIn x2 x1 r_1.2).bind (fun r_3 =>
        if r_3.1 = 0 then
          (f_X8_refuse 5 r_3.2).bind (fun r_11 =>
            some (r_11.1, r_11.2))
        else
          (f_X4_areAllThere 1 x2 r_3.2).bind (fun r_5 =>
            if r_5.1 = 0 then
              (f_X8_refuse 6 r_5.2).bind (fun r_9 =>
                some (r_9.1, r_9.2))
            else
              (f_X0_pivots 1 x1 x2 r_5.2).bind (fun r_7 =>
                some (r_7.1, r_7.2)))))
theorem me_X8_power : g_me yX8_power cX8_power 3 ((Option.some .int)) 2 := ⟨tw_776, tw_72, ⟨by decide +kernel, by decide +kernel, by decide +kernel⟩, by decide⟩
set_option maxRecDepth 20000 in
set_option maxHeartbeats 2000000 in
theorem m_X8_power {X : gX} {ad : Nat → Nat} {x1 : Int32} {x2 : Int32} {ν : gN} {r : Int32 × gN}  (h : f_X8_power x1 x2 ν = some r) : h_ct X ad yX8_power cX8_power 3 ((Option.some .int)) 5 [.ref (ad 0), .int x1, .int x2] ν (some (.int r.1), r.2) := by
  rw [f_X8_power] at h
  refine h_ct_of (l := [(0, .ref (ad 0)), (1, .int x1), (2, .int x2)]) (by decide) (Nat.le_of_ble_eq_true rfl) rfl ?_
  refine go_aload_n rfl 0 rfl dX8_power_0 ?_
  refine h_getr 0 cl6 rfl (by decide) tw_279 1 rfl dX8_power_1 ?_
  refine go_iload_n rfl 1 rfl dX8_power_4 ?_
  obtain ⟨r_1, h_2, h⟩ := q_b h
  refine h_callVi (st := []) [.int x1] (m_X4_isPerson isP_1 h_2) me_X4_isPerson (g_recv cl2.1 rfl) tw_386 tw_387 tw_388 (hdd_of (by decide)) ⟨Nat.zero_le _, Nat.zero_le _⟩ rfl rfl (Nat.le_of_ble_eq_true rfl) dX8_power_5 ?_
  refine go_if_ne (tgt := 17) dX8_power_8 rfl (fun hc => ?_) (fun hc => ?_)
  · replace h := q_f h hc
    refine go_iload_n rfl 2 rfl dX8_power_17 ?_
    refine go_iload_n rfl 1 rfl dX8_power_18 ?_
    obtain ⟨r_3, h_4, h⟩ := q_b h
    refine h_callSi (st := []) [.int x2, .int x1] (m_X8_isIn h_4) me_X8_isIn tw_726 tw_691 (hdd_of (by decide)) ⟨Nat.zero_le _, Nat.zero_le _⟩ rfl rfl (Nat.le_of_ble_eq_true rfl) dX8_power_19 ?_
    refine go_if_ne (tgt := 31) dX8_power_22 rfl (fun hc => ?_) (fun hc => ?_)
    · replace h := q_f h hc
      refine go_aload_n rfl 0 rfl dX8_power_31 ?_
      refine h_getr 0 cl6 rfl (by decide) tw_279 1 rfl dX8_power_32 ?_
      refine go_iload_n rfl 2 rfl dX8_power_35 ?_
      obtain ⟨r_5, h_6, h⟩ := q_b h
      refine h_callVi (st := []) [.int x2] (m_X4_areAllThere isP_1 h_6) me_X4_areAllThere (g_recv cl2.1 rfl) tw_777 tw_778 tw_779 (hdd_of (by decide)) ⟨Nat.zero_le _, Nat.zero_le _⟩ rfl rfl (Nat.le_of_ble_eq_true rfl) dX8_power_36 ?_
      refine go_if_ne (tgt := 49) dX8_power_39 rfl (fun hc => ?_) (fun hc => ?_)
      · replace h := q_f h hc
        refine go_aload_n rfl 0 rfl dX8_power_49 ?_
        refine h_getr 0 cl6 rfl (by decide) tw_279 1 rfl dX8_power_50 ?_
        refine go_iload_n rfl 1 rfl dX8_power_53 ?_
        refine go_iload_n rfl 2 rfl dX8_power_54 ?_
        obtain ⟨r_7, h_8, h⟩ := q_b h
        refine h_callSi (st := []) [.ref (ad 1), .int x1, .int x2] (m_X0_pivots isP_1 h_8) me_X0_pivots tw_781 tw_782 (hdd_of (by decide)) ⟨Nat.zero_le _, Nat.zero_le _⟩ rfl rfl (Nat.le_of_ble_eq_true rfl) dX8_power_55 ?_
        exact h_iret h dX8_power_58 rfl
      · replace h := q_t h hc
        refine go_aload_n rfl 0 rfl dX8_power_42 ?_
        refine go_bipush kz_bipush_6 dX8_power_43 ?_
        obtain ⟨r_9, h_10, h⟩ := q_b h
        refine h_callVi (st := []) [.int 6] (m_X8_refuse h_10) me_X8_refuse (g_recv cl6.1 rfl) tw_323 tw_325 tw_0 (hdd_of (by decide)) ⟨Nat.zero_le _, Nat.zero_le _⟩ rfl rfl (Nat.le_of_ble_eq_true rfl) dX8_power_45 ?_
        exact h_iret h dX8_power_48 rfl
    · replace h := q_t h hc
      refine go_aload_n rfl 0 rfl dX8_power_25 ?_
      refine go_iconst kz_iconst_5 dX8_power_26 ?_
      obtain ⟨r_11, h_12, h⟩ := q_b h
      refine h_callVi (st := []) [.int 5] (m_X8_refuse h_12) me_X8_refuse (g_recv cl6.1 rfl) tw_323 tw_325 tw_0 (hdd_of (by decide)) ⟨Nat.zero_le _, Nat.zero_le _⟩ rfl rfl (Nat.le_of_ble_eq_true rfl) dX8_power_27 ?_
      exact h_iret h dX8_power_30 rfl
  · replace h := q_t h hc
    refine go_aload_n rfl 0 rfl dX8_power_11 ?_
    refine go_iconst kz_iconst_1 dX8_power_12 ?_
    obtain ⟨r_13, h_14, h⟩ := q_b h
    refine h_callVi (st := []) [.int 1] (m_X8_refuse h_14) me_X8_refuse (g_recv cl6.1 rfl) tw_323 tw_325 tw_0 (hdd_of (by decide)) ⟨Nat.zero_le _, Nat.zero_le _⟩ rfl rfl (Nat.le_of_ble_eq_true rfl) dX8_power_13 ?_
    exact h_iret h dX8_power_16 rfl
noncomputable def f_X8_restore_L27  (k80 : gN → Option (Int32 × gN)) : Nat → Int32 → gN → Option (Int32 × gN)
  | 0, _, _ => none
  | n + 1, y1, ν =>
    if 8 ≤ y1 then
      k80  ν
    else
      if inb y1 8 = true then
        (f_X6_hasPerson (37 + 2 * y1.toNatClampNeg) ν).bind (fun r_4 =>
          if r_4.1 = 0 then
            f_X8_restore_L27 k80 n (y1 + 1) r_4.2
          else
            if inb y1 8 = true then
              (f_X4_isPerson 1 (r_4.2.1 (37 + 2 * y1.toNatClampNeg) 1) r_4.2).bind (fun r_7 =>
                if r_7.1 = 0 then
                  if inb y1 8 = true then
                    (f_X6_putPerson (37 + 2 * y1.toNatClampNeg) (-1) r_7.2).bind (fun r_10 =>
                      f_X8_restore_L27 k80 n (y1 + 1) r_10)
                  else none
                else
                  f_X8_restore_L27 k80 n (y1 + 1) r_7.2)
            else none)
      else none
noncomputable def f_X8_restore  (ν : gN) : Option (Int32 × gN) :=
  if (ν.1 0 9) = 0 then
    (f_X8_refuse 6 ν).bind (fun r_13 =>
      some (r_13.1, r_13.2))
  else
    (f_X4_takeFrom 1 15 ν).bind (fun r_1 =>
      f_X8_restore_L27  (fun ν_12 =>
        some (ν_12.1 1 6, ν_12)) FU 0 r_1)
theorem me_X8_restore : g_me yX8_restore cX8_restore 2 ((Option.some .int)) 0 := ⟨tw_897, tw_72, ⟨by decide +kernel, by decide +kernel, by decide +kernel⟩, by decide⟩
set_option maxRecDepth 20000 in
set_option maxHeartbeats 2000000 in
theorem m_X8_restore_L27 {X : gX} {ad : Nat → Nat}  {k80 : gN → Option (Int32 × gN)}  : ∀ (n : Nat) (y1 : Int32) (ν : gN) (r : Int32 × gN), f_X8_restore_L27 k80 n y1 ν = some r → (∀ (ν1 : gN), k80 ν1 = some r → h_go X ad RX8 "restore" cX8_restore 2 ((Option.some .int)) 2 (some (.int r.1), r.2) 80 [(0, .ref (ad 0))] [] ν1) → h_go X ad RX8 "restore" cX8_restore 2 ((Option.some .int)) 2 (some (.int r.1), r.2) 27 [(0, .ref (ad 0)), (1, .int y1)] [] ν := by
  intro n
  induction n with
  | zero => intro y1 ν r h hk80; rw [f_X8_restore_L27] at h; exact q_n h
  | succ n ih =>
    intro y1 ν r h hk80
    rw [f_X8_restore_L27] at h
    refine go_iload_n rfl 1 rfl dX8_restore_27 ?_
    refine go_bipush kz_bipush_8 dX8_restore_28 ?_
    refine go_icmp_ge (tgt := 80) dX8_restore_30 rfl (fun hc => ?_) (fun hc => ?_)
    · replace h := q_t h hc
      refine go_sub (l' := [(0, .ref (ad 0))]) [0] rfl ?_
      exact hk80  _ h
    · replace h := q_f h hc
      refine go_aload_n rfl 0 rfl dX8_restore_33 ?_
      refine h_getr 3 cl6 rfl (by decide) tw_282 22 rfl dX8_restore_34 ?_
      refine go_iload_n rfl 1 rfl dX8_restore_37 ?_
      obtain ⟨hg_3, h⟩ := q_g h
      refine h_aald hg_3 dX8_restore_38 ?_
      obtain ⟨r_4, h_5, h⟩ := q_b h
      refine h_callVi (st := []) [] (m_X6_hasPerson (isS_in hg_3) h_5) me_X6_hasPerson (g_recv cl4.1 (shS (isS_in hg_3))) tw_342 tw_343 tw_344 (hdd_of (by decide)) ⟨Nat.zero_le _, Nat.zero_le _⟩ rfl rfl (Nat.le_of_ble_eq_true rfl) dX8_restore_39 ?_
      refine go_if_eq (tgt := 74) dX8_restore_42 rfl (fun hc => ?_) (fun hc => ?_)
      · replace h := q_t h hc
        refine h_iinc (l' := [(1, .int (y1 + 1)), (0, .ref (ad 0))]) dX8_restore_74 1 rfl kz_iconst_1 (by decide) rfl ?_
        refine go_goto (tgt := 27) dX8_restore_77 rfl ?_
        refine go_sub (l' := [(0, .ref (ad 0)), (1, .int (y1 + 1))]) [1, 0] rfl ?_
        exact ih _ _ _ h hk80
      · replace h := q_f h hc
        refine go_aload_n rfl 0 rfl dX8_restore_45 ?_
        refine h_getr 0 cl6 rfl (by decide) tw_279 1 rfl dX8_restore_46 ?_
        refine go_aload_n rfl 0 rfl dX8_restore_49 ?_
        refine h_getr 3 cl6 rfl (by decide) tw_282 22 rfl dX8_restore_50 ?_
        refine go_iload_n rfl 1 rfl dX8_restore_53 ?_
        obtain ⟨hg_6, h⟩ := q_g h
        refine h_aald hg_6 dX8_restore_54 ?_
        refine h_getiN 1 cl4 (shS (isS_in hg_6)) (by decide) tw_268 rfl dX8_restore_55 ?_
        obtain ⟨r_7, h_8, h⟩ := q_b h
        refine h_callVi (st := []) [.int (r_4.2.1 (37 + 2 * y1.toNatClampNeg) 1)] (m_X4_isPerson isP_1 h_8) me_X4_isPerson (g_recv cl2.1 rfl) tw_386 tw_387 tw_388 (hdd_of (by decide)) ⟨Nat.zero_le _, Nat.zero_le _⟩ rfl rfl (Nat.le_of_ble_eq_true rfl) dX8_restore_58 ?_
        refine go_if_ne (tgt := 74) dX8_restore_61 rfl (fun hc => ?_) (fun hc => ?_)
        · replace h := q_f h hc
          refine h_iinc (l' := [(1, .int (y1 + 1)), (0, .ref (ad 0))]) dX8_restore_74 1 rfl kz_iconst_1 (by decide) rfl ?_
          refine go_goto (tgt := 27) dX8_restore_77 rfl ?_
          refine go_sub (l' := [(0, .ref (ad 0)), (1, .int (y1 + 1))]) [1, 0] rfl ?_
          exact ih _ _ _ h hk80
        · replace h := q_t h hc
          refine go_aload_n rfl 0 rfl dX8_restore_64 ?_
          refine h_getr 3 cl6 rfl (by decide) tw_282 22 rfl dX8_restore_65 ?_
          refine go_iload_n rfl 1 rfl dX8_restore_68 ?_
          obtain ⟨hg_9, h⟩ := q_g h
          refine h_aald hg_9 dX8_restore_69 ?_
          refine go_iconst kz_iconst_m1 dX8_restore_70 ?_
          obtain ⟨r_10, h_11, h⟩ := q_b h
          refine h_callVv (st := []) [.int (-1)] (m_X6_putPerson (isS_in hg_9) h_11) me_X6_putPerson (g_recv cl4.1 (shS (isS_in hg_9))) tw_390 tw_391 tw_392 (hdd_of (by decide)) ⟨Nat.zero_le _, Nat.zero_le _⟩ rfl rfl (Nat.le_of_ble_eq_true rfl) dX8_restore_71 ?_
          refine h_iinc (l' := [(1, .int (y1 + 1)), (0, .ref (ad 0))]) dX8_restore_74 1 rfl kz_iconst_1 (by decide) rfl ?_
          refine go_goto (tgt := 27) dX8_restore_77 rfl ?_
          refine go_sub (l' := [(0, .ref (ad 0)), (1, .int (y1 + 1))]) [1, 0] rfl ?_
          exact ih _ _ _ h hk80
set_option maxRecDepth 20000 in
set_option maxHeartbeats 2000000 in
theorem m_X8_restore {X : gX} {ad : Nat → Nat}  {ν : gN} {r : Int32 × gN}  (h : f_X8_restore  ν = some r) : h_ct X ad yX8_restore cX8_restore 2 ((Option.some .int)) 2 [.ref (ad 0)] ν (some (.int r.1), r.2) := by
  rw [f_X8_restore] at h
  refine h_ct_of (l := [(0, .ref (ad 0))]) (by decide) (Nat.le_of_ble_eq_true rfl) rfl ?_
  refine go_aload_n rfl 0 rfl dX8_restore_0 ?_
  refine h_geti 9 cl6 rfl (by decide) tw_288 rfl dX8_restore_1 ?_
  refine go_if_ne (tgt := 14) dX8_restore_4 rfl (fun hc => ?_) (fun hc => ?_)
  · replace h := q_f h hc
    refine go_aload_n rfl 0 rfl dX8_restore_14 ?_
    refine h_getr 0 cl6 rfl (by decide) tw_279 1 rfl dX8_restore_15 ?_
    refine go_aload_n rfl 0 rfl dX8_restore_18 ?_
    refine h_getr 2 cl6 rfl (by decide) tw_281 15 rfl dX8_restore_19 ?_
    obtain ⟨r_1, h_2, h⟩ := q_b h
    refine h_callVv (st := []) [.ref (ad 15)] (m_X4_takeFrom isP_1 isP_15 h_2) me_X4_takeFrom (g_recv cl2.1 rfl) tw_505 tw_506 tw_507 (hdd_of (by decide)) ⟨Nat.zero_le _, Nat.zero_le _⟩ rfl rfl (Nat.le_of_ble_eq_true rfl) dX8_restore_22 ?_
    refine go_iconst kz_iconst_0 dX8_restore_25 ?_
    refine go_istore_n (l' := [(1, .int 0), (0, .ref (ad 0))]) dX8_restore_26 rfl (by decide) rfl ?_
    refine go_sub (l' := [(0, .ref (ad 0)), (1, .int 0)]) [1, 0] rfl ?_
    refine m_X8_restore_L27  FU _ _ _ h (fun ν_12 h => ?_)
    refine go_aload_n rfl 0 rfl dX8_restore_80 ?_
    refine h_getr 0 cl6 rfl (by decide) tw_279 1 rfl dX8_restore_81 ?_
    refine h_getiN 6 cl2 rfl (by decide) tw_125 rfl dX8_restore_84 ?_
    exact h_iret h dX8_restore_87 rfl
  · replace h := q_t h hc
    refine go_aload_n rfl 0 rfl dX8_restore_7 ?_
    refine go_bipush kz_bipush_6 dX8_restore_8 ?_
    obtain ⟨r_13, h_14, h⟩ := q_b h
    refine h_callVi (st := []) [.int 6] (m_X8_refuse h_14) me_X8_refuse (g_recv cl6.1 rfl) tw_323 tw_325 tw_0 (hdd_of (by decide)) ⟨Nat.zero_le _, Nat.zero_le _⟩ rfl rfl (Nat.le_of_ble_eq_true rfl) dX8_restore_10 ?_
    exact h_iret h dX8_restore_13 rfl
noncomputable def f_X8_row (x1 : Int32) (x2 : Int32) (x3 : Int32) (ν : gN) : Option (Int32 × gN) :=
  (f_X8_isShelf x1 ν).bind (fun r_1 =>
    if r_1.1 = 0 then
      (f_X8_refuse 1 r_1.2).bind (fun r_14 =>
        some (r_14.1, r_14.2))
    else
      if 0 ≤ x3 then
        if x2 < 0 then
          (f_X8_refuse 6 r_1.2).bind (fun r_3 =>
            some (r_3.1, r_3.2))
        else
          if x2 < 4 then
            if x3 ≤ 160 then
              if inb x1 8 = true then
                (f_X6_putRow (37 + 2 * x1.toNatClampNeg) x2 x3 r_1.2).bind (fun r_6 =>
                  some (1, r_6))
              else none
            else
              (f_X8_refuse 7 r_1.2).bind (fun r_8 =>
                some (r_8.1, r_8.2))
          else
            (f_X8_refuse 6 r_1.2).bind (fun r_10 =>
              some (r_10.1, r_10.2))
      else
        (f_X8_refuse 4 r_1.2).bind (fun r_12 =>
          some (r_12.1, r_12.2)))
theorem me_X8_row : g_me yX8_row cX8_row 4 ((Option.some .int)) 3 := ⟨tw_316, tw_72, ⟨by decide +kernel, by decide +kernel, by decide +kernel⟩, by decide⟩
set_option maxRecDepth 20000 in
set_option maxHeartbeats 2000000 in
theorem m_X8_row {X : gX} {ad : Nat → Nat} {x1 : Int32} {x2 : Int32} {x3 : Int32} {ν : gN} {r : Int32 × gN}  (h : f_X8_row x1 x2 x3 ν = some r) : h_ct X ad yX8_row cX8_row 4 ((Option.some .int)) 3 [.ref (ad 0), .int x1, .int x2, .int x3] ν (some (.int r.1), r.2) := by
  rw [f_X8_row] at h
  refine h_ct_of (l := [(0, .ref (ad 0)), (1, .int x1), (2, .int x2), (3, .int x3)]) (by decide) (Nat.le_of_ble_eq_true rfl) rfl ?_
  refine go_iload_n rfl 1 rfl dX8_row_0 ?_
  obtain ⟨r_1, h_2, h⟩ := q_b h
  refine h_callSi (st := []) [.int x1] (m_X8_isShelf h_2) me_X8_isShelf tw_317 tw_318 (hdd_of (by decide)) ⟨Nat.zero_le _, Nat.zero_le _⟩ rfl rfl (Nat.le_of_ble_eq_true rfl) dX8_row_1 ?_
  refine go_if_ne (tgt := 13) dX8_row_4 rfl (fun hc => ?_) (fun hc => ?_)
  · replace h := q_f h hc
    refine go_iload_n rfl 3 rfl dX8_row_13 ?_
    refine go_if_ge (tgt := 23) dX8_row_14 rfl (fun hc => ?_) (fun hc => ?_)
    · replace h := q_t h hc
      refine go_iload_n rfl 2 rfl dX8_row_23 ?_
      refine go_if_lt (tgt := 32) dX8_row_24 rfl (fun hc => ?_) (fun hc => ?_)
      · replace h := q_t h hc
        refine go_aload_n rfl 0 rfl dX8_row_32 ?_
        refine go_bipush kz_bipush_6 dX8_row_33 ?_
        obtain ⟨r_3, h_4, h⟩ := q_b h
        refine h_callVi (st := []) [.int 6] (m_X8_refuse h_4) me_X8_refuse (g_recv cl6.1 rfl) tw_323 tw_325 tw_0 (hdd_of (by decide)) ⟨Nat.zero_le _, Nat.zero_le _⟩ rfl rfl (Nat.le_of_ble_eq_true rfl) dX8_row_35 ?_
        exact h_iret h dX8_row_38 rfl
      · replace h := q_f h hc
        refine go_iload_n rfl 2 rfl dX8_row_27 ?_
        refine go_iconst kz_iconst_4 dX8_row_28 ?_
        refine go_icmp_lt (tgt := 39) dX8_row_29 rfl (fun hc => ?_) (fun hc => ?_)
        · replace h := q_t h hc
          refine go_iload_n rfl 3 rfl dX8_row_39 ?_
          refine go_sipush kz_sipush_160 dX8_row_40 ?_
          refine go_icmp_le (tgt := 53) dX8_row_43 rfl (fun hc => ?_) (fun hc => ?_)
          · replace h := q_t h hc
            refine go_aload_n rfl 0 rfl dX8_row_53 ?_
            refine h_getr 3 cl6 rfl (by decide) tw_282 22 rfl dX8_row_54 ?_
            refine go_iload_n rfl 1 rfl dX8_row_57 ?_
            obtain ⟨hg_5, h⟩ := q_g h
            refine h_aald hg_5 dX8_row_58 ?_
            refine go_iload_n rfl 2 rfl dX8_row_59 ?_
            refine go_iload_n rfl 3 rfl dX8_row_60 ?_
            obtain ⟨r_6, h_7, h⟩ := q_b h
            refine h_callVv (st := []) [.int x2, .int x3] (m_X6_putRow (isS_in hg_5) h_7) me_X6_putRow (g_recv cl4.1 (shS (isS_in hg_5))) tw_327 tw_328 tw_329 (hdd_of (by decide)) ⟨Nat.zero_le _, Nat.zero_le _⟩ rfl rfl (Nat.le_of_ble_eq_true rfl) dX8_row_61 ?_
            refine go_iconst kz_iconst_1 dX8_row_64 ?_
            exact h_iret h dX8_row_65 rfl
          · replace h := q_f h hc
            refine go_aload_n rfl 0 rfl dX8_row_46 ?_
            refine go_bipush kz_bipush_7 dX8_row_47 ?_
            obtain ⟨r_8, h_9, h⟩ := q_b h
            refine h_callVi (st := []) [.int 7] (m_X8_refuse h_9) me_X8_refuse (g_recv cl6.1 rfl) tw_323 tw_325 tw_0 (hdd_of (by decide)) ⟨Nat.zero_le _, Nat.zero_le _⟩ rfl rfl (Nat.le_of_ble_eq_true rfl) dX8_row_49 ?_
            exact h_iret h dX8_row_52 rfl
        · replace h := q_f h hc
          refine go_aload_n rfl 0 rfl dX8_row_32 ?_
          refine go_bipush kz_bipush_6 dX8_row_33 ?_
          obtain ⟨r_10, h_11, h⟩ := q_b h
          refine h_callVi (st := []) [.int 6] (m_X8_refuse h_11) me_X8_refuse (g_recv cl6.1 rfl) tw_323 tw_325 tw_0 (hdd_of (by decide)) ⟨Nat.zero_le _, Nat.zero_le _⟩ rfl rfl (Nat.le_of_ble_eq_true rfl) dX8_row_35 ?_
          exact h_iret h dX8_row_38 rfl
    · replace h := q_f h hc
      refine go_aload_n rfl 0 rfl dX8_row_17 ?_
      refine go_iconst kz_iconst_4 dX8_row_18 ?_
      obtain ⟨r_12, h_13, h⟩ := q_b h
      refine h_callVi (st := []) [.int 4] (m_X8_refuse h_13) me_X8_refuse (g_recv cl6.1 rfl) tw_323 tw_325 tw_0 (hdd_of (by decide)) ⟨Nat.zero_le _, Nat.zero_le _⟩ rfl rfl (Nat.le_of_ble_eq_true rfl) dX8_row_19 ?_
      exact h_iret h dX8_row_22 rfl
  · replace h := q_t h hc
    refine go_aload_n rfl 0 rfl dX8_row_7 ?_
    refine go_iconst kz_iconst_1 dX8_row_8 ?_
    obtain ⟨r_14, h_15, h⟩ := q_b h
    refine h_callVi (st := []) [.int 1] (m_X8_refuse h_15) me_X8_refuse (g_recv cl6.1 rfl) tw_323 tw_325 tw_0 (hdd_of (by decide)) ⟨Nat.zero_le _, Nat.zero_le _⟩ rfl rfl (Nat.le_of_ble_eq_true rfl) dX8_row_9 ?_
    exact h_iret h dX8_row_12 rfl
noncomputable def f_X8_run (x1 : Int32) (ν : gN) : Option (Int32 × gN) :=
  (f_X8_isBetween x1 1 30 ν).bind (fun r_1 =>
    if r_1.1 = 0 then
      (f_X8_refuse 6 r_1.2).bind (fun r_7 =>
        some (r_7.1, r_7.2))
    else
      (f_X7_chart (r_1.2.2 1 7) r_1.2).bind (fun r_3 =>
        (f_X8_passYards x1 r_3).bind (fun r_5 =>
          some (r_5.1 1 10, r_5))))
theorem me_X8_run : g_me yX8_run cX8_run 2 ((Option.some .int)) 1 := ⟨tw_830, tw_72, ⟨by decide +kernel, by decide +kernel, by decide +kernel⟩, by decide⟩
set_option maxRecDepth 20000 in
set_option maxHeartbeats 2000000 in
theorem m_X8_run {X : gX} {ad : Nat → Nat} {x1 : Int32} {ν : gN} {r : Int32 × gN}  (h : f_X8_run x1 ν = some r) : h_ct X ad yX8_run cX8_run 2 ((Option.some .int)) 6 [.ref (ad 0), .int x1] ν (some (.int r.1), r.2) := by
  rw [f_X8_run] at h
  refine h_ct_of (l := [(0, .ref (ad 0)), (1, .int x1)]) (by decide) (Nat.le_of_ble_eq_true rfl) rfl ?_
  refine go_iload_n rfl 1 rfl dX8_run_0 ?_
  refine go_iconst kz_iconst_1 dX8_run_1 ?_
  refine go_bipush kz_bipush_30 dX8_run_2 ?_
  obtain ⟨r_1, h_2, h⟩ := q_b h
  refine h_callSi (st := []) [.int x1, .int 1, .int 30] (m_X8_isBetween h_2) me_X8_isBetween tw_320 tw_321 (hdd_of (by decide)) ⟨Nat.zero_le _, Nat.zero_le _⟩ rfl rfl (Nat.le_of_ble_eq_true rfl) dX8_run_4 ?_
  refine go_if_ne (tgt := 17) dX8_run_7 rfl (fun hc => ?_) (fun hc => ?_)
  · replace h := q_f h hc
    refine go_aload_n rfl 0 rfl dX8_run_17 ?_
    refine h_getr 5 cl6 rfl (by decide) tw_284 24 rfl dX8_run_18 ?_
    refine go_aload_n rfl 0 rfl dX8_run_21 ?_
    refine h_getr 0 cl6 rfl (by decide) tw_279 1 rfl dX8_run_22 ?_
    refine h_getlN 7 cl2 rfl (by decide) tw_127 rfl dX8_run_25 ?_
    obtain ⟨r_3, h_4, h⟩ := q_b h
    refine h_callVv (st := []) [.long (r_1.2.2 1 7)] (m_X7_chart h_4) me_X7_chart (g_recv cl5.1 rfl) tw_632 tw_633 tw_634 (hdd_of (by decide)) ⟨Nat.zero_le _, Nat.zero_le _⟩ rfl rfl (Nat.le_of_ble_eq_true rfl) dX8_run_28 ?_
    refine go_aload_n rfl 0 rfl dX8_run_31 ?_
    refine go_iload_n rfl 1 rfl dX8_run_32 ?_
    obtain ⟨r_5, h_6, h⟩ := q_b h
    refine h_callVv (st := []) [.int x1] (m_X8_passYards h_6) me_X8_passYards (g_recv cl6.1 rfl) tw_831 tw_833 tw_20 (hdd_of (by decide)) ⟨Nat.zero_le _, Nat.zero_le _⟩ rfl rfl (Nat.le_of_ble_eq_true rfl) dX8_run_33 ?_
    refine go_aload_n rfl 0 rfl dX8_run_36 ?_
    refine h_getr 0 cl6 rfl (by decide) tw_279 1 rfl dX8_run_37 ?_
    refine h_getiN 10 cl2 rfl (by decide) tw_138 rfl dX8_run_40 ?_
    exact h_iret h dX8_run_43 rfl
  · replace h := q_t h hc
    refine go_aload_n rfl 0 rfl dX8_run_10 ?_
    refine go_bipush kz_bipush_6 dX8_run_11 ?_
    obtain ⟨r_7, h_8, h⟩ := q_b h
    refine h_callVi (st := []) [.int 6] (m_X8_refuse h_8) me_X8_refuse (g_recv cl6.1 rfl) tw_323 tw_325 tw_0 (hdd_of (by decide)) ⟨Nat.zero_le _, Nat.zero_le _⟩ rfl rfl (Nat.le_of_ble_eq_true rfl) dX8_run_13 ?_
    exact h_iret h dX8_run_16 rfl
noncomputable def f_X8_sayingOf (x1 : Int32) (x2 : Int32) (ν : gN) : Option (Int32 × gN) :=
  if x2 = 0 then
    if inb x1 7 = true then
      some (ν.1 6 x1.toNatClampNeg, ν)
    else none
  else
  if x2 = 1 then
    (f_X4_smellOf 1 x1 ν).bind (fun r_4 =>
      some (r_4.1, r_4.2))
  else
  if x2 = 2 then
    if inb x1 7 = true then
      some (ν.1 5 x1.toNatClampNeg, ν)
    else none
  else
  if x2 = 3 then
    (f_X4_smellOf 1 x1 ν).bind (fun r_9 =>
      some (r_9.1, r_9.2))
  else
  if x2 = 4 then
    if inb x1 7 = true then
      some (ν.1 4 x1.toNatClampNeg, ν)
    else none
  else
  if x2 = 5 then
    if inb x1 7 = true then
      some (ν.1 5 x1.toNatClampNeg, ν)
    else none
  else
  (f_X4_smellOf 1 x1 ν).bind (fun r_15 =>
    some (r_15.1, r_15.2))
theorem me_X8_sayingOf : g_me yX8_sayingOf cX8_sayingOf 3 ((Option.some .int)) 2 := ⟨tw_418, tw_72, ⟨by decide +kernel, by decide +kernel, by decide +kernel⟩, by decide⟩
set_option maxRecDepth 20000 in
set_option maxHeartbeats 2000000 in
theorem m_X8_sayingOf {X : gX} {ad : Nat → Nat} {x1 : Int32} {x2 : Int32} {ν : gN} {r : Int32 × gN}  (h : f_X8_sayingOf x1 x2 ν = some r) : h_ct X ad yX8_sayingOf cX8_sayingOf 3 ((Option.some .int)) 3 [.ref (ad 0), .int x1, .int x2] ν (some (.int r.1), r.2) := by
  rw [f_X8_sayingOf] at h
  refine h_ct_of (l := [(0, .ref (ad 0)), (1, .int x1), (2, .int x2)]) (by decide) (Nat.le_of_ble_eq_true rfl) rfl ?_
  refine go_iload_n rfl 2 rfl dX8_sayingOf_0 ?_
  by_cases hk_1 : x2 = 0
  · replace h := q_t h hk_1
    refine h_tbT (tgt := 40) (off := 39) hk_1 dX8_sayingOf_1 (by decide) (by decide) rfl rfl ?_
    refine go_aload_n rfl 0 rfl dX8_sayingOf_40 ?_
    refine h_getr 0 cl6 rfl (by decide) tw_279 1 rfl dX8_sayingOf_41 ?_
    refine h_getrN 4 cl2 rfl (by decide) tw_119 6 rfl dX8_sayingOf_44 ?_
    refine go_iload_n rfl 1 rfl dX8_sayingOf_47 ?_
    obtain ⟨hg_2, h⟩ := q_g h
    refine h_iald 7 rfl hg_2 dX8_sayingOf_48 ?_
    exact h_iret h dX8_sayingOf_49 rfl
  replace h := q_f h hk_1
  by_cases hk_3 : x2 = 1
  · replace h := q_t h hk_3
    refine h_tbT (tgt := 70) (off := 69) hk_3 dX8_sayingOf_1 (by decide) (by decide) rfl rfl ?_
    refine go_aload_n rfl 0 rfl dX8_sayingOf_70 ?_
    refine h_getr 0 cl6 rfl (by decide) tw_279 1 rfl dX8_sayingOf_71 ?_
    refine go_iload_n rfl 1 rfl dX8_sayingOf_74 ?_
    obtain ⟨r_4, h_5, h⟩ := q_b h
    refine h_callVi (st := []) [.int x1] (m_X4_smellOf isP_1 h_5) me_X4_smellOf (g_recv cl2.1 rfl) tw_419 tw_420 tw_421 (hdd_of (by decide)) ⟨Nat.zero_le _, Nat.zero_le _⟩ rfl rfl (Nat.le_of_ble_eq_true rfl) dX8_sayingOf_75 ?_
    exact h_iret h dX8_sayingOf_78 rfl
  replace h := q_f h hk_3
  by_cases hk_6 : x2 = 2
  · replace h := q_t h hk_6
    refine h_tbT (tgt := 50) (off := 49) hk_6 dX8_sayingOf_1 (by decide) (by decide) rfl rfl ?_
    refine go_aload_n rfl 0 rfl dX8_sayingOf_50 ?_
    refine h_getr 0 cl6 rfl (by decide) tw_279 1 rfl dX8_sayingOf_51 ?_
    refine h_getrN 3 cl2 rfl (by decide) tw_116 5 rfl dX8_sayingOf_54 ?_
    refine go_iload_n rfl 1 rfl dX8_sayingOf_57 ?_
    obtain ⟨hg_7, h⟩ := q_g h
    refine h_iald 7 rfl hg_7 dX8_sayingOf_58 ?_
    exact h_iret h dX8_sayingOf_59 rfl
  replace h := q_f h hk_6
  by_cases hk_8 : x2 = 3
  · replace h := q_t h hk_8
    refine h_tbT (tgt := 70) (off := 69) hk_8 dX8_sayingOf_1 (by decide) (by decide) rfl rfl ?_
    refine go_aload_n rfl 0 rfl dX8_sayingOf_70 ?_
    refine h_getr 0 cl6 rfl (by decide) tw_279 1 rfl dX8_sayingOf_71 ?_
    refine go_iload_n rfl 1 rfl dX8_sayingOf_74 ?_
    obtain ⟨r_9, h_10, h⟩ := q_b h
    refine h_callVi (st := []) [.int x1] (m_X4_smellOf isP_1 h_10) me_X4_smellOf (g_recv cl2.1 rfl) tw_419 tw_420 tw_421 (hdd_of (by decide)) ⟨Nat.zero_le _, Nat.zero_le _⟩ rfl rfl (Nat.le_of_ble_eq_true rfl) dX8_sayingOf_75 ?_
    exact h_iret h dX8_sayingOf_78 rfl
  replace h := q_f h hk_8
  by_cases hk_11 : x2 = 4
  · replace h := q_t h hk_11
    refine h_tbT (tgt := 60) (off := 59) hk_11 dX8_sayingOf_1 (by decide) (by decide) rfl rfl ?_
    refine go_aload_n rfl 0 rfl dX8_sayingOf_60 ?_
    refine h_getr 0 cl6 rfl (by decide) tw_279 1 rfl dX8_sayingOf_61 ?_
    refine h_getrN 2 cl2 rfl (by decide) tw_114 4 rfl dX8_sayingOf_64 ?_
    refine go_iload_n rfl 1 rfl dX8_sayingOf_67 ?_
    obtain ⟨hg_12, h⟩ := q_g h
    refine h_iald 7 rfl hg_12 dX8_sayingOf_68 ?_
    exact h_iret h dX8_sayingOf_69 rfl
  replace h := q_f h hk_11
  by_cases hk_13 : x2 = 5
  · replace h := q_t h hk_13
    refine h_tbT (tgt := 50) (off := 49) hk_13 dX8_sayingOf_1 (by decide) (by decide) rfl rfl ?_
    refine go_aload_n rfl 0 rfl dX8_sayingOf_50 ?_
    refine h_getr 0 cl6 rfl (by decide) tw_279 1 rfl dX8_sayingOf_51 ?_
    refine h_getrN 3 cl2 rfl (by decide) tw_116 5 rfl dX8_sayingOf_54 ?_
    refine go_iload_n rfl 1 rfl dX8_sayingOf_57 ?_
    obtain ⟨hg_14, h⟩ := q_g h
    refine h_iald 7 rfl hg_14 dX8_sayingOf_58 ?_
    exact h_iret h dX8_sayingOf_59 rfl
  replace h := q_f h hk_13
  have hk_1 := h_nT hk_1 (a := 0) (by decide)
  have hk_3 := h_nT hk_3 (a := 1) (by decide)
  have hk_6 := h_nT hk_6 (a := 2) (by decide)
  have hk_8 := h_nT hk_8 (a := 3) (by decide)
  have hk_11 := h_nT hk_11 (a := 4) (by decide)
  have hk_13 := h_nT hk_13 (a := 5) (by decide)
  refine go_tableOut (tgt := 70) dX8_sayingOf_1 (by omega) rfl ?_
  refine go_aload_n rfl 0 rfl dX8_sayingOf_70 ?_
  refine h_getr 0 cl6 rfl (by decide) tw_279 1 rfl dX8_sayingOf_71 ?_
  refine go_iload_n rfl 1 rfl dX8_sayingOf_74 ?_
  obtain ⟨r_15, h_16, h⟩ := q_b h
  refine h_callVi (st := []) [.int x1] (m_X4_smellOf isP_1 h_16) me_X4_smellOf (g_recv cl2.1 rfl) tw_419 tw_420 tw_421 (hdd_of (by decide)) ⟨Nat.zero_le _, Nat.zero_le _⟩ rfl rfl (Nat.le_of_ble_eq_true rfl) dX8_sayingOf_75 ?_
  exact h_iret h dX8_sayingOf_78 rfl
noncomputable def f_X8_says (x1 : Int32) (x2 : Int32) (ν : gN) : Option (Int32 × gN) :=
  (f_X8_isShelf x1 ν).bind (fun r_1 =>
    if r_1.1 = 0 then
      (f_X8_refuse 1 r_1.2).bind (fun r_3 =>
        some (r_3.1, r_3.2))
    else
      (f_X3_isKind x2 r_1.2).bind (fun r_5 =>
        if r_5.1 = 0 then
          (f_X8_refuse 1 r_5.2).bind (fun r_27 =>
            some (r_27.1, r_27.2))
        else
          if inb x1 8 = true then
            (f_X6_hasRow (37 + 2 * x1.toNatClampNeg) r_5.2).bind (fun r_8 =>
              if r_8.1 = 0 then
                (f_X6_hasPerson (37 + 2 * x1.toNatClampNeg) r_8.2).bind (fun r_10 =>
                  if r_10.1 = 0 then
                    (f_X8_refuse 3 r_10.2).bind (fun r_12 =>
                      some (r_12.1, r_12.2))
                  else
                    (f_X4_isPerson 1 (r_10.2.1 (37 + 2 * x1.toNatClampNeg) 1) r_10.2).bind (fun r_14 =>
                      if r_14.1 = 0 then
                        (f_X8_refuse 3 r_14.2).bind (fun r_23 =>
                          some (r_23.1, r_23.2))
                      else
                        if inb (r_14.2.1 (37 + 2 * x1.toNatClampNeg) 1) 7 = true then
                          (f_X3_isUnder (r_14.2.1 2 (r_14.2.1 (37 + 2 * x1.toNatClampNeg) 1).toNatClampNeg) x2 r_14.2).bind (fun r_17 =>
                            if r_17.1 = 0 then
                              (f_X8_refuse 2 r_17.2).bind (fun r_21 =>
                                some (r_21.1, r_21.2))
                            else
                              (f_X8_sayingOf (r_17.2.1 (37 + 2 * x1.toNatClampNeg) 1) x2 r_17.2).bind (fun r_19 =>
                                some (r_19.1, r_19.2)))
                        else none))
              else
                (f_X8_refuse 2 r_8.2).bind (fun r_25 =>
                  some (r_25.1, r_25.2)))
          else none))
theorem me_X8_says : g_me yX8_says cX8_says 4 ((Option.some .int)) 2 := ⟨tw_401, tw_72, ⟨by decide +kernel, by decide +kernel, by decide +kernel⟩, by decide⟩
set_option maxRecDepth 20000 in
set_option maxHeartbeats 2000000 in
theorem m_X8_says {X : gX} {ad : Nat → Nat} {x1 : Int32} {x2 : Int32} {ν : gN} {r : Int32 × gN}  (h : f_X8_says x1 x2 ν = some r) : h_ct X ad yX8_says cX8_says 4 ((Option.some .int)) 5 [.ref (ad 0), .int x1, .int x2] ν (some (.int r.1), r.2) := by
  rw [f_X8_says] at h
  refine h_ct_of (l := [(0, .ref (ad 0)), (1, .int x1), (2, .int x2)]) (by decide) (Nat.le_of_ble_eq_true rfl) rfl ?_
  refine go_iload_n rfl 1 rfl dX8_says_0 ?_
  obtain ⟨r_1, h_2, h⟩ := q_b h
  refine h_callSi (st := []) [.int x1] (m_X8_isShelf h_2) me_X8_isShelf tw_317 tw_318 (hdd_of (by decide)) ⟨Nat.zero_le _, Nat.zero_le _⟩ rfl rfl (Nat.le_of_ble_eq_true rfl) dX8_says_1 ?_
  refine go_if_eq (tgt := 14) dX8_says_4 rfl (fun hc => ?_) (fun hc => ?_)
  · replace h := q_t h hc
    refine go_aload_n rfl 0 rfl dX8_says_14 ?_
    refine go_iconst kz_iconst_1 dX8_says_15 ?_
    obtain ⟨r_3, h_4, h⟩ := q_b h
    refine h_callVi (st := []) [.int 1] (m_X8_refuse h_4) me_X8_refuse (g_recv cl6.1 rfl) tw_323 tw_325 tw_0 (hdd_of (by decide)) ⟨Nat.zero_le _, Nat.zero_le _⟩ rfl rfl (Nat.le_of_ble_eq_true rfl) dX8_says_16 ?_
    exact h_iret h dX8_says_19 rfl
  · replace h := q_f h hc
    refine go_iload_n rfl 2 rfl dX8_says_7 ?_
    obtain ⟨r_5, h_6, h⟩ := q_b h
    refine h_callSi (st := []) [.int x2] (m_X3_isKind h_6) me_X3_isKind tw_402 tw_403 (hdd_of (by decide)) ⟨Nat.zero_le _, Nat.zero_le _⟩ rfl rfl (Nat.le_of_ble_eq_true rfl) dX8_says_8 ?_
    refine go_if_ne (tgt := 20) dX8_says_11 rfl (fun hc => ?_) (fun hc => ?_)
    · replace h := q_f h hc
      refine go_aload_n rfl 0 rfl dX8_says_20 ?_
      refine h_getr 3 cl6 rfl (by decide) tw_282 22 rfl dX8_says_21 ?_
      refine go_iload_n rfl 1 rfl dX8_says_24 ?_
      obtain ⟨hg_7, h⟩ := q_g h
      refine h_aald hg_7 dX8_says_25 ?_
      refine go_astore_n (l' := [(3, .ref (ad (37 + 2 * x1.toNatClampNeg))), (0, .ref (ad 0)), (1, .int x1), (2, .int x2)]) dX8_says_26 rfl (by decide) rfl ?_
      refine go_aload_n rfl 0 rfl dX8_says_27 ?_
      obtain ⟨r_8, h_9, h⟩ := q_b h
      refine h_callVi (st := []) [] (m_X6_hasRow (isS_in hg_7) h_9) me_X6_hasRow (g_recv cl4.1 (shS (isS_in hg_7))) tw_346 tw_347 tw_348 (hdd_of (by decide)) ⟨Nat.zero_le _, Nat.zero_le _⟩ rfl rfl (Nat.le_of_ble_eq_true rfl) dX8_says_28 ?_
      refine go_if_eq (tgt := 40) dX8_says_31 rfl (fun hc => ?_) (fun hc => ?_)
      · replace h := q_t h hc
        refine go_aload_n rfl 0 rfl dX8_says_40 ?_
        obtain ⟨r_10, h_11, h⟩ := q_b h
        refine h_callVi (st := []) [] (m_X6_hasPerson (isS_in hg_7) h_11) me_X6_hasPerson (g_recv cl4.1 (shS (isS_in hg_7))) tw_342 tw_343 tw_344 (hdd_of (by decide)) ⟨Nat.zero_le _, Nat.zero_le _⟩ rfl rfl (Nat.le_of_ble_eq_true rfl) dX8_says_41 ?_
        refine go_if_eq (tgt := 61) dX8_says_44 rfl (fun hc => ?_) (fun hc => ?_)
        · replace h := q_t h hc
          refine go_aload_n rfl 1 rfl dX8_says_61 ?_
          refine go_iconst kz_iconst_3 dX8_says_62 ?_
          obtain ⟨r_12, h_13, h⟩ := q_b h
          refine h_callVi (st := []) [.int 3] (m_X8_refuse h_13) me_X8_refuse (g_recv cl6.1 rfl) tw_323 tw_325 tw_0 (hdd_of (by decide)) ⟨Nat.zero_le _, Nat.zero_le _⟩ rfl rfl (Nat.le_of_ble_eq_true rfl) dX8_says_63 ?_
          exact h_iret h dX8_says_66 rfl
        · replace h := q_f h hc
          refine go_aload_n rfl 1 rfl dX8_says_47 ?_
          refine h_getr 0 cl6 rfl (by decide) tw_279 1 rfl dX8_says_48 ?_
          refine go_aload_n rfl 0 rfl dX8_says_51 ?_
          refine h_getiN 1 cl4 (shS (isS_in hg_7)) (by decide) tw_268 rfl dX8_says_52 ?_
          obtain ⟨r_14, h_15, h⟩ := q_b h
          refine h_callVi (st := []) [.int (r_10.2.1 (37 + 2 * x1.toNatClampNeg) 1)] (m_X4_isPerson isP_1 h_15) me_X4_isPerson (g_recv cl2.1 rfl) tw_386 tw_387 tw_388 (hdd_of (by decide)) ⟨Nat.zero_le _, Nat.zero_le _⟩ rfl rfl (Nat.le_of_ble_eq_true rfl) dX8_says_55 ?_
          refine go_if_ne (tgt := 67) dX8_says_58 rfl (fun hc => ?_) (fun hc => ?_)
          · replace h := q_f h hc
            refine go_aload_n rfl 1 rfl dX8_says_67 ?_
            refine h_getr 0 cl6 rfl (by decide) tw_279 1 rfl dX8_says_68 ?_
            refine h_getrN 0 cl2 rfl (by decide) tw_107 2 rfl dX8_says_71 ?_
            refine go_aload_n rfl 0 rfl dX8_says_74 ?_
            refine h_getiN 1 cl4 (shS (isS_in hg_7)) (by decide) tw_268 rfl dX8_says_75 ?_
            obtain ⟨hg_16, h⟩ := q_g h
            refine h_iald 7 rfl hg_16 dX8_says_78 ?_
            refine go_iload_n rfl 3 rfl dX8_says_79 ?_
            obtain ⟨r_17, h_18, h⟩ := q_b h
            refine h_callSi (st := []) [.int (r_14.2.1 2 (r_14.2.1 (37 + 2 * x1.toNatClampNeg) 1).toNatClampNeg), .int x2] (m_X3_isUnder h_18) me_X3_isUnder tw_406 tw_407 (hdd_of (by decide)) ⟨Nat.zero_le _, Nat.zero_le _⟩ rfl rfl (Nat.le_of_ble_eq_true rfl) dX8_says_80 ?_
            refine go_if_ne (tgt := 92) dX8_says_83 rfl (fun hc => ?_) (fun hc => ?_)
            · replace h := q_f h hc
              refine go_aload_n rfl 1 rfl dX8_says_92 ?_
              refine go_aload_n rfl 0 rfl dX8_says_93 ?_
              refine h_getiN 1 cl4 (shS (isS_in hg_7)) (by decide) tw_268 rfl dX8_says_94 ?_
              refine go_iload_n rfl 3 rfl dX8_says_97 ?_
              obtain ⟨r_19, h_20, h⟩ := q_b h
              refine h_callVi (st := []) [.int (r_17.2.1 (37 + 2 * x1.toNatClampNeg) 1), .int x2] (m_X8_sayingOf h_20) me_X8_sayingOf (g_recv cl6.1 rfl) tw_415 tw_417 tw_2 (hdd_of (by decide)) ⟨Nat.zero_le _, Nat.zero_le _⟩ rfl rfl (Nat.le_of_ble_eq_true rfl) dX8_says_98 ?_
              exact h_iret h dX8_says_101 rfl
            · replace h := q_t h hc
              refine go_aload_n rfl 1 rfl dX8_says_86 ?_
              refine go_iconst kz_iconst_2 dX8_says_87 ?_
              obtain ⟨r_21, h_22, h⟩ := q_b h
              refine h_callVi (st := []) [.int 2] (m_X8_refuse h_22) me_X8_refuse (g_recv cl6.1 rfl) tw_323 tw_325 tw_0 (hdd_of (by decide)) ⟨Nat.zero_le _, Nat.zero_le _⟩ rfl rfl (Nat.le_of_ble_eq_true rfl) dX8_says_88 ?_
              exact h_iret h dX8_says_91 rfl
          · replace h := q_t h hc
            refine go_aload_n rfl 1 rfl dX8_says_61 ?_
            refine go_iconst kz_iconst_3 dX8_says_62 ?_
            obtain ⟨r_23, h_24, h⟩ := q_b h
            refine h_callVi (st := []) [.int 3] (m_X8_refuse h_24) me_X8_refuse (g_recv cl6.1 rfl) tw_323 tw_325 tw_0 (hdd_of (by decide)) ⟨Nat.zero_le _, Nat.zero_le _⟩ rfl rfl (Nat.le_of_ble_eq_true rfl) dX8_says_63 ?_
            exact h_iret h dX8_says_66 rfl
      · replace h := q_f h hc
        refine go_aload_n rfl 1 rfl dX8_says_34 ?_
        refine go_iconst kz_iconst_2 dX8_says_35 ?_
        obtain ⟨r_25, h_26, h⟩ := q_b h
        refine h_callVi (st := []) [.int 2] (m_X8_refuse h_26) me_X8_refuse (g_recv cl6.1 rfl) tw_323 tw_325 tw_0 (hdd_of (by decide)) ⟨Nat.zero_le _, Nat.zero_le _⟩ rfl rfl (Nat.le_of_ble_eq_true rfl) dX8_says_36 ?_
        exact h_iret h dX8_says_39 rfl
    · replace h := q_t h hc
      refine go_aload_n rfl 0 rfl dX8_says_14 ?_
      refine go_iconst kz_iconst_1 dX8_says_15 ?_
      obtain ⟨r_27, h_28, h⟩ := q_b h
      refine h_callVi (st := []) [.int 1] (m_X8_refuse h_28) me_X8_refuse (g_recv cl6.1 rfl) tw_323 tw_325 tw_0 (hdd_of (by decide)) ⟨Nat.zero_le _, Nat.zero_le _⟩ rfl rfl (Nat.le_of_ble_eq_true rfl) dX8_says_16 ?_
      exact h_iret h dX8_says_19 rfl
noncomputable def f_X8_seed (x1 : Int32) (ν : gN) : Option (Int32 × gN) :=
  qL (nWI ν 1 12 x1) (fun ν_1 =>
    some (ν.1 1 12, ν_1))
theorem me_X8_seed : g_me yX8_seed cX8_seed 3 ((Option.some .int)) 1 := ⟨tw_855, tw_72, ⟨by decide +kernel, by decide +kernel, by decide +kernel⟩, by decide⟩
set_option maxRecDepth 20000 in
set_option maxHeartbeats 2000000 in
theorem m_X8_seed {X : gX} {ad : Nat → Nat} {x1 : Int32} {ν : gN} {r : Int32 × gN}  (h : f_X8_seed x1 ν = some r) : h_ct X ad yX8_seed cX8_seed 3 ((Option.some .int)) 1 [.ref (ad 0), .int x1] ν (some (.int r.1), r.2) := by
  rw [f_X8_seed] at h
  refine h_ct_of (l := [(0, .ref (ad 0)), (1, .int x1)]) (by decide) (Nat.le_of_ble_eq_true rfl) rfl ?_
  refine go_aload_n rfl 0 rfl dX8_seed_0 ?_
  refine h_getr 0 cl6 rfl (by decide) tw_279 1 rfl dX8_seed_1 ?_
  refine h_getiN 12 cl2 rfl (by decide) tw_142 rfl dX8_seed_4 ?_
  refine go_istore_n (l' := [(2, .int (ν.1 1 12)), (0, .ref (ad 0)), (1, .int x1)]) dX8_seed_7 rfl (by decide) rfl ?_
  refine go_aload_n rfl 1 rfl dX8_seed_8 ?_
  refine h_getr 0 cl6 rfl (by decide) tw_279 1 rfl dX8_seed_9 ?_
  refine go_iload_n rfl 2 rfl dX8_seed_12 ?_
  obtain ⟨ν_1, e_2, h⟩ := q_l h
  refine h_putiN 12 cl2 rfl (by decide) tw_142 rfl rfl e_2 dX8_seed_13 ?_
  refine go_iload_n rfl 0 rfl dX8_seed_16 ?_
  exact h_iret h dX8_seed_17 rfl
noncomputable def f_X8_set (x1 : Int32) (x2 : Int32) (x3 : Int64) (ν : gN) : Option (Int32 × gN) :=
  (f_X8_whyNoRow x1 ν).bind (fun r_1 =>
    if r_1.1 = 0 then
      if inb x1 8 = true then
        (f_X6_hasElement (37 + 2 * x1.toNatClampNeg) x2 r_1.2).bind (fun r_4 =>
          if r_4.1 = 0 then
            (f_X8_refuse 5 r_4.2).bind (fun r_9 =>
              some (r_9.1, r_9.2))
          else
            if inb x1 8 = true then
              (f_X6_putElement (37 + 2 * x1.toNatClampNeg) x2 x3 r_4.2).bind (fun r_7 =>
                some (1, r_7))
            else none)
      else none
    else
      (f_X8_refuse r_1.1 r_1.2).bind (fun r_11 =>
        some (r_11.1, r_11.2)))
theorem me_X8_set : g_me yX8_set cX8_set 6 ((Option.some .int)) 3 := ⟨tw_337, tw_72, ⟨by decide +kernel, by decide +kernel, by decide +kernel⟩, by decide⟩
set_option maxRecDepth 20000 in
set_option maxHeartbeats 2000000 in
theorem m_X8_set {X : gX} {ad : Nat → Nat} {x1 : Int32} {x2 : Int32} {x3 : Int64} {ν : gN} {r : Int32 × gN}  (h : f_X8_set x1 x2 x3 ν = some r) : h_ct X ad yX8_set cX8_set 6 ((Option.some .int)) 4 [.ref (ad 0), .int x1, .int x2, .long x3] ν (some (.int r.1), r.2) := by
  rw [f_X8_set] at h
  refine h_ct_of (l := [(0, .ref (ad 0)), (1, .int x1), (2, .int x2), (3, .long x3)]) (by decide) (Nat.le_of_ble_eq_true rfl) rfl ?_
  refine go_aload_n rfl 0 rfl dX8_set_0 ?_
  refine go_iload_n rfl 1 rfl dX8_set_1 ?_
  obtain ⟨r_1, h_2, h⟩ := q_b h
  refine h_callVi (st := []) [.int x1] (m_X8_whyNoRow h_2) me_X8_whyNoRow (g_recv cl6.1 rfl) tw_338 tw_340 tw_1 (hdd_of (by decide)) ⟨Nat.zero_le _, Nat.zero_le _⟩ rfl rfl (Nat.le_of_ble_eq_true rfl) dX8_set_2 ?_
  refine go_istore (l' := [(5, .int r_1.1), (0, .ref (ad 0)), (1, .int x1), (2, .int x2), (3, .long x3)]) dX8_set_5 (by decide) rfl ?_
  refine go_iload 0 rfl dX8_set_7 ?_
  refine go_if_eq (tgt := 19) dX8_set_9 rfl (fun hc => ?_) (fun hc => ?_)
  · replace h := q_t h hc
    refine go_aload_n rfl 1 rfl dX8_set_19 ?_
    refine h_getr 3 cl6 rfl (by decide) tw_282 22 rfl dX8_set_20 ?_
    refine go_iload_n rfl 2 rfl dX8_set_23 ?_
    obtain ⟨hg_3, h⟩ := q_g h
    refine h_aald hg_3 dX8_set_24 ?_
    refine go_iload_n rfl 3 rfl dX8_set_25 ?_
    obtain ⟨r_4, h_5, h⟩ := q_b h
    refine h_callVi (st := []) [.int x2] (m_X6_hasElement (isS_in hg_3) h_5) me_X6_hasElement (g_recv cl4.1 (shS (isS_in hg_3))) tw_350 tw_351 tw_352 (hdd_of (by decide)) ⟨Nat.zero_le _, Nat.zero_le _⟩ rfl rfl (Nat.le_of_ble_eq_true rfl) dX8_set_26 ?_
    refine go_if_ne (tgt := 38) dX8_set_29 rfl (fun hc => ?_) (fun hc => ?_)
    · replace h := q_f h hc
      refine go_aload_n rfl 1 rfl dX8_set_38 ?_
      refine h_getr 3 cl6 rfl (by decide) tw_282 22 rfl dX8_set_39 ?_
      refine go_iload_n rfl 2 rfl dX8_set_42 ?_
      obtain ⟨hg_6, h⟩ := q_g h
      refine h_aald hg_6 dX8_set_43 ?_
      refine go_iload_n rfl 3 rfl dX8_set_44 ?_
      refine go_lload_n rfl 4 rfl dX8_set_45 ?_
      obtain ⟨r_7, h_8, h⟩ := q_b h
      refine h_callVv (st := []) [.int x2, .long x3] (m_X6_putElement (isS_in hg_6) h_8) me_X6_putElement (g_recv cl4.1 (shS (isS_in hg_6))) tw_355 tw_356 tw_357 (hdd_of (by decide)) ⟨Nat.zero_le _, Nat.zero_le _⟩ rfl rfl (Nat.le_of_ble_eq_true rfl) dX8_set_46 ?_
      refine go_iconst kz_iconst_1 dX8_set_49 ?_
      exact h_iret h dX8_set_50 rfl
    · replace h := q_t h hc
      refine go_aload_n rfl 1 rfl dX8_set_32 ?_
      refine go_iconst kz_iconst_5 dX8_set_33 ?_
      obtain ⟨r_9, h_10, h⟩ := q_b h
      refine h_callVi (st := []) [.int 5] (m_X8_refuse h_10) me_X8_refuse (g_recv cl6.1 rfl) tw_323 tw_325 tw_0 (hdd_of (by decide)) ⟨Nat.zero_le _, Nat.zero_le _⟩ rfl rfl (Nat.le_of_ble_eq_true rfl) dX8_set_34 ?_
      exact h_iret h dX8_set_37 rfl
  · replace h := q_f h hc
    refine go_aload_n rfl 1 rfl dX8_set_12 ?_
    refine go_iload 0 rfl dX8_set_13 ?_
    obtain ⟨r_11, h_12, h⟩ := q_b h
    refine h_callVi (st := []) [.int r_1.1] (m_X8_refuse h_12) me_X8_refuse (g_recv cl6.1 rfl) tw_323 tw_325 tw_0 (hdd_of (by decide)) ⟨Nat.zero_le _, Nat.zero_le _⟩ rfl rfl (Nat.le_of_ble_eq_true rfl) dX8_set_15 ?_
    exact h_iret h dX8_set_18 rfl
noncomputable def f_X8_show (x1 : Int32) (x2 : Int32) (ν : gN) : Option (Int32 × gN) :=
  (f_X8_isShelf x1 ν).bind (fun r_1 =>
    if r_1.1 = 0 then
      (f_X8_refuse 1 r_1.2).bind (fun r_3 =>
        some (r_3.1, r_3.2))
    else
      if x2 = (-1) then
        if inb x1 8 = true then
          (f_X6_putPerson (37 + 2 * x1.toNatClampNeg) x2 r_1.2).bind (fun r_6 =>
            if x2 = (-1) then
              some (0, r_6)
            else
              some (1, r_6))
        else none
      else
        (f_X4_isPerson 1 x2 r_1.2).bind (fun r_8 =>
          if r_8.1 = 0 then
            (f_X8_refuse 1 r_8.2).bind (fun r_13 =>
              some (r_13.1, r_13.2))
          else
            if inb x1 8 = true then
              (f_X6_putPerson (37 + 2 * x1.toNatClampNeg) x2 r_8.2).bind (fun r_11 =>
                if x2 = (-1) then
                  some (0, r_11)
                else
                  some (1, r_11))
            else none))
theorem me_X8_show : g_me yX8_show cX8_show 3 ((Option.some .int)) 2 := ⟨tw_385, tw_72, ⟨by decide +kernel, by decide +kernel, by decide +kernel⟩, by decide⟩
set_option maxRecDepth 20000 in
set_option maxHeartbeats 2000000 in
theorem m_X8_show {X : gX} {ad : Nat → Nat} {x1 : Int32} {x2 : Int32} {ν : gN} {r : Int32 × gN}  (h : f_X8_show x1 x2 ν = some r) : h_ct X ad yX8_show cX8_show 3 ((Option.some .int)) 3 [.ref (ad 0), .int x1, .int x2] ν (some (.int r.1), r.2) := by
  rw [f_X8_show] at h
  refine h_ct_of (l := [(0, .ref (ad 0)), (1, .int x1), (2, .int x2)]) (by decide) (Nat.le_of_ble_eq_true rfl) rfl ?_
  refine go_iload_n rfl 1 rfl dX8_show_0 ?_
  obtain ⟨r_1, h_2, h⟩ := q_b h
  refine h_callSi (st := []) [.int x1] (m_X8_isShelf h_2) me_X8_isShelf tw_317 tw_318 (hdd_of (by decide)) ⟨Nat.zero_le _, Nat.zero_le _⟩ rfl rfl (Nat.le_of_ble_eq_true rfl) dX8_show_1 ?_
  refine go_if_eq (tgt := 23) dX8_show_4 rfl (fun hc => ?_) (fun hc => ?_)
  · replace h := q_t h hc
    refine go_aload_n rfl 0 rfl dX8_show_23 ?_
    refine go_iconst kz_iconst_1 dX8_show_24 ?_
    obtain ⟨r_3, h_4, h⟩ := q_b h
    refine h_callVi (st := []) [.int 1] (m_X8_refuse h_4) me_X8_refuse (g_recv cl6.1 rfl) tw_323 tw_325 tw_0 (hdd_of (by decide)) ⟨Nat.zero_le _, Nat.zero_le _⟩ rfl rfl (Nat.le_of_ble_eq_true rfl) dX8_show_25 ?_
    exact h_iret h dX8_show_28 rfl
  · replace h := q_f h hc
    refine go_iload_n rfl 2 rfl dX8_show_7 ?_
    refine go_iconst kz_iconst_m1 dX8_show_8 ?_
    refine go_icmp_eq (tgt := 29) dX8_show_9 rfl (fun hc => ?_) (fun hc => ?_)
    · replace h := q_t h hc
      refine go_aload_n rfl 0 rfl dX8_show_29 ?_
      refine h_getr 3 cl6 rfl (by decide) tw_282 22 rfl dX8_show_30 ?_
      refine go_iload_n rfl 1 rfl dX8_show_33 ?_
      obtain ⟨hg_5, h⟩ := q_g h
      refine h_aald hg_5 dX8_show_34 ?_
      refine go_iload_n rfl 2 rfl dX8_show_35 ?_
      obtain ⟨r_6, h_7, h⟩ := q_b h
      refine h_callVv (st := []) [.int x2] (m_X6_putPerson (isS_in hg_5) h_7) me_X6_putPerson (g_recv cl4.1 (shS (isS_in hg_5))) tw_390 tw_391 tw_392 (hdd_of (by decide)) ⟨Nat.zero_le _, Nat.zero_le _⟩ rfl rfl (Nat.le_of_ble_eq_true rfl) dX8_show_36 ?_
      refine go_iload_n rfl 2 rfl dX8_show_39 ?_
      refine go_iconst kz_iconst_m1 dX8_show_40 ?_
      refine go_icmp_ne (tgt := 48) dX8_show_41 rfl (fun hc => ?_) (fun hc => ?_)
      · replace h := q_f h hc
        refine go_iconst kz_iconst_1 dX8_show_48 ?_
        exact h_iret h dX8_show_49 rfl
      · replace h := q_t h hc
        refine go_iconst kz_iconst_0 dX8_show_44 ?_
        refine go_goto (tgt := 49) dX8_show_45 rfl ?_
        exact h_iret h dX8_show_49 rfl
    · replace h := q_f h hc
      refine go_aload_n rfl 0 rfl dX8_show_12 ?_
      refine h_getr 0 cl6 rfl (by decide) tw_279 1 rfl dX8_show_13 ?_
      refine go_iload_n rfl 2 rfl dX8_show_16 ?_
      obtain ⟨r_8, h_9, h⟩ := q_b h
      refine h_callVi (st := []) [.int x2] (m_X4_isPerson isP_1 h_9) me_X4_isPerson (g_recv cl2.1 rfl) tw_386 tw_387 tw_388 (hdd_of (by decide)) ⟨Nat.zero_le _, Nat.zero_le _⟩ rfl rfl (Nat.le_of_ble_eq_true rfl) dX8_show_17 ?_
      refine go_if_ne (tgt := 29) dX8_show_20 rfl (fun hc => ?_) (fun hc => ?_)
      · replace h := q_f h hc
        refine go_aload_n rfl 0 rfl dX8_show_29 ?_
        refine h_getr 3 cl6 rfl (by decide) tw_282 22 rfl dX8_show_30 ?_
        refine go_iload_n rfl 1 rfl dX8_show_33 ?_
        obtain ⟨hg_10, h⟩ := q_g h
        refine h_aald hg_10 dX8_show_34 ?_
        refine go_iload_n rfl 2 rfl dX8_show_35 ?_
        obtain ⟨r_11, h_12, h⟩ := q_b h
        refine h_callVv (st := []) [.int x2] (m_X6_putPerson (isS_in hg_10) h_12) me_X6_putPerson (g_recv cl4.1 (shS (isS_in hg_10))) tw_390 tw_391 tw_392 (hdd_of (by decide)) ⟨Nat.zero_le _, Nat.zero_le _⟩ rfl rfl (Nat.le_of_ble_eq_true rfl) dX8_show_36 ?_
        refine go_iload_n rfl 2 rfl dX8_show_39 ?_
        refine go_iconst kz_iconst_m1 dX8_show_40 ?_
        refine go_icmp_ne (tgt := 48) dX8_show_41 rfl (fun hc => ?_) (fun hc => ?_)
        · replace h := q_f h hc
          refine go_iconst kz_iconst_1 dX8_show_48 ?_
          exact h_iret h dX8_show_49 rfl
        · replace h := q_t h hc
          refine go_iconst kz_iconst_0 dX8_show_44 ?_
          refine go_goto (tgt := 49) dX8_show_45 rfl ?_
          exact h_iret h dX8_show_49 rfl
      · replace h := q_t h hc
        refine go_aload_n rfl 0 rfl dX8_show_23 ?_
        refine go_iconst kz_iconst_1 dX8_show_24 ?_
        obtain ⟨r_13, h_14, h⟩ := q_b h
        refine h_callVi (st := []) [.int 1] (m_X8_refuse h_14) me_X8_refuse (g_recv cl6.1 rfl) tw_323 tw_325 tw_0 (hdd_of (by decide)) ⟨Nat.zero_le _, Nat.zero_le _⟩ rfl rfl (Nat.le_of_ble_eq_true rfl) dX8_show_25 ?_
        exact h_iret h dX8_show_28 rfl
noncomputable def f_X8_spared_L33 (y1 : Int32) (y2 : Int32) (k129 : gN → Option (Int32 × gN)) : Nat → Int32 → gN → Option (Int32 × gN)
  | 0, _, _ => none
  | n + 1, y3, ν =>
    if 49 ≤ y3 then
      k129  ν
    else
      (f_X4_isFenced 1 y3 ν).bind (fun r_5 =>
        if r_5.1 = 0 then
          (f_X4_mayBeFenced 1 y3 r_5.2).bind (fun r_7 =>
            if r_7.1 = 0 then
              f_X8_spared_L33 y1 y2 k129 n (y3 + 1) r_7.2
            else
              (f_X7_chart ((r_7.2.2 1 7) ||| (j_lshl 1 y3)) r_7.2).bind (fun r_9 =>
                (f_X2_look 1 y2 r_9).bind (fun r_11 =>
                  (f_X2_elect 1 0 r_11).bind (fun r_13 =>
                    (f_X8_isIn r_13.1 y1 r_13.2).bind (fun r_15 =>
                      if r_15.1 = 0 then
                        some (y3, r_15.2)
                      else
                        f_X8_spared_L33 y1 y2 k129 n (y3 + 1) r_15.2)))))
        else
          f_X8_spared_L33 y1 y2 k129 n (y3 + 1) r_5.2)
noncomputable def f_X8_spared (x1 : Int32) (x2 : Int32) (ν : gN) : Option (Int32 × gN) :=
  (f_X4_isPerson 1 x1 ν).bind (fun r_1 =>
    if r_1.1 = 0 then
      (f_X8_refuseApart 1 r_1.2).bind (fun r_20 =>
        some (r_20.1, r_20.2))
    else
      (f_X8_isAhead x2 r_1.2).bind (fun r_3 =>
        if r_3.1 = 0 then
          (f_X8_refuseApart 6 r_3.2).bind (fun r_18 =>
            some (r_18.1, r_18.2))
        else
          f_X8_spared_L33 x1 x2 (fun ν_17 =>
            some ((-1), ν_17)) FU 0 r_3.2))
theorem me_X8_spared : g_me yX8_spared cX8_spared 4 ((Option.some .int)) 2 := ⟨tw_725, tw_72, ⟨by decide +kernel, by decide +kernel, by decide +kernel⟩, by decide⟩
set_option maxRecDepth 20000 in
set_option maxHeartbeats 2000000 in
theorem m_X8_spared_L33 {X : gX} {ad : Nat → Nat} {y1 : Int32} {y2 : Int32} {k129 : gN → Option (Int32 × gN)}  : ∀ (n : Nat) (y3 : Int32) (ν : gN) (r : Int32 × gN), f_X8_spared_L33 y1 y2 k129 n y3 ν = some r → (∀ (ν1 : gN), k129 ν1 = some r → h_go X ad RX8 "spared" cX8_spared 4 ((Option.some .int)) 5 (some (.int r.1), r.2) 129 [] [] ν1) → h_go X ad RX8 "spared" cX8_spared 4 ((Option.some .int)) 5 (some (.int r.1), r.2) 33 [(0, .ref (ad 0)), (1, .int y1), (2, .int y2), (3, .int y3)] [] ν := by
  intro n
  induction n with
  | zero => intro y3 ν r h hk129; rw [f_X8_spared_L33] at h; exact q_n h
  | succ n ih =>
    intro y3 ν r h hk129
    rw [f_X8_spared_L33] at h
    refine go_iload_n rfl 3 rfl dX8_spared_33 ?_
    refine go_bipush kz_bipush_49 dX8_spared_34 ?_
    refine go_icmp_ge (tgt := 129) dX8_spared_36 rfl (fun hc => ?_) (fun hc => ?_)
    · replace h := q_t h hc
      refine go_sub (l' := []) [] rfl ?_
      exact hk129  _ h
    · replace h := q_f h hc
      refine go_aload_n rfl 0 rfl dX8_spared_39 ?_
      refine h_getr 0 cl6 rfl (by decide) tw_279 1 rfl dX8_spared_40 ?_
      refine go_iload_n rfl 3 rfl dX8_spared_43 ?_
      obtain ⟨r_5, h_6, h⟩ := q_b h
      refine h_callVi (st := []) [.int y3] (m_X4_isFenced isP_1 h_6) me_X4_isFenced (g_recv cl2.1 rfl) tw_462 tw_438 tw_439 (hdd_of (by decide)) ⟨Nat.zero_le _, Nat.zero_le _⟩ rfl rfl (Nat.le_of_ble_eq_true rfl) dX8_spared_44 ?_
      refine go_if_ne (tgt := 123) dX8_spared_47 rfl (fun hc => ?_) (fun hc => ?_)
      · replace h := q_f h hc
        refine h_iinc (l' := [(3, .int (y3 + 1)), (0, .ref (ad 0)), (1, .int y1), (2, .int y2)]) dX8_spared_123 3 rfl kz_iconst_1 (by decide) rfl ?_
        refine go_goto (tgt := 33) dX8_spared_126 rfl ?_
        refine go_sub (l' := [(0, .ref (ad 0)), (1, .int y1), (2, .int y2), (3, .int (y3 + 1))]) [1, 2, 3, 0] rfl ?_
        exact ih _ _ _ h hk129
      · replace h := q_t h hc
        refine go_aload_n rfl 0 rfl dX8_spared_50 ?_
        refine h_getr 0 cl6 rfl (by decide) tw_279 1 rfl dX8_spared_51 ?_
        refine go_iload_n rfl 3 rfl dX8_spared_54 ?_
        obtain ⟨r_7, h_8, h⟩ := q_b h
        refine h_callVi (st := []) [.int y3] (m_X4_mayBeFenced isP_1 h_8) me_X4_mayBeFenced (g_recv cl2.1 rfl) tw_454 tw_455 tw_456 (hdd_of (by decide)) ⟨Nat.zero_le _, Nat.zero_le _⟩ rfl rfl (Nat.le_of_ble_eq_true rfl) dX8_spared_55 ?_
        refine go_if_ne (tgt := 64) dX8_spared_58 rfl (fun hc => ?_) (fun hc => ?_)
        · replace h := q_f h hc
          refine go_aload_n rfl 0 rfl dX8_spared_64 ?_
          refine h_getr 5 cl6 rfl (by decide) tw_284 24 rfl dX8_spared_65 ?_
          refine go_aload_n rfl 0 rfl dX8_spared_68 ?_
          refine h_getr 0 cl6 rfl (by decide) tw_279 1 rfl dX8_spared_69 ?_
          refine h_getlN 7 cl2 rfl (by decide) tw_127 rfl dX8_spared_72 ?_
          refine go_lconst (v := 1) rfl dX8_spared_75 ?_
          refine go_iload_n rfl 3 rfl dX8_spared_76 ?_
          refine h_lshl dX8_spared_77 ?_
          refine go_lor dX8_spared_78 ?_
          obtain ⟨r_9, h_10, h⟩ := q_b h
          refine h_callVv (st := []) [.long ((r_7.2.2 1 7) ||| (j_lshl 1 y3))] (m_X7_chart h_10) me_X7_chart (g_recv cl5.1 rfl) tw_632 tw_633 tw_634 (hdd_of (by decide)) ⟨Nat.zero_le _, Nat.zero_le _⟩ rfl rfl (Nat.le_of_ble_eq_true rfl) dX8_spared_79 ?_
          refine go_aload_n rfl 0 rfl dX8_spared_82 ?_
          refine h_getr 6 cl6 rfl (by decide) tw_285 30 rfl dX8_spared_83 ?_
          refine go_aload_n rfl 0 rfl dX8_spared_86 ?_
          refine h_getr 0 cl6 rfl (by decide) tw_279 1 rfl dX8_spared_87 ?_
          refine go_aload_n rfl 0 rfl dX8_spared_90 ?_
          refine h_getr 5 cl6 rfl (by decide) tw_284 24 rfl dX8_spared_91 ?_
          refine go_iload_n rfl 2 rfl dX8_spared_94 ?_
          obtain ⟨r_11, h_12, h⟩ := q_b h
          refine h_callVv (st := []) [.ref (ad 1), .ref (ad 24), .int y2] (m_X2_look isP_1 h_12) me_X2_look (g_recv cl1.1 rfl) tw_662 tw_663 tw_664 (hdd_of (by decide)) ⟨Nat.zero_le _, Nat.zero_le _⟩ rfl rfl (Nat.le_of_ble_eq_true rfl) dX8_spared_95 ?_
          refine go_aload_n rfl 0 rfl dX8_spared_98 ?_
          refine h_getr 6 cl6 rfl (by decide) tw_285 30 rfl dX8_spared_99 ?_
          refine go_aload_n rfl 0 rfl dX8_spared_102 ?_
          refine h_getr 0 cl6 rfl (by decide) tw_279 1 rfl dX8_spared_103 ?_
          refine go_aload_n rfl 0 rfl dX8_spared_106 ?_
          refine h_getr 5 cl6 rfl (by decide) tw_284 24 rfl dX8_spared_107 ?_
          refine go_iconst kz_iconst_0 dX8_spared_110 ?_
          obtain ⟨r_13, h_14, h⟩ := q_b h
          refine h_callVi (st := []) [.ref (ad 1), .ref (ad 24), .int 0] (m_X2_elect isP_1 h_14) me_X2_elect (g_recv cl1.1 rfl) tw_678 tw_679 tw_680 (hdd_of (by decide)) ⟨Nat.zero_le _, Nat.zero_le _⟩ rfl rfl (Nat.le_of_ble_eq_true rfl) dX8_spared_111 ?_
          refine go_iload_n rfl 1 rfl dX8_spared_114 ?_
          obtain ⟨r_15, h_16, h⟩ := q_b h
          refine h_callSi (st := []) [.int r_13.1, .int y1] (m_X8_isIn h_16) me_X8_isIn tw_726 tw_691 (hdd_of (by decide)) ⟨Nat.zero_le _, Nat.zero_le _⟩ rfl rfl (Nat.le_of_ble_eq_true rfl) dX8_spared_115 ?_
          refine go_if_ne (tgt := 123) dX8_spared_118 rfl (fun hc => ?_) (fun hc => ?_)
          · replace h := q_f h hc
            refine h_iinc (l' := [(3, .int (y3 + 1)), (0, .ref (ad 0)), (1, .int y1), (2, .int y2)]) dX8_spared_123 3 rfl kz_iconst_1 (by decide) rfl ?_
            refine go_goto (tgt := 33) dX8_spared_126 rfl ?_
            refine go_sub (l' := [(0, .ref (ad 0)), (1, .int y1), (2, .int y2), (3, .int (y3 + 1))]) [1, 2, 3, 0] rfl ?_
            exact ih _ _ _ h hk129
          · replace h := q_t h hc
            refine go_iload_n rfl 3 rfl dX8_spared_121 ?_
            exact h_iret h dX8_spared_122 rfl
        · replace h := q_t h hc
          refine go_goto (tgt := 123) dX8_spared_61 rfl ?_
          refine h_iinc (l' := [(3, .int (y3 + 1)), (0, .ref (ad 0)), (1, .int y1), (2, .int y2)]) dX8_spared_123 3 rfl kz_iconst_1 (by decide) rfl ?_
          refine go_goto (tgt := 33) dX8_spared_126 rfl ?_
          refine go_sub (l' := [(0, .ref (ad 0)), (1, .int y1), (2, .int y2), (3, .int (y3 + 1))]) [1, 2, 3, 0] rfl ?_
          exact ih _ _ _ h hk129
set_option maxRecDepth 20000 in
set_option maxHeartbeats 2000000 in
theorem m_X8_spared {X : gX} {ad : Nat → Nat} {x1 : Int32} {x2 : Int32} {ν : gN} {r : Int32 × gN}  (h : f_X8_spared x1 x2 ν = some r) : h_ct X ad yX8_spared cX8_spared 4 ((Option.some .int)) 5 [.ref (ad 0), .int x1, .int x2] ν (some (.int r.1), r.2) := by
  rw [f_X8_spared] at h
  refine h_ct_of (l := [(0, .ref (ad 0)), (1, .int x1), (2, .int x2)]) (by decide) (Nat.le_of_ble_eq_true rfl) rfl ?_
  refine go_aload_n rfl 0 rfl dX8_spared_0 ?_
  refine h_getr 0 cl6 rfl (by decide) tw_279 1 rfl dX8_spared_1 ?_
  refine go_iload_n rfl 1 rfl dX8_spared_4 ?_
  obtain ⟨r_1, h_2, h⟩ := q_b h
  refine h_callVi (st := []) [.int x1] (m_X4_isPerson isP_1 h_2) me_X4_isPerson (g_recv cl2.1 rfl) tw_386 tw_387 tw_388 (hdd_of (by decide)) ⟨Nat.zero_le _, Nat.zero_le _⟩ rfl rfl (Nat.le_of_ble_eq_true rfl) dX8_spared_5 ?_
  refine go_if_ne (tgt := 17) dX8_spared_8 rfl (fun hc => ?_) (fun hc => ?_)
  · replace h := q_f h hc
    refine go_iload_n rfl 2 rfl dX8_spared_17 ?_
    obtain ⟨r_3, h_4, h⟩ := q_b h
    refine h_callSi (st := []) [.int x2] (m_X8_isAhead h_4) me_X8_isAhead tw_702 tw_703 (hdd_of (by decide)) ⟨Nat.zero_le _, Nat.zero_le _⟩ rfl rfl (Nat.le_of_ble_eq_true rfl) dX8_spared_18 ?_
    refine go_if_ne (tgt := 31) dX8_spared_21 rfl (fun hc => ?_) (fun hc => ?_)
    · replace h := q_f h hc
      refine go_iconst kz_iconst_0 dX8_spared_31 ?_
      refine go_istore_n (l' := [(3, .int 0), (0, .ref (ad 0)), (1, .int x1), (2, .int x2)]) dX8_spared_32 rfl (by decide) rfl ?_
      refine go_sub (l' := [(0, .ref (ad 0)), (1, .int x1), (2, .int x2), (3, .int 0)]) [1, 2, 3, 0] rfl ?_
      refine m_X8_spared_L33  FU _ _ _ h (fun ν_17 h => ?_)
      refine go_iconst kz_iconst_m1 dX8_spared_129 ?_
      exact h_iret h dX8_spared_130 rfl
    · replace h := q_t h hc
      refine go_aload_n rfl 0 rfl dX8_spared_24 ?_
      refine go_bipush kz_bipush_6 dX8_spared_25 ?_
      obtain ⟨r_18, h_19, h⟩ := q_b h
      refine h_callVi (st := []) [.int 6] (m_X8_refuseApart h_19) me_X8_refuseApart (g_recv cl6.1 rfl) tw_713 tw_715 tw_16 (hdd_of (by decide)) ⟨Nat.zero_le _, Nat.zero_le _⟩ rfl rfl (Nat.le_of_ble_eq_true rfl) dX8_spared_27 ?_
      exact h_iret h dX8_spared_30 rfl
  · replace h := q_t h hc
    refine go_aload_n rfl 0 rfl dX8_spared_11 ?_
    refine go_iconst kz_iconst_1 dX8_spared_12 ?_
    obtain ⟨r_20, h_21, h⟩ := q_b h
    refine h_callVi (st := []) [.int 1] (m_X8_refuseApart h_21) me_X8_refuseApart (g_recv cl6.1 rfl) tw_713 tw_715 tw_16 (hdd_of (by decide)) ⟨Nat.zero_le _, Nat.zero_le _⟩ rfl rfl (Nat.le_of_ble_eq_true rfl) dX8_spared_13 ?_
    exact h_iret h dX8_spared_16 rfl
noncomputable def f_X8_squareOf (x1 : Int32) (x2 : Int32) (ν : gN) : Option (Int32 × gN) :=
  (f_X8_isSquare x1 ν).bind (fun r_1 =>
    if r_1.1 = 0 then
      (f_X8_refuse 5 r_1.2).bind (fun r_11 =>
        some (r_11.1, r_11.2))
    else
      if x2 = 0 then
        (f_X4_isFenced 1 x1 r_1.2).bind (fun r_4 =>
          if r_4.1 = 0 then
            some (0, r_4.2)
          else
            some (1, r_4.2))
      else
      if x2 = 1 then
        (f_X4_peopleAt 1 x1 r_1.2).bind (fun r_7 =>
          some (r_7.1, r_7.2))
      else
      (f_X8_refuse 5 r_1.2).bind (fun r_9 =>
        some (r_9.1, r_9.2)))
theorem me_X8_squareOf : g_me yX8_squareOf cX8_squareOf 3 ((Option.some .int)) 2 := ⟨tw_498, tw_72, ⟨by decide +kernel, by decide +kernel, by decide +kernel⟩, by decide⟩
set_option maxRecDepth 20000 in
set_option maxHeartbeats 2000000 in
theorem m_X8_squareOf {X : gX} {ad : Nat → Nat} {x1 : Int32} {x2 : Int32} {ν : gN} {r : Int32 × gN}  (h : f_X8_squareOf x1 x2 ν = some r) : h_ct X ad yX8_squareOf cX8_squareOf 3 ((Option.some .int)) 3 [.ref (ad 0), .int x1, .int x2] ν (some (.int r.1), r.2) := by
  rw [f_X8_squareOf] at h
  refine h_ct_of (l := [(0, .ref (ad 0)), (1, .int x1), (2, .int x2)]) (by decide) (Nat.le_of_ble_eq_true rfl) rfl ?_
  refine go_iload_n rfl 1 rfl dX8_squareOf_0 ?_
  obtain ⟨r_1, h_2, h⟩ := q_b h
  refine h_callSi (st := []) [.int x1] (m_X8_isSquare h_2) me_X8_isSquare tw_499 tw_435 (hdd_of (by decide)) ⟨Nat.zero_le _, Nat.zero_le _⟩ rfl rfl (Nat.le_of_ble_eq_true rfl) dX8_squareOf_1 ?_
  refine go_if_ne (tgt := 13) dX8_squareOf_4 rfl (fun hc => ?_) (fun hc => ?_)
  · replace h := q_f h hc
    refine go_iload_n rfl 2 rfl dX8_squareOf_13 ?_
    by_cases hk_3 : x2 = 0
    · replace h := q_t h hk_3
      refine h_lkT (tgt := 40) (off := 26) hk_3 dX8_squareOf_14 (by decide) rfl rfl ?_
      refine go_aload_n rfl 0 rfl dX8_squareOf_40 ?_
      refine h_getr 0 cl6 rfl (by decide) tw_279 1 rfl dX8_squareOf_41 ?_
      refine go_iload_n rfl 1 rfl dX8_squareOf_44 ?_
      obtain ⟨r_4, h_5, h⟩ := q_b h
      refine h_callVi (st := []) [.int x1] (m_X4_isFenced isP_1 h_5) me_X4_isFenced (g_recv cl2.1 rfl) tw_462 tw_438 tw_439 (hdd_of (by decide)) ⟨Nat.zero_le _, Nat.zero_le _⟩ rfl rfl (Nat.le_of_ble_eq_true rfl) dX8_squareOf_45 ?_
      refine go_if_eq (tgt := 55) dX8_squareOf_48 rfl (fun hc => ?_) (fun hc => ?_)
      · replace h := q_t h hc
        refine go_iconst kz_iconst_0 dX8_squareOf_55 ?_
        exact h_iret h dX8_squareOf_56 rfl
      · replace h := q_f h hc
        refine go_iconst kz_iconst_1 dX8_squareOf_51 ?_
        refine go_goto (tgt := 56) dX8_squareOf_52 rfl ?_
        exact h_iret h dX8_squareOf_56 rfl
    replace h := q_f h hk_3
    by_cases hk_6 : x2 = 1
    · replace h := q_t h hk_6
      refine h_lkT (tgt := 57) (off := 43) hk_6 dX8_squareOf_14 (by decide) rfl rfl ?_
      refine go_aload_n rfl 0 rfl dX8_squareOf_57 ?_
      refine h_getr 0 cl6 rfl (by decide) tw_279 1 rfl dX8_squareOf_58 ?_
      refine go_iload_n rfl 1 rfl dX8_squareOf_61 ?_
      obtain ⟨r_7, h_8, h⟩ := q_b h
      refine h_callVi (st := []) [.int x1] (m_X4_peopleAt isP_1 h_8) me_X4_peopleAt (g_recv cl2.1 rfl) tw_500 tw_459 tw_460 (hdd_of (by decide)) ⟨Nat.zero_le _, Nat.zero_le _⟩ rfl rfl (Nat.le_of_ble_eq_true rfl) dX8_squareOf_62 ?_
      exact h_iret h dX8_squareOf_65 rfl
    replace h := q_f h hk_6
    refine go_lookup (tgt := 66) (off := 52) dX8_squareOf_14 (by decide) ((lv_osw hk_3 (by decide)).trans ((lv_osw hk_6 (by decide)).trans rfl)) rfl ?_
    refine go_aload_n rfl 0 rfl dX8_squareOf_66 ?_
    refine go_iconst kz_iconst_5 dX8_squareOf_67 ?_
    obtain ⟨r_9, h_10, h⟩ := q_b h
    refine h_callVi (st := []) [.int 5] (m_X8_refuse h_10) me_X8_refuse (g_recv cl6.1 rfl) tw_323 tw_325 tw_0 (hdd_of (by decide)) ⟨Nat.zero_le _, Nat.zero_le _⟩ rfl rfl (Nat.le_of_ble_eq_true rfl) dX8_squareOf_68 ?_
    exact h_iret h dX8_squareOf_71 rfl
  · replace h := q_t h hc
    refine go_aload_n rfl 0 rfl dX8_squareOf_7 ?_
    refine go_iconst kz_iconst_5 dX8_squareOf_8 ?_
    obtain ⟨r_11, h_12, h⟩ := q_b h
    refine h_callVi (st := []) [.int 5] (m_X8_refuse h_12) me_X8_refuse (g_recv cl6.1 rfl) tw_323 tw_325 tw_0 (hdd_of (by decide)) ⟨Nat.zero_le _, Nat.zero_le _⟩ rfl rfl (Nat.le_of_ble_eq_true rfl) dX8_squareOf_9 ?_
    exact h_iret h dX8_squareOf_12 rfl
noncomputable def f_X8_status (x1 : Int32) (ν : gN) : Option (Int32 × gN) :=
  (f_X8_isBetween x1 11 17 ν).bind (fun r_1 =>
    if r_1.1 = 0 then
      if x1 = 0 then
        some (r_1.2.1 1 6, r_1.2)
      else
      if x1 = 1 then
        (f_J13_bitCount_95d88 (r_1.2.2 1 7) r_1.2).bind (fun r_5 =>
          some (r_5.1, r_5.2))
      else
      if x1 = 2 then
        some (r_1.2.1 1 8, r_1.2)
      else
      if x1 = 3 then
        some (r_1.2.1 1 9, r_1.2)
      else
      if x1 = 4 then
        some (r_1.2.1 1 10, r_1.2)
      else
      if x1 = 5 then
        some (r_1.2.1 1 11, r_1.2)
      else
      if x1 = 6 then
        (f_X4_satTogether 1 r_1.2).bind (fun r_12 =>
          some (r_12.1, r_12.2))
      else
      if x1 = 7 then
        some (r_1.2.1 1 12, r_1.2)
      else
      if x1 = 8 then
        some (r_1.2.1 35 1, r_1.2)
      else
      some ((-1), r_1.2)
    else
      if inb (x1 - 10) 8 = true then
        some (r_1.2.1 23 (x1 - 10).toNatClampNeg, r_1.2)
      else none)
theorem me_X8_status : g_me yX8_status cX8_status 2 ((Option.some .int)) 1 := ⟨tw_901, tw_72, ⟨by decide +kernel, by decide +kernel, by decide +kernel⟩, by decide⟩
set_option maxRecDepth 20000 in
set_option maxHeartbeats 2000000 in
theorem m_X8_status {X : gX} {ad : Nat → Nat} {x1 : Int32} {ν : gN} {r : Int32 × gN}  (h : f_X8_status x1 ν = some r) : h_ct X ad yX8_status cX8_status 2 ((Option.some .int)) 2 [.ref (ad 0), .int x1] ν (some (.int r.1), r.2) := by
  rw [f_X8_status] at h
  refine h_ct_of (l := [(0, .ref (ad 0)), (1, .int x1)]) (by decide) (Nat.le_of_ble_eq_true rfl) rfl ?_
  refine go_iload_n rfl 1 rfl dX8_status_0 ?_
  refine go_bipush kz_bipush_11 dX8_status_1 ?_
  refine go_bipush kz_bipush_17 dX8_status_3 ?_
  obtain ⟨r_1, h_2, h⟩ := q_b h
  refine h_callSi (st := []) [.int x1, .int 11, .int 17] (m_X8_isBetween h_2) me_X8_isBetween tw_320 tw_321 (hdd_of (by decide)) ⟨Nat.zero_le _, Nat.zero_le _⟩ rfl rfl (Nat.le_of_ble_eq_true rfl) dX8_status_5 ?_
  refine go_if_eq (tgt := 21) dX8_status_8 rfl (fun hc => ?_) (fun hc => ?_)
  · replace h := q_t h hc
    refine go_iload_n rfl 1 rfl dX8_status_21 ?_
    by_cases hk_3 : x1 = 0
    · replace h := q_t h hk_3
      refine h_tbT (tgt := 72) (off := 50) hk_3 dX8_status_22 (by decide) (by decide) rfl rfl ?_
      refine go_aload_n rfl 0 rfl dX8_status_72 ?_
      refine h_getr 0 cl6 rfl (by decide) tw_279 1 rfl dX8_status_73 ?_
      refine h_getiN 6 cl2 rfl (by decide) tw_125 rfl dX8_status_76 ?_
      exact h_iret h dX8_status_79 rfl
    replace h := q_f h hk_3
    by_cases hk_4 : x1 = 1
    · replace h := q_t h hk_4
      refine h_tbT (tgt := 80) (off := 58) hk_4 dX8_status_22 (by decide) (by decide) rfl rfl ?_
      refine go_aload_n rfl 0 rfl dX8_status_80 ?_
      refine h_getr 0 cl6 rfl (by decide) tw_279 1 rfl dX8_status_81 ?_
      refine h_getlN 7 cl2 rfl (by decide) tw_127 rfl dX8_status_84 ?_
      obtain ⟨r_5, h_6, h⟩ := q_b h
      refine h_callSi (st := []) [.long (r_1.2.2 1 7)] (m_J13_bitCount_95d88 h_6) me_J13_bitCount_95d88 tw_772 tw_767 (hdd_of (by decide)) ⟨Nat.zero_le _, Nat.zero_le _⟩ rfl rfl (Nat.le_of_ble_eq_true rfl) dX8_status_87 ?_
      exact h_iret h dX8_status_90 rfl
    replace h := q_f h hk_4
    by_cases hk_7 : x1 = 2
    · replace h := q_t h hk_7
      refine h_tbT (tgt := 91) (off := 69) hk_7 dX8_status_22 (by decide) (by decide) rfl rfl ?_
      refine go_aload_n rfl 0 rfl dX8_status_91 ?_
      refine h_getr 0 cl6 rfl (by decide) tw_279 1 rfl dX8_status_92 ?_
      refine h_getiN 8 cl2 rfl (by decide) tw_131 rfl dX8_status_95 ?_
      exact h_iret h dX8_status_98 rfl
    replace h := q_f h hk_7
    by_cases hk_8 : x1 = 3
    · replace h := q_t h hk_8
      refine h_tbT (tgt := 99) (off := 77) hk_8 dX8_status_22 (by decide) (by decide) rfl rfl ?_
      refine go_aload_n rfl 0 rfl dX8_status_99 ?_
      refine h_getr 0 cl6 rfl (by decide) tw_279 1 rfl dX8_status_100 ?_
      refine h_getiN 9 cl2 rfl (by decide) tw_135 rfl dX8_status_103 ?_
      exact h_iret h dX8_status_106 rfl
    replace h := q_f h hk_8
    by_cases hk_9 : x1 = 4
    · replace h := q_t h hk_9
      refine h_tbT (tgt := 107) (off := 85) hk_9 dX8_status_22 (by decide) (by decide) rfl rfl ?_
      refine go_aload_n rfl 0 rfl dX8_status_107 ?_
      refine h_getr 0 cl6 rfl (by decide) tw_279 1 rfl dX8_status_108 ?_
      refine h_getiN 10 cl2 rfl (by decide) tw_138 rfl dX8_status_111 ?_
      exact h_iret h dX8_status_114 rfl
    replace h := q_f h hk_9
    by_cases hk_10 : x1 = 5
    · replace h := q_t h hk_10
      refine h_tbT (tgt := 115) (off := 93) hk_10 dX8_status_22 (by decide) (by decide) rfl rfl ?_
      refine go_aload_n rfl 0 rfl dX8_status_115 ?_
      refine h_getr 0 cl6 rfl (by decide) tw_279 1 rfl dX8_status_116 ?_
      refine h_getiN 11 cl2 rfl (by decide) tw_140 rfl dX8_status_119 ?_
      exact h_iret h dX8_status_122 rfl
    replace h := q_f h hk_10
    by_cases hk_11 : x1 = 6
    · replace h := q_t h hk_11
      refine h_tbT (tgt := 123) (off := 101) hk_11 dX8_status_22 (by decide) (by decide) rfl rfl ?_
      refine go_aload_n rfl 0 rfl dX8_status_123 ?_
      refine h_getr 0 cl6 rfl (by decide) tw_279 1 rfl dX8_status_124 ?_
      obtain ⟨r_12, h_13, h⟩ := q_b h
      refine h_callVi (st := []) [] (m_X4_satTogether isP_1 h_13) me_X4_satTogether (g_recv cl2.1 rfl) tw_902 tw_903 tw_904 (hdd_of (by decide)) ⟨Nat.zero_le _, Nat.zero_le _⟩ rfl rfl (Nat.le_of_ble_eq_true rfl) dX8_status_127 ?_
      exact h_iret h dX8_status_130 rfl
    replace h := q_f h hk_11
    by_cases hk_14 : x1 = 7
    · replace h := q_t h hk_14
      refine h_tbT (tgt := 131) (off := 109) hk_14 dX8_status_22 (by decide) (by decide) rfl rfl ?_
      refine go_aload_n rfl 0 rfl dX8_status_131 ?_
      refine h_getr 0 cl6 rfl (by decide) tw_279 1 rfl dX8_status_132 ?_
      refine h_getiN 12 cl2 rfl (by decide) tw_142 rfl dX8_status_135 ?_
      exact h_iret h dX8_status_138 rfl
    replace h := q_f h hk_14
    by_cases hk_15 : x1 = 8
    · replace h := q_t h hk_15
      refine h_tbT (tgt := 139) (off := 117) hk_15 dX8_status_22 (by decide) (by decide) rfl rfl ?_
      refine go_aload_n rfl 0 rfl dX8_status_139 ?_
      refine h_getr 8 cl6 rfl (by decide) tw_287 35 rfl dX8_status_140 ?_
      refine h_getiN 1 cl0 rfl (by decide) tw_245 rfl dX8_status_143 ?_
      exact h_iret h dX8_status_146 rfl
    replace h := q_f h hk_15
    have hk_3 := h_nT hk_3 (a := 0) (by decide)
    have hk_4 := h_nT hk_4 (a := 1) (by decide)
    have hk_7 := h_nT hk_7 (a := 2) (by decide)
    have hk_8 := h_nT hk_8 (a := 3) (by decide)
    have hk_9 := h_nT hk_9 (a := 4) (by decide)
    have hk_10 := h_nT hk_10 (a := 5) (by decide)
    have hk_11 := h_nT hk_11 (a := 6) (by decide)
    have hk_14 := h_nT hk_14 (a := 7) (by decide)
    have hk_15 := h_nT hk_15 (a := 8) (by decide)
    refine go_tableOut (tgt := 147) dX8_status_22 (by omega) rfl ?_
    refine go_iconst kz_iconst_m1 dX8_status_147 ?_
    exact h_iret h dX8_status_148 rfl
  · replace h := q_f h hc
    refine go_aload_n rfl 0 rfl dX8_status_11 ?_
    refine h_getr 4 cl6 rfl (by decide) tw_283 23 rfl dX8_status_12 ?_
    refine go_iload_n rfl 1 rfl dX8_status_15 ?_
    refine go_bipush kz_bipush_10 dX8_status_16 ?_
    refine go_isub dX8_status_18 ?_
    obtain ⟨hg_16, h⟩ := q_g h
    refine h_iald 8 rfl hg_16 dX8_status_19 ?_
    exact h_iret h dX8_status_20 rfl
noncomputable def f_X8_tell (x1 : Int32) (x2 : Int32) (x3 : Int32) (ν : gN) : Option (Int32 × gN) :=
  (f_X4_isPerson 1 x1 ν).bind (fun r_1 =>
    if r_1.1 = 0 then
      (f_X8_refuse 1 r_1.2).bind (fun r_47 =>
        some (r_47.1, r_47.2))
    else
      if x2 = 0 then
        (f_X8_isBetween x3 0 20 r_1.2).bind (fun r_23 =>
          if r_23.1 = 0 then
            if x2 = 1 then
              (f_X8_isBetween x3 1 4 r_23.2).bind (fun r_33 =>
                if r_33.1 = 0 then
                  if x2 = 2 then
                    (f_X4_isOpen 1 x3 r_33.2).bind (fun r_37 =>
                      if r_37.1 = 0 then
                        (f_X8_refuse 6 r_37.2).bind (fun r_39 =>
                          some (r_39.1, r_39.2))
                      else
                        (f_X8_exchange 6 x1 x3 r_37.2).bind (fun r_41 =>
                          some (r_41.1, r_41.2)))
                  else
                    (f_X8_refuse 6 r_33.2).bind (fun r_35 =>
                      some (r_35.1, r_35.2))
                else
                  (f_X8_exchange 5 x1 x3 r_33.2).bind (fun r_43 =>
                    some (r_43.1, r_43.2)))
            else
              if x2 = 2 then
                (f_X4_isOpen 1 x3 r_23.2).bind (fun r_27 =>
                  if r_27.1 = 0 then
                    (f_X8_refuse 6 r_27.2).bind (fun r_29 =>
                      some (r_29.1, r_29.2))
                  else
                    (f_X8_exchange 6 x1 x3 r_27.2).bind (fun r_31 =>
                      some (r_31.1, r_31.2)))
              else
                (f_X8_refuse 6 r_23.2).bind (fun r_25 =>
                  some (r_25.1, r_25.2))
          else
            (f_X8_exchange 4 x1 x3 r_23.2).bind (fun r_45 =>
              some (r_45.1, r_45.2)))
      else
        if x2 = 1 then
          (f_X8_isBetween x3 1 4 r_1.2).bind (fun r_11 =>
            if r_11.1 = 0 then
              if x2 = 2 then
                (f_X4_isOpen 1 x3 r_11.2).bind (fun r_15 =>
                  if r_15.1 = 0 then
                    (f_X8_refuse 6 r_15.2).bind (fun r_17 =>
                      some (r_17.1, r_17.2))
                  else
                    (f_X8_exchange 6 x1 x3 r_15.2).bind (fun r_19 =>
                      some (r_19.1, r_19.2)))
              else
                (f_X8_refuse 6 r_11.2).bind (fun r_13 =>
                  some (r_13.1, r_13.2))
            else
              (f_X8_exchange 5 x1 x3 r_11.2).bind (fun r_21 =>
                some (r_21.1, r_21.2)))
        else
          if x2 = 2 then
            (f_X4_isOpen 1 x3 r_1.2).bind (fun r_5 =>
              if r_5.1 = 0 then
                (f_X8_refuse 6 r_5.2).bind (fun r_7 =>
                  some (r_7.1, r_7.2))
              else
                (f_X8_exchange 6 x1 x3 r_5.2).bind (fun r_9 =>
                  some (r_9.1, r_9.2)))
          else
            (f_X8_refuse 6 r_1.2).bind (fun r_3 =>
              some (r_3.1, r_3.2)))
theorem me_X8_tell : g_me yX8_tell cX8_tell 4 ((Option.some .int)) 3 := ⟨tw_471, tw_72, ⟨by decide +kernel, by decide +kernel, by decide +kernel⟩, by decide⟩
set_option maxRecDepth 20000 in
set_option maxHeartbeats 2000000 in
theorem m_X8_tell {X : gX} {ad : Nat → Nat} {x1 : Int32} {x2 : Int32} {x3 : Int32} {ν : gN} {r : Int32 × gN}  (h : f_X8_tell x1 x2 x3 ν = some r) : h_ct X ad yX8_tell cX8_tell 4 ((Option.some .int)) 4 [.ref (ad 0), .int x1, .int x2, .int x3] ν (some (.int r.1), r.2) := by
  rw [f_X8_tell] at h
  refine h_ct_of (l := [(0, .ref (ad 0)), (1, .int x1), (2, .int x2), (3, .int x3)]) (by decide) (Nat.le_of_ble_eq_true rfl) rfl ?_
  refine go_aload_n rfl 0 rfl dX8_tell_0 ?_
  refine h_getr 0 cl6 rfl (by decide) tw_279 1 rfl dX8_tell_1 ?_
  refine go_iload_n rfl 1 rfl dX8_tell_4 ?_
  obtain ⟨r_1, h_2, h⟩ := q_b h
  refine h_callVi (st := []) [.int x1] (m_X4_isPerson isP_1 h_2) me_X4_isPerson (g_recv cl2.1 rfl) tw_386 tw_387 tw_388 (hdd_of (by decide)) ⟨Nat.zero_le _, Nat.zero_le _⟩ rfl rfl (Nat.le_of_ble_eq_true rfl) dX8_tell_5 ?_
  refine go_if_ne (tgt := 17) dX8_tell_8 rfl (fun hc => ?_) (fun hc => ?_)
  · replace h := q_f h hc
    refine go_iload_n rfl 2 rfl dX8_tell_17 ?_
    refine go_if_ne (tgt := 44) dX8_tell_18 rfl (fun hc => ?_) (fun hc => ?_)
    · replace h := q_f h hc
      refine go_iload_n rfl 2 rfl dX8_tell_44 ?_
      refine go_iconst kz_iconst_1 dX8_tell_45 ?_
      refine go_icmp_ne (tgt := 71) dX8_tell_46 rfl (fun hc => ?_) (fun hc => ?_)
      · replace h := q_f h hc
        refine go_iload_n rfl 2 rfl dX8_tell_71 ?_
        refine go_iconst kz_iconst_2 dX8_tell_72 ?_
        refine go_icmp_ne (tgt := 100) dX8_tell_73 rfl (fun hc => ?_) (fun hc => ?_)
        · replace h := q_f h hc
          refine go_aload_n rfl 0 rfl dX8_tell_100 ?_
          refine go_bipush kz_bipush_6 dX8_tell_101 ?_
          obtain ⟨r_3, h_4, h⟩ := q_b h
          refine h_callVi (st := []) [.int 6] (m_X8_refuse h_4) me_X8_refuse (g_recv cl6.1 rfl) tw_323 tw_325 tw_0 (hdd_of (by decide)) ⟨Nat.zero_le _, Nat.zero_le _⟩ rfl rfl (Nat.le_of_ble_eq_true rfl) dX8_tell_103 ?_
          exact h_iret h dX8_tell_106 rfl
        · replace h := q_t h hc
          refine go_aload_n rfl 0 rfl dX8_tell_76 ?_
          refine h_getr 0 cl6 rfl (by decide) tw_279 1 rfl dX8_tell_77 ?_
          refine go_iload_n rfl 3 rfl dX8_tell_80 ?_
          obtain ⟨r_5, h_6, h⟩ := q_b h
          refine h_callVi (st := []) [.int x3] (m_X4_isOpen isP_1 h_6) me_X4_isOpen (g_recv cl2.1 rfl) tw_430 tw_431 tw_432 (hdd_of (by decide)) ⟨Nat.zero_le _, Nat.zero_le _⟩ rfl rfl (Nat.le_of_ble_eq_true rfl) dX8_tell_81 ?_
          refine go_if_eq (tgt := 100) dX8_tell_84 rfl (fun hc => ?_) (fun hc => ?_)
          · replace h := q_t h hc
            refine go_aload_n rfl 0 rfl dX8_tell_100 ?_
            refine go_bipush kz_bipush_6 dX8_tell_101 ?_
            obtain ⟨r_7, h_8, h⟩ := q_b h
            refine h_callVi (st := []) [.int 6] (m_X8_refuse h_8) me_X8_refuse (g_recv cl6.1 rfl) tw_323 tw_325 tw_0 (hdd_of (by decide)) ⟨Nat.zero_le _, Nat.zero_le _⟩ rfl rfl (Nat.le_of_ble_eq_true rfl) dX8_tell_103 ?_
            exact h_iret h dX8_tell_106 rfl
          · replace h := q_f h hc
            refine go_aload_n rfl 0 rfl dX8_tell_87 ?_
            refine h_getr 0 cl6 rfl (by decide) tw_279 1 rfl dX8_tell_88 ?_
            refine h_getrN 4 cl2 rfl (by decide) tw_119 6 rfl dX8_tell_91 ?_
            refine go_iload_n rfl 1 rfl dX8_tell_94 ?_
            refine go_iload_n rfl 3 rfl dX8_tell_95 ?_
            obtain ⟨r_9, h_10, h⟩ := q_b h
            refine h_callSi (st := []) [.ref (ad 6), .int x1, .int x3] (m_X8_exchange rfl h_10) me_X8_exchange tw_472 tw_473 (hdd_of (by decide)) ⟨Nat.zero_le _, Nat.zero_le _⟩ rfl rfl (Nat.le_of_ble_eq_true rfl) dX8_tell_96 ?_
            exact h_iret h dX8_tell_99 rfl
      · replace h := q_t h hc
        refine go_iload_n rfl 3 rfl dX8_tell_49 ?_
        refine go_iconst kz_iconst_1 dX8_tell_50 ?_
        refine go_iconst kz_iconst_4 dX8_tell_51 ?_
        obtain ⟨r_11, h_12, h⟩ := q_b h
        refine h_callSi (st := []) [.int x3, .int 1, .int 4] (m_X8_isBetween h_12) me_X8_isBetween tw_320 tw_321 (hdd_of (by decide)) ⟨Nat.zero_le _, Nat.zero_le _⟩ rfl rfl (Nat.le_of_ble_eq_true rfl) dX8_tell_52 ?_
        refine go_if_eq (tgt := 71) dX8_tell_55 rfl (fun hc => ?_) (fun hc => ?_)
        · replace h := q_t h hc
          refine go_iload_n rfl 2 rfl dX8_tell_71 ?_
          refine go_iconst kz_iconst_2 dX8_tell_72 ?_
          refine go_icmp_ne (tgt := 100) dX8_tell_73 rfl (fun hc => ?_) (fun hc => ?_)
          · replace h := q_f h hc
            refine go_aload_n rfl 0 rfl dX8_tell_100 ?_
            refine go_bipush kz_bipush_6 dX8_tell_101 ?_
            obtain ⟨r_13, h_14, h⟩ := q_b h
            refine h_callVi (st := []) [.int 6] (m_X8_refuse h_14) me_X8_refuse (g_recv cl6.1 rfl) tw_323 tw_325 tw_0 (hdd_of (by decide)) ⟨Nat.zero_le _, Nat.zero_le _⟩ rfl rfl (Nat.le_of_ble_eq_true rfl) dX8_tell_103 ?_
            exact h_iret h dX8_tell_106 rfl
          · replace h := q_t h hc
            refine go_aload_n rfl 0 rfl dX8_tell_76 ?_
            refine h_getr 0 cl6 rfl (by decide) tw_279 1 rfl dX8_tell_77 ?_
            refine go_iload_n rfl 3 rfl dX8_tell_80 ?_
            obtain ⟨r_15, h_16, h⟩ := q_b h
            refine h_callVi (st := []) [.int x3] (m_X4_isOpen isP_1 h_16) me_X4_isOpen (g_recv cl2.1 rfl) tw_430 tw_431 tw_432 (hdd_of (by decide)) ⟨Nat.zero_le _, Nat.zero_le _⟩ rfl rfl (Nat.le_of_ble_eq_true rfl) dX8_tell_81 ?_
            refine go_if_eq (tgt := 100) dX8_tell_84 rfl (fun hc => ?_) (fun hc => ?_)
            · replace h := q_t h hc
              refine go_aload_n rfl 0 rfl dX8_tell_100 ?_
              refine go_bipush kz_bipush_6 dX8_tell_101 ?_
              obtain ⟨r_17, h_18, h⟩ := q_b h
              refine h_callVi (st := []) [.int 6] (m_X8_refuse h_18) me_X8_refuse (g_recv cl6.1 rfl) tw_323 tw_325 tw_0 (hdd_of (by decide)) ⟨Nat.zero_le _, Nat.zero_le _⟩ rfl rfl (Nat.le_of_ble_eq_true rfl) dX8_tell_103 ?_
              exact h_iret h dX8_tell_106 rfl
            · replace h := q_f h hc
              refine go_aload_n rfl 0 rfl dX8_tell_87 ?_
              refine h_getr 0 cl6 rfl (by decide) tw_279 1 rfl dX8_tell_88 ?_
              refine h_getrN 4 cl2 rfl (by decide) tw_119 6 rfl dX8_tell_91 ?_
              refine go_iload_n rfl 1 rfl dX8_tell_94 ?_
              refine go_iload_n rfl 3 rfl dX8_tell_95 ?_
              obtain ⟨r_19, h_20, h⟩ := q_b h
              refine h_callSi (st := []) [.ref (ad 6), .int x1, .int x3] (m_X8_exchange rfl h_20) me_X8_exchange tw_472 tw_473 (hdd_of (by decide)) ⟨Nat.zero_le _, Nat.zero_le _⟩ rfl rfl (Nat.le_of_ble_eq_true rfl) dX8_tell_96 ?_
              exact h_iret h dX8_tell_99 rfl
        · replace h := q_f h hc
          refine go_aload_n rfl 0 rfl dX8_tell_58 ?_
          refine h_getr 0 cl6 rfl (by decide) tw_279 1 rfl dX8_tell_59 ?_
          refine h_getrN 3 cl2 rfl (by decide) tw_116 5 rfl dX8_tell_62 ?_
          refine go_iload_n rfl 1 rfl dX8_tell_65 ?_
          refine go_iload_n rfl 3 rfl dX8_tell_66 ?_
          obtain ⟨r_21, h_22, h⟩ := q_b h
          refine h_callSi (st := []) [.ref (ad 5), .int x1, .int x3] (m_X8_exchange rfl h_22) me_X8_exchange tw_472 tw_473 (hdd_of (by decide)) ⟨Nat.zero_le _, Nat.zero_le _⟩ rfl rfl (Nat.le_of_ble_eq_true rfl) dX8_tell_67 ?_
          exact h_iret h dX8_tell_70 rfl
    · replace h := q_t h hc
      refine go_iload_n rfl 3 rfl dX8_tell_21 ?_
      refine go_iconst kz_iconst_0 dX8_tell_22 ?_
      refine go_bipush kz_bipush_20 dX8_tell_23 ?_
      obtain ⟨r_23, h_24, h⟩ := q_b h
      refine h_callSi (st := []) [.int x3, .int 0, .int 20] (m_X8_isBetween h_24) me_X8_isBetween tw_320 tw_321 (hdd_of (by decide)) ⟨Nat.zero_le _, Nat.zero_le _⟩ rfl rfl (Nat.le_of_ble_eq_true rfl) dX8_tell_25 ?_
      refine go_if_eq (tgt := 44) dX8_tell_28 rfl (fun hc => ?_) (fun hc => ?_)
      · replace h := q_t h hc
        refine go_iload_n rfl 2 rfl dX8_tell_44 ?_
        refine go_iconst kz_iconst_1 dX8_tell_45 ?_
        refine go_icmp_ne (tgt := 71) dX8_tell_46 rfl (fun hc => ?_) (fun hc => ?_)
        · replace h := q_f h hc
          refine go_iload_n rfl 2 rfl dX8_tell_71 ?_
          refine go_iconst kz_iconst_2 dX8_tell_72 ?_
          refine go_icmp_ne (tgt := 100) dX8_tell_73 rfl (fun hc => ?_) (fun hc => ?_)
          · replace h := q_f h hc
            refine go_aload_n rfl 0 rfl dX8_tell_100 ?_
            refine go_bipush kz_bipush_6 dX8_tell_101 ?_
            obtain ⟨r_25, h_26, h⟩ := q_b h
            refine h_callVi (st := []) [.int 6] (m_X8_refuse h_26) me_X8_refuse (g_recv cl6.1 rfl) tw_323 tw_325 tw_0 (hdd_of (by decide)) ⟨Nat.zero_le _, Nat.zero_le _⟩ rfl rfl (Nat.le_of_ble_eq_true rfl) dX8_tell_103 ?_
            exact h_iret h dX8_tell_106 rfl
          · replace h := q_t h hc
            refine go_aload_n rfl 0 rfl dX8_tell_76 ?_
            refine h_getr 0 cl6 rfl (by decide) tw_279 1 rfl dX8_tell_77 ?_
            refine go_iload_n rfl 3 rfl dX8_tell_80 ?_
            obtain ⟨r_27, h_28, h⟩ := q_b h
            refine h_callVi (st := []) [.int x3] (m_X4_isOpen isP_1 h_28) me_X4_isOpen (g_recv cl2.1 rfl) tw_430 tw_431 tw_432 (hdd_of (by decide)) ⟨Nat.zero_le _, Nat.zero_le _⟩ rfl rfl (Nat.le_of_ble_eq_true rfl) dX8_tell_81 ?_
            refine go_if_eq (tgt := 100) dX8_tell_84 rfl (fun hc => ?_) (fun hc => ?_)
            · replace h := q_t h hc
              refine go_aload_n rfl 0 rfl dX8_tell_100 ?_
              refine go_bipush kz_bipush_6 dX8_tell_101 ?_
              obtain ⟨r_29, h_30, h⟩ := q_b h
              refine h_callVi (st := []) [.int 6] (m_X8_refuse h_30) me_X8_refuse (g_recv cl6.1 rfl) tw_323 tw_325 tw_0 (hdd_of (by decide)) ⟨Nat.zero_le _, Nat.zero_le _⟩ rfl rfl (Nat.le_of_ble_eq_true rfl) dX8_tell_103 ?_
              exact h_iret h dX8_tell_106 rfl
            · replace h := q_f h hc
              refine go_aload_n rfl 0 rfl dX8_tell_87 ?_
              refine h_getr 0 cl6 rfl (by decide) tw_279 1 rfl dX8_tell_88 ?_
              refine h_getrN 4 cl2 rfl (by decide) tw_119 6 rfl dX8_tell_91 ?_
              refine go_iload_n rfl 1 rfl dX8_tell_94 ?_
              refine go_iload_n rfl 3 rfl dX8_tell_95 ?_
              obtain ⟨r_31, h_32, h⟩ := q_b h
              refine h_callSi (st := []) [.ref (ad 6), .int x1, .int x3] (m_X8_exchange rfl h_32) me_X8_exchange tw_472 tw_473 (hdd_of (by decide)) ⟨Nat.zero_le _, Nat.zero_le _⟩ rfl rfl (Nat.le_of_ble_eq_true rfl) dX8_tell_96 ?_
              exact h_iret h dX8_tell_99 rfl
        · replace h := q_t h hc
          refine go_iload_n rfl 3 rfl dX8_tell_49 ?_
          refine go_iconst kz_iconst_1 dX8_tell_50 ?_
          refine go_iconst kz_iconst_4 dX8_tell_51 ?_
          obtain ⟨r_33, h_34, h⟩ := q_b h
          refine h_callSi (st := []) [.int x3, .int 1, .int 4] (m_X8_isBetween h_34) me_X8_isBetween tw_320 tw_321 (hdd_of (by decide)) ⟨Nat.zero_le _, Nat.zero_le _⟩ rfl rfl (Nat.le_of_ble_eq_true rfl) dX8_tell_52 ?_
          refine go_if_eq (tgt := 71) dX8_tell_55 rfl (fun hc => ?_) (fun hc => ?_)
          · replace h := q_t h hc
            refine go_iload_n rfl 2 rfl dX8_tell_71 ?_
            refine go_iconst kz_iconst_2 dX8_tell_72 ?_
            refine go_icmp_ne (tgt := 100) dX8_tell_73 rfl (fun hc => ?_) (fun hc => ?_)
            · replace h := q_f h hc
              refine go_aload_n rfl 0 rfl dX8_tell_100 ?_
              refine go_bipush kz_bipush_6 dX8_tell_101 ?_
              obtain ⟨r_35, h_36, h⟩ := q_b h
              refine h_callVi (st := []) [.int 6] (m_X8_refuse h_36) me_X8_refuse (g_recv cl6.1 rfl) tw_323 tw_325 tw_0 (hdd_of (by decide)) ⟨Nat.zero_le _, Nat.zero_le _⟩ rfl rfl (Nat.le_of_ble_eq_true rfl) dX8_tell_103 ?_
              exact h_iret h dX8_tell_106 rfl
            · replace h := q_t h hc
              refine go_aload_n rfl 0 rfl dX8_tell_76 ?_
              refine h_getr 0 cl6 rfl (by decide) tw_279 1 rfl dX8_tell_77 ?_
              refine go_iload_n rfl 3 rfl dX8_tell_80 ?_
              obtain ⟨r_37, h_38, h⟩ := q_b h
              refine h_callVi (st := []) [.int x3] (m_X4_isOpen isP_1 h_38) me_X4_isOpen (g_recv cl2.1 rfl) tw_430 tw_431 tw_432 (hdd_of (by decide)) ⟨Nat.zero_le _, Nat.zero_le _⟩ rfl rfl (Nat.le_of_ble_eq_true rfl) dX8_tell_81 ?_
              refine go_if_eq (tgt := 100) dX8_tell_84 rfl (fun hc => ?_) (fun hc => ?_)
              · replace h := q_t h hc
                refine go_aload_n rfl 0 rfl dX8_tell_100 ?_
                refine go_bipush kz_bipush_6 dX8_tell_101 ?_
                obtain ⟨r_39, h_40, h⟩ := q_b h
                refine h_callVi (st := []) [.int 6] (m_X8_refuse h_40) me_X8_refuse (g_recv cl6.1 rfl) tw_323 tw_325 tw_0 (hdd_of (by decide)) ⟨Nat.zero_le _, Nat.zero_le _⟩ rfl rfl (Nat.le_of_ble_eq_true rfl) dX8_tell_103 ?_
                exact h_iret h dX8_tell_106 rfl
              · replace h := q_f h hc
                refine go_aload_n rfl 0 rfl dX8_tell_87 ?_
                refine h_getr 0 cl6 rfl (by decide) tw_279 1 rfl dX8_tell_88 ?_
                refine h_getrN 4 cl2 rfl (by decide) tw_119 6 rfl dX8_tell_91 ?_
                refine go_iload_n rfl 1 rfl dX8_tell_94 ?_
                refine go_iload_n rfl 3 rfl dX8_tell_95 ?_
                obtain ⟨r_41, h_42, h⟩ := q_b h
                refine h_callSi (st := []) [.ref (ad 6), .int x1, .int x3] (m_X8_exchange rfl h_42) me_X8_exchange tw_472 tw_473 (hdd_of (by decide)) ⟨Nat.zero_le _, Nat.zero_le _⟩ rfl rfl (Nat.le_of_ble_eq_true rfl) dX8_tell_96 ?_
                exact h_iret h dX8_tell_99 rfl
          · replace h := q_f h hc
            refine go_aload_n rfl 0 rfl dX8_tell_58 ?_
            refine h_getr 0 cl6 rfl (by decide) tw_279 1 rfl dX8_tell_59 ?_
            refine h_getrN 3 cl2 rfl (by decide) tw_116 5 rfl dX8_tell_62 ?_
            refine go_iload_n rfl 1 rfl dX8_tell_65 ?_
            refine go_iload_n rfl 3 rfl dX8_tell_66 ?_
            obtain ⟨r_43, h_44, h⟩ := q_b h
            refine h_callSi (st := []) [.ref (ad 5), .int x1, .int x3] (m_X8_exchange rfl h_44) me_X8_exchange tw_472 tw_473 (hdd_of (by decide)) ⟨Nat.zero_le _, Nat.zero_le _⟩ rfl rfl (Nat.le_of_ble_eq_true rfl) dX8_tell_67 ?_
            exact h_iret h dX8_tell_70 rfl
      · replace h := q_f h hc
        refine go_aload_n rfl 0 rfl dX8_tell_31 ?_
        refine h_getr 0 cl6 rfl (by decide) tw_279 1 rfl dX8_tell_32 ?_
        refine h_getrN 2 cl2 rfl (by decide) tw_114 4 rfl dX8_tell_35 ?_
        refine go_iload_n rfl 1 rfl dX8_tell_38 ?_
        refine go_iload_n rfl 3 rfl dX8_tell_39 ?_
        obtain ⟨r_45, h_46, h⟩ := q_b h
        refine h_callSi (st := []) [.ref (ad 4), .int x1, .int x3] (m_X8_exchange rfl h_46) me_X8_exchange tw_472 tw_473 (hdd_of (by decide)) ⟨Nat.zero_le _, Nat.zero_le _⟩ rfl rfl (Nat.le_of_ble_eq_true rfl) dX8_tell_40 ?_
        exact h_iret h dX8_tell_43 rfl
  · replace h := q_t h hc
    refine go_aload_n rfl 0 rfl dX8_tell_11 ?_
    refine go_iconst kz_iconst_1 dX8_tell_12 ?_
    obtain ⟨r_47, h_48, h⟩ := q_b h
    refine h_callVi (st := []) [.int 1] (m_X8_refuse h_48) me_X8_refuse (g_recv cl6.1 rfl) tw_323 tw_325 tw_0 (hdd_of (by decide)) ⟨Nat.zero_le _, Nat.zero_le _⟩ rfl rfl (Nat.le_of_ble_eq_true rfl) dX8_tell_13 ?_
    exact h_iret h dX8_tell_16 rfl
noncomputable def f_X8_tells (x1 : Int32) (x2 : Int32) (ν : gN) : Option (Int32 × gN) :=
  (f_X4_isPerson 1 x1 ν).bind (fun r_1 =>
    if r_1.1 = 0 then
      (f_X8_refuse 1 r_1.2).bind (fun r_27 =>
        some (r_27.1, r_27.2))
    else
      if x2 = 0 then
        (f_X7_chart (r_1.2.2 1 7) r_1.2).bind (fun r_3 =>
          (f_X4_takeFrom 8 1 r_3).bind (fun r_5 =>
            (f_X2_trackWants 8 x1 r_5).bind (fun r_7 =>
              (f_X2_yardsOfMostTracks  r_7).bind (fun r_9 =>
                if x2 = 0 then
                  some (r_9.1, r_9.2)
                else
                  if inb r_9.1 31 = true then
                    (f_J13_bitCount_95d88 (r_9.2.2 32 r_9.1.toNatClampNeg) r_9.2).bind (fun r_12 =>
                      some (r_12.1, r_12.2))
                  else none))))
      else
        if x2 = 1 then
          (f_X7_chart (r_1.2.2 1 7) r_1.2).bind (fun r_14 =>
            (f_X4_takeFrom 8 1 r_14).bind (fun r_16 =>
              (f_X2_trackWants 8 x1 r_16).bind (fun r_18 =>
                (f_X2_yardsOfMostTracks  r_18).bind (fun r_20 =>
                  if x2 = 0 then
                    some (r_20.1, r_20.2)
                  else
                    if inb r_20.1 31 = true then
                      (f_J13_bitCount_95d88 (r_20.2.2 32 r_20.1.toNatClampNeg) r_20.2).bind (fun r_23 =>
                        some (r_23.1, r_23.2))
                    else none))))
        else
          (f_X8_refuse 5 r_1.2).bind (fun r_25 =>
            some (r_25.1, r_25.2)))
theorem me_X8_tells : g_me yX8_tells cX8_tells 4 ((Option.some .int)) 2 := ⟨tw_756, tw_72, ⟨by decide +kernel, by decide +kernel, by decide +kernel⟩, by decide⟩
set_option maxRecDepth 20000 in
set_option maxHeartbeats 2000000 in
theorem m_X8_tells {X : gX} {ad : Nat → Nat} {x1 : Int32} {x2 : Int32} {ν : gN} {r : Int32 × gN}  (h : f_X8_tells x1 x2 ν = some r) : h_ct X ad yX8_tells cX8_tells 4 ((Option.some .int)) 5 [.ref (ad 0), .int x1, .int x2] ν (some (.int r.1), r.2) := by
  rw [f_X8_tells] at h
  refine h_ct_of (l := [(0, .ref (ad 0)), (1, .int x1), (2, .int x2)]) (by decide) (Nat.le_of_ble_eq_true rfl) rfl ?_
  refine go_aload_n rfl 0 rfl dX8_tells_0 ?_
  refine h_getr 0 cl6 rfl (by decide) tw_279 1 rfl dX8_tells_1 ?_
  refine go_iload_n rfl 1 rfl dX8_tells_4 ?_
  obtain ⟨r_1, h_2, h⟩ := q_b h
  refine h_callVi (st := []) [.int x1] (m_X4_isPerson isP_1 h_2) me_X4_isPerson (g_recv cl2.1 rfl) tw_386 tw_387 tw_388 (hdd_of (by decide)) ⟨Nat.zero_le _, Nat.zero_le _⟩ rfl rfl (Nat.le_of_ble_eq_true rfl) dX8_tells_5 ?_
  refine go_if_ne (tgt := 17) dX8_tells_8 rfl (fun hc => ?_) (fun hc => ?_)
  · replace h := q_f h hc
    refine go_iload_n rfl 2 rfl dX8_tells_17 ?_
    refine go_if_eq (tgt := 32) dX8_tells_18 rfl (fun hc => ?_) (fun hc => ?_)
    · replace h := q_t h hc
      refine go_aload_n rfl 0 rfl dX8_tells_32 ?_
      refine h_getr 5 cl6 rfl (by decide) tw_284 24 rfl dX8_tells_33 ?_
      refine go_aload_n rfl 0 rfl dX8_tells_36 ?_
      refine h_getr 0 cl6 rfl (by decide) tw_279 1 rfl dX8_tells_37 ?_
      refine h_getlN 7 cl2 rfl (by decide) tw_127 rfl dX8_tells_40 ?_
      obtain ⟨r_3, h_4, h⟩ := q_b h
      refine h_callVv (st := []) [.long (r_1.2.2 1 7)] (m_X7_chart h_4) me_X7_chart (g_recv cl5.1 rfl) tw_632 tw_633 tw_634 (hdd_of (by decide)) ⟨Nat.zero_le _, Nat.zero_le _⟩ rfl rfl (Nat.le_of_ble_eq_true rfl) dX8_tells_43 ?_
      refine go_aload_n rfl 0 rfl dX8_tells_46 ?_
      refine h_getr 1 cl6 rfl (by decide) tw_280 8 rfl dX8_tells_47 ?_
      refine go_aload_n rfl 0 rfl dX8_tells_50 ?_
      refine h_getr 0 cl6 rfl (by decide) tw_279 1 rfl dX8_tells_51 ?_
      obtain ⟨r_5, h_6, h⟩ := q_b h
      refine h_callVv (st := []) [.ref (ad 1)] (m_X4_takeFrom isP_8 isP_1 h_6) me_X4_takeFrom (g_recv cl2.1 rfl) tw_505 tw_506 tw_507 (hdd_of (by decide)) ⟨Nat.zero_le _, Nat.zero_le _⟩ rfl rfl (Nat.le_of_ble_eq_true rfl) dX8_tells_54 ?_
      refine go_aload_n rfl 0 rfl dX8_tells_57 ?_
      refine h_getr 6 cl6 rfl (by decide) tw_285 30 rfl dX8_tells_58 ?_
      refine go_aload_n rfl 0 rfl dX8_tells_61 ?_
      refine h_getr 1 cl6 rfl (by decide) tw_280 8 rfl dX8_tells_62 ?_
      refine go_aload_n rfl 0 rfl dX8_tells_65 ?_
      refine h_getr 5 cl6 rfl (by decide) tw_284 24 rfl dX8_tells_66 ?_
      refine go_iload_n rfl 1 rfl dX8_tells_69 ?_
      obtain ⟨r_7, h_8, h⟩ := q_b h
      refine h_callVv (st := []) [.ref (ad 8), .ref (ad 24), .int x1] (m_X2_trackWants isP_8 h_8) me_X2_trackWants (g_recv cl1.1 rfl) tw_757 tw_758 tw_759 (hdd_of (by decide)) ⟨Nat.zero_le _, Nat.zero_le _⟩ rfl rfl (Nat.le_of_ble_eq_true rfl) dX8_tells_70 ?_
      refine go_aload_n rfl 0 rfl dX8_tells_73 ?_
      refine h_getr 6 cl6 rfl (by decide) tw_285 30 rfl dX8_tells_74 ?_
      obtain ⟨r_9, h_10, h⟩ := q_b h
      refine h_callVi (st := []) [] (m_X2_yardsOfMostTracks h_10) me_X2_yardsOfMostTracks (g_recv cl1.1 rfl) tw_762 tw_763 tw_764 (hdd_of (by decide)) ⟨Nat.zero_le _, Nat.zero_le _⟩ rfl rfl (Nat.le_of_ble_eq_true rfl) dX8_tells_77 ?_
      refine go_istore_n (l' := [(3, .int r_9.1), (0, .ref (ad 0)), (1, .int x1), (2, .int x2)]) dX8_tells_80 rfl (by decide) rfl ?_
      refine go_iload_n rfl 3 rfl dX8_tells_81 ?_
      refine go_if_ne (tgt := 89) dX8_tells_82 rfl (fun hc => ?_) (fun hc => ?_)
      · replace h := q_f h hc
        refine go_aload_n rfl 1 rfl dX8_tells_89 ?_
        refine h_getr 6 cl6 rfl (by decide) tw_285 30 rfl dX8_tells_90 ?_
        refine h_getrN 1 cl1 rfl (by decide) tw_207 32 rfl dX8_tells_93 ?_
        refine go_iload_n rfl 0 rfl dX8_tells_96 ?_
        obtain ⟨hg_11, h⟩ := q_g h
        refine h_lald 31 rfl hg_11 dX8_tells_97 ?_
        obtain ⟨r_12, h_13, h⟩ := q_b h
        refine h_callSi (st := []) [.long (r_9.2.2 32 r_9.1.toNatClampNeg)] (m_J13_bitCount_95d88 h_13) me_J13_bitCount_95d88 tw_772 tw_767 (hdd_of (by decide)) ⟨Nat.zero_le _, Nat.zero_le _⟩ rfl rfl (Nat.le_of_ble_eq_true rfl) dX8_tells_98 ?_
        exact h_iret h dX8_tells_101 rfl
      · replace h := q_t h hc
        refine go_iload_n rfl 0 rfl dX8_tells_85 ?_
        refine go_goto (tgt := 101) dX8_tells_86 rfl ?_
        exact h_iret h dX8_tells_101 rfl
    · replace h := q_f h hc
      refine go_iload_n rfl 2 rfl dX8_tells_21 ?_
      refine go_iconst kz_iconst_1 dX8_tells_22 ?_
      refine go_icmp_eq (tgt := 32) dX8_tells_23 rfl (fun hc => ?_) (fun hc => ?_)
      · replace h := q_t h hc
        refine go_aload_n rfl 0 rfl dX8_tells_32 ?_
        refine h_getr 5 cl6 rfl (by decide) tw_284 24 rfl dX8_tells_33 ?_
        refine go_aload_n rfl 0 rfl dX8_tells_36 ?_
        refine h_getr 0 cl6 rfl (by decide) tw_279 1 rfl dX8_tells_37 ?_
        refine h_getlN 7 cl2 rfl (by decide) tw_127 rfl dX8_tells_40 ?_
        obtain ⟨r_14, h_15, h⟩ := q_b h
        refine h_callVv (st := []) [.long (r_1.2.2 1 7)] (m_X7_chart h_15) me_X7_chart (g_recv cl5.1 rfl) tw_632 tw_633 tw_634 (hdd_of (by decide)) ⟨Nat.zero_le _, Nat.zero_le _⟩ rfl rfl (Nat.le_of_ble_eq_true rfl) dX8_tells_43 ?_
        refine go_aload_n rfl 0 rfl dX8_tells_46 ?_
        refine h_getr 1 cl6 rfl (by decide) tw_280 8 rfl dX8_tells_47 ?_
        refine go_aload_n rfl 0 rfl dX8_tells_50 ?_
        refine h_getr 0 cl6 rfl (by decide) tw_279 1 rfl dX8_tells_51 ?_
        obtain ⟨r_16, h_17, h⟩ := q_b h
        refine h_callVv (st := []) [.ref (ad 1)] (m_X4_takeFrom isP_8 isP_1 h_17) me_X4_takeFrom (g_recv cl2.1 rfl) tw_505 tw_506 tw_507 (hdd_of (by decide)) ⟨Nat.zero_le _, Nat.zero_le _⟩ rfl rfl (Nat.le_of_ble_eq_true rfl) dX8_tells_54 ?_
        refine go_aload_n rfl 0 rfl dX8_tells_57 ?_
        refine h_getr 6 cl6 rfl (by decide) tw_285 30 rfl dX8_tells_58 ?_
        refine go_aload_n rfl 0 rfl dX8_tells_61 ?_
        refine h_getr 1 cl6 rfl (by decide) tw_280 8 rfl dX8_tells_62 ?_
        refine go_aload_n rfl 0 rfl dX8_tells_65 ?_
        refine h_getr 5 cl6 rfl (by decide) tw_284 24 rfl dX8_tells_66 ?_
        refine go_iload_n rfl 1 rfl dX8_tells_69 ?_
        obtain ⟨r_18, h_19, h⟩ := q_b h
        refine h_callVv (st := []) [.ref (ad 8), .ref (ad 24), .int x1] (m_X2_trackWants isP_8 h_19) me_X2_trackWants (g_recv cl1.1 rfl) tw_757 tw_758 tw_759 (hdd_of (by decide)) ⟨Nat.zero_le _, Nat.zero_le _⟩ rfl rfl (Nat.le_of_ble_eq_true rfl) dX8_tells_70 ?_
        refine go_aload_n rfl 0 rfl dX8_tells_73 ?_
        refine h_getr 6 cl6 rfl (by decide) tw_285 30 rfl dX8_tells_74 ?_
        obtain ⟨r_20, h_21, h⟩ := q_b h
        refine h_callVi (st := []) [] (m_X2_yardsOfMostTracks h_21) me_X2_yardsOfMostTracks (g_recv cl1.1 rfl) tw_762 tw_763 tw_764 (hdd_of (by decide)) ⟨Nat.zero_le _, Nat.zero_le _⟩ rfl rfl (Nat.le_of_ble_eq_true rfl) dX8_tells_77 ?_
        refine go_istore_n (l' := [(3, .int r_20.1), (0, .ref (ad 0)), (1, .int x1), (2, .int x2)]) dX8_tells_80 rfl (by decide) rfl ?_
        refine go_iload_n rfl 3 rfl dX8_tells_81 ?_
        refine go_if_ne (tgt := 89) dX8_tells_82 rfl (fun hc => ?_) (fun hc => ?_)
        · replace h := q_f h hc
          refine go_aload_n rfl 1 rfl dX8_tells_89 ?_
          refine h_getr 6 cl6 rfl (by decide) tw_285 30 rfl dX8_tells_90 ?_
          refine h_getrN 1 cl1 rfl (by decide) tw_207 32 rfl dX8_tells_93 ?_
          refine go_iload_n rfl 0 rfl dX8_tells_96 ?_
          obtain ⟨hg_22, h⟩ := q_g h
          refine h_lald 31 rfl hg_22 dX8_tells_97 ?_
          obtain ⟨r_23, h_24, h⟩ := q_b h
          refine h_callSi (st := []) [.long (r_20.2.2 32 r_20.1.toNatClampNeg)] (m_J13_bitCount_95d88 h_24) me_J13_bitCount_95d88 tw_772 tw_767 (hdd_of (by decide)) ⟨Nat.zero_le _, Nat.zero_le _⟩ rfl rfl (Nat.le_of_ble_eq_true rfl) dX8_tells_98 ?_
          exact h_iret h dX8_tells_101 rfl
        · replace h := q_t h hc
          refine go_iload_n rfl 0 rfl dX8_tells_85 ?_
          refine go_goto (tgt := 101) dX8_tells_86 rfl ?_
          exact h_iret h dX8_tells_101 rfl
      · replace h := q_f h hc
        refine go_aload_n rfl 0 rfl dX8_tells_26 ?_
        refine go_iconst kz_iconst_5 dX8_tells_27 ?_
        obtain ⟨r_25, h_26, h⟩ := q_b h
        refine h_callVi (st := []) [.int 5] (m_X8_refuse h_26) me_X8_refuse (g_recv cl6.1 rfl) tw_323 tw_325 tw_0 (hdd_of (by decide)) ⟨Nat.zero_le _, Nat.zero_le _⟩ rfl rfl (Nat.le_of_ble_eq_true rfl) dX8_tells_28 ?_
        exact h_iret h dX8_tells_31 rfl
  · replace h := q_t h hc
    refine go_aload_n rfl 0 rfl dX8_tells_11 ?_
    refine go_iconst kz_iconst_1 dX8_tells_12 ?_
    obtain ⟨r_27, h_28, h⟩ := q_b h
    refine h_callVi (st := []) [.int 1] (m_X8_refuse h_28) me_X8_refuse (g_recv cl6.1 rfl) tw_323 tw_325 tw_0 (hdd_of (by decide)) ⟨Nat.zero_le _, Nat.zero_le _⟩ rfl rfl (Nat.le_of_ble_eq_true rfl) dX8_tells_13 ?_
    exact h_iret h dX8_tells_16 rfl
noncomputable def f_X8_to (x1 : Int32) (x2 : Int32) (ν : gN) : Option (Int32 × gN) :=
  (f_X4_isPerson 1 x1 ν).bind (fun r_1 =>
    if r_1.1 = 0 then
      (f_X8_refuseApart 1 r_1.2).bind (fun r_12 =>
        some (r_12.1, r_12.2))
    else
      (f_X4_isOpen 1 x2 r_1.2).bind (fun r_3 =>
        if r_3.1 = 0 then
          (f_X8_refuseApart 6 r_3.2).bind (fun r_10 =>
            some (r_10.1, r_10.2))
        else
          if inb x1 7 = true then
            (f_X7_spread (r_3.2.2 1 7) (r_3.2.1 6 x1.toNatClampNeg) 28 r_3.2).bind (fun r_6 =>
              if inb x2 49 = true then
                if (r_6.1 28 x2.toNatClampNeg) = 99 then
                  some ((-1), r_6)
                else
                  if inb x2 49 = true then
                    some (r_6.1 28 x2.toNatClampNeg, r_6)
                  else none
              else none)
          else none))
theorem me_X8_to : g_me yX8_to cX8_to 3 ((Option.some .int)) 2 := ⟨tw_721, tw_72, ⟨by decide +kernel, by decide +kernel, by decide +kernel⟩, by decide⟩
set_option maxRecDepth 20000 in
set_option maxHeartbeats 2000000 in
theorem m_X8_to {X : gX} {ad : Nat → Nat} {x1 : Int32} {x2 : Int32} {ν : gN} {r : Int32 × gN}  (h : f_X8_to x1 x2 ν = some r) : h_ct X ad yX8_to cX8_to 3 ((Option.some .int)) 4 [.ref (ad 0), .int x1, .int x2] ν (some (.int r.1), r.2) := by
  rw [f_X8_to] at h
  refine h_ct_of (l := [(0, .ref (ad 0)), (1, .int x1), (2, .int x2)]) (by decide) (Nat.le_of_ble_eq_true rfl) rfl ?_
  refine go_aload_n rfl 0 rfl dX8_to_0 ?_
  refine h_getr 0 cl6 rfl (by decide) tw_279 1 rfl dX8_to_1 ?_
  refine go_iload_n rfl 1 rfl dX8_to_4 ?_
  obtain ⟨r_1, h_2, h⟩ := q_b h
  refine h_callVi (st := []) [.int x1] (m_X4_isPerson isP_1 h_2) me_X4_isPerson (g_recv cl2.1 rfl) tw_386 tw_387 tw_388 (hdd_of (by decide)) ⟨Nat.zero_le _, Nat.zero_le _⟩ rfl rfl (Nat.le_of_ble_eq_true rfl) dX8_to_5 ?_
  refine go_if_ne (tgt := 17) dX8_to_8 rfl (fun hc => ?_) (fun hc => ?_)
  · replace h := q_f h hc
    refine go_aload_n rfl 0 rfl dX8_to_17 ?_
    refine h_getr 0 cl6 rfl (by decide) tw_279 1 rfl dX8_to_18 ?_
    refine go_iload_n rfl 2 rfl dX8_to_21 ?_
    obtain ⟨r_3, h_4, h⟩ := q_b h
    refine h_callVi (st := []) [.int x2] (m_X4_isOpen isP_1 h_4) me_X4_isOpen (g_recv cl2.1 rfl) tw_430 tw_431 tw_432 (hdd_of (by decide)) ⟨Nat.zero_le _, Nat.zero_le _⟩ rfl rfl (Nat.le_of_ble_eq_true rfl) dX8_to_22 ?_
    refine go_if_ne (tgt := 35) dX8_to_25 rfl (fun hc => ?_) (fun hc => ?_)
    · replace h := q_f h hc
      refine go_aload_n rfl 0 rfl dX8_to_35 ?_
      refine h_getr 5 cl6 rfl (by decide) tw_284 24 rfl dX8_to_36 ?_
      refine go_aload_n rfl 0 rfl dX8_to_39 ?_
      refine h_getr 0 cl6 rfl (by decide) tw_279 1 rfl dX8_to_40 ?_
      refine h_getlN 7 cl2 rfl (by decide) tw_127 rfl dX8_to_43 ?_
      refine go_aload_n rfl 0 rfl dX8_to_46 ?_
      refine h_getr 0 cl6 rfl (by decide) tw_279 1 rfl dX8_to_47 ?_
      refine h_getrN 4 cl2 rfl (by decide) tw_119 6 rfl dX8_to_50 ?_
      refine go_iload_n rfl 1 rfl dX8_to_53 ?_
      obtain ⟨hg_5, h⟩ := q_g h
      refine h_iald 7 rfl hg_5 dX8_to_54 ?_
      refine go_aload_n rfl 0 rfl dX8_to_55 ?_
      refine h_getr 5 cl6 rfl (by decide) tw_284 24 rfl dX8_to_56 ?_
      refine h_getrN 3 cl5 rfl (by decide) tw_185 28 rfl dX8_to_59 ?_
      obtain ⟨r_6, h_7, h⟩ := q_b h
      refine h_callVv (st := []) [.long (r_3.2.2 1 7), .int (r_3.2.1 6 x1.toNatClampNeg), .ref (ad 28)] (m_X7_spread rfl h_7) me_X7_spread (g_recv cl5.1 rfl) tw_717 tw_637 tw_638 (hdd_of (by decide)) ⟨Nat.zero_le _, Nat.zero_le _⟩ rfl rfl (Nat.le_of_ble_eq_true rfl) dX8_to_62 ?_
      refine go_aload_n rfl 0 rfl dX8_to_65 ?_
      refine h_getr 5 cl6 rfl (by decide) tw_284 24 rfl dX8_to_66 ?_
      refine h_getrN 3 cl5 rfl (by decide) tw_185 28 rfl dX8_to_69 ?_
      refine go_iload_n rfl 2 rfl dX8_to_72 ?_
      obtain ⟨hg_8, h⟩ := q_g h
      refine h_iald 49 rfl hg_8 dX8_to_73 ?_
      refine go_bipush kz_bipush_99 dX8_to_74 ?_
      refine go_icmp_ne (tgt := 83) dX8_to_76 rfl (fun hc => ?_) (fun hc => ?_)
      · replace h := q_f h hc
        refine go_aload_n rfl 0 rfl dX8_to_83 ?_
        refine h_getr 5 cl6 rfl (by decide) tw_284 24 rfl dX8_to_84 ?_
        refine h_getrN 3 cl5 rfl (by decide) tw_185 28 rfl dX8_to_87 ?_
        refine go_iload_n rfl 2 rfl dX8_to_90 ?_
        obtain ⟨hg_9, h⟩ := q_g h
        refine h_iald 49 rfl hg_9 dX8_to_91 ?_
        exact h_iret h dX8_to_92 rfl
      · replace h := q_t h hc
        refine go_iconst kz_iconst_m1 dX8_to_79 ?_
        refine go_goto (tgt := 92) dX8_to_80 rfl ?_
        exact h_iret h dX8_to_92 rfl
    · replace h := q_t h hc
      refine go_aload_n rfl 0 rfl dX8_to_28 ?_
      refine go_bipush kz_bipush_6 dX8_to_29 ?_
      obtain ⟨r_10, h_11, h⟩ := q_b h
      refine h_callVi (st := []) [.int 6] (m_X8_refuseApart h_11) me_X8_refuseApart (g_recv cl6.1 rfl) tw_713 tw_715 tw_16 (hdd_of (by decide)) ⟨Nat.zero_le _, Nat.zero_le _⟩ rfl rfl (Nat.le_of_ble_eq_true rfl) dX8_to_31 ?_
      exact h_iret h dX8_to_34 rfl
  · replace h := q_t h hc
    refine go_aload_n rfl 0 rfl dX8_to_11 ?_
    refine go_iconst kz_iconst_1 dX8_to_12 ?_
    obtain ⟨r_12, h_13, h⟩ := q_b h
    refine h_callVi (st := []) [.int 1] (m_X8_refuseApart h_13) me_X8_refuseApart (g_recv cl6.1 rfl) tw_713 tw_715 tw_16 (hdd_of (by decide)) ⟨Nat.zero_le _, Nat.zero_le _⟩ rfl rfl (Nat.le_of_ble_eq_true rfl) dX8_to_13 ?_
    exact h_iret h dX8_to_16 rfl
noncomputable def f_X8_trace (x1 : Int32) (ν : gN) : Option (Int32 × gN) :=
  (f_X1_bodyAt x1 ν).bind (fun r_1 =>
    some (r_1.1, r_1.2))
theorem me_X8_trace : g_me yX8_trace cX8_trace 2 ((Option.some .int)) 1 := ⟨tw_885, tw_72, ⟨by decide +kernel, by decide +kernel, by decide +kernel⟩, by decide⟩
set_option maxRecDepth 20000 in
set_option maxHeartbeats 2000000 in
theorem m_X8_trace {X : gX} {ad : Nat → Nat} {x1 : Int32} {ν : gN} {r : Int32 × gN}  (h : f_X8_trace x1 ν = some r) : h_ct X ad yX8_trace cX8_trace 2 ((Option.some .int)) 2 [.ref (ad 0), .int x1] ν (some (.int r.1), r.2) := by
  rw [f_X8_trace] at h
  refine h_ct_of (l := [(0, .ref (ad 0)), (1, .int x1)]) (by decide) (Nat.le_of_ble_eq_true rfl) rfl ?_
  refine go_aload_n rfl 0 rfl dX8_trace_0 ?_
  refine h_getr 8 cl6 rfl (by decide) tw_287 35 rfl dX8_trace_1 ?_
  refine go_iload_n rfl 1 rfl dX8_trace_4 ?_
  obtain ⟨r_1, h_2, h⟩ := q_b h
  refine h_callVi (st := []) [.int x1] (m_X1_bodyAt h_2) me_X1_bodyAt (g_recv cl0.1 rfl) tw_886 tw_887 tw_888 (hdd_of (by decide)) ⟨Nat.zero_le _, Nat.zero_le _⟩ rfl rfl (Nat.le_of_ble_eq_true rfl) dX8_trace_5 ?_
  exact h_iret h dX8_trace_8 rfl
noncomputable def f_X8_vote  (ν : gN) : Option (Int32 × gN) :=
  (f_X7_chart (ν.2 1 7) ν).bind (fun r_1 =>
    (f_X8_holdVote  r_1).bind (fun r_3 =>
      some (r_3.1, r_3.2)))
theorem me_X8_vote : g_me yX8_vote cX8_vote 1 ((Option.some .int)) 0 := ⟨tw_838, tw_72, ⟨by decide +kernel, by decide +kernel, by decide +kernel⟩, by decide⟩
set_option maxRecDepth 20000 in
set_option maxHeartbeats 2000000 in
theorem m_X8_vote {X : gX} {ad : Nat → Nat}  {ν : gN} {r : Int32 × gN}  (h : f_X8_vote  ν = some r) : h_ct X ad yX8_vote cX8_vote 1 ((Option.some .int)) 6 [.ref (ad 0)] ν (some (.int r.1), r.2) := by
  rw [f_X8_vote] at h
  refine h_ct_of (l := [(0, .ref (ad 0))]) (by decide) (Nat.le_of_ble_eq_true rfl) rfl ?_
  refine go_aload_n rfl 0 rfl dX8_vote_0 ?_
  refine h_getr 5 cl6 rfl (by decide) tw_284 24 rfl dX8_vote_1 ?_
  refine go_aload_n rfl 0 rfl dX8_vote_4 ?_
  refine h_getr 0 cl6 rfl (by decide) tw_279 1 rfl dX8_vote_5 ?_
  refine h_getlN 7 cl2 rfl (by decide) tw_127 rfl dX8_vote_8 ?_
  obtain ⟨r_1, h_2, h⟩ := q_b h
  refine h_callVv (st := []) [.long (ν.2 1 7)] (m_X7_chart h_2) me_X7_chart (g_recv cl5.1 rfl) tw_632 tw_633 tw_634 (hdd_of (by decide)) ⟨Nat.zero_le _, Nat.zero_le _⟩ rfl rfl (Nat.le_of_ble_eq_true rfl) dX8_vote_11 ?_
  refine go_aload_n rfl 0 rfl dX8_vote_14 ?_
  obtain ⟨r_3, h_4, h⟩ := q_b h
  refine h_callVi (st := []) [] (m_X8_holdVote h_4) me_X8_holdVote (g_recv cl6.1 rfl) tw_839 tw_841 tw_21 (hdd_of (by decide)) ⟨Nat.zero_le _, Nat.zero_le _⟩ rfl rfl (Nat.le_of_ble_eq_true rfl) dX8_vote_15 ?_
  exact h_iret h dX8_vote_18 rfl
noncomputable def f_X8_wanting_L77 (y1 : Int32) (y2 : Int32) (y3 : Int32) (k159 : Int32 → gN → Option (Int32 × gN)) : Nat → Int32 → Int32 → gN → Option (Int32 × gN)
  | 0, _, _, _ => none
  | n + 1, y4, y5, ν =>
    if 20 < y5 then
      k159 y4 ν
    else
      if inb y1 7 = true then
        qL (nWI ν 11 y1.toNatClampNeg y5) (fun ν_10 =>
          (f_X2_look 8 y2 ν_10).bind (fun r_12 =>
            (f_X2_elect 8 0 r_12).bind (fun r_14 =>
              (f_X8_isIn r_14.1 y1 r_14.2).bind (fun r_16 =>
                if r_16.1 = 0 then
                  f_X8_wanting_L77 y1 y2 y3 k159 n y4 (y5 + 1) r_16.2
                else
                  if y4 = (-1) then
                    f_X8_wanting_L77 y1 y2 y3 k159 n y5 (y5 + 1) r_16.2
                  else
                    if y3 = 1 then
                      f_X8_wanting_L77 y1 y2 y3 k159 n y5 (y5 + 1) r_16.2
                    else
                      f_X8_wanting_L77 y1 y2 y3 k159 n y4 (y5 + 1) r_16.2))))
      else none
noncomputable def f_X8_wanting (x1 : Int32) (x2 : Int32) (x3 : Int32) (ν : gN) : Option (Int32 × gN) :=
  (f_X4_isPerson 1 x1 ν).bind (fun r_1 =>
    if r_1.1 = 0 then
      (f_X8_refuseApart 1 r_1.2).bind (fun r_34 =>
        some (r_34.1, r_34.2))
    else
      if x3 = 0 then
        (f_X8_isAhead x2 r_1.2).bind (fun r_3 =>
          if r_3.1 = 0 then
            (f_X8_refuseApart 6 r_3.2).bind (fun r_20 =>
              some (r_20.1, r_20.2))
          else
            (f_X7_chart (r_3.2.2 1 7) r_3.2).bind (fun r_5 =>
              (f_X4_takeFrom 8 1 r_5).bind (fun r_7 =>
                f_X8_wanting_L77 x1 x2 x3 (fun z4_18 ν_19 =>
                  some (z4_18, ν_19)) FU (-1) 0 r_7)))
      else
        if x3 = 1 then
          (f_X8_isAhead x2 r_1.2).bind (fun r_22 =>
            if r_22.1 = 0 then
              (f_X8_refuseApart 6 r_22.2).bind (fun r_30 =>
                some (r_30.1, r_30.2))
            else
              (f_X7_chart (r_22.2.2 1 7) r_22.2).bind (fun r_24 =>
                (f_X4_takeFrom 8 1 r_24).bind (fun r_26 =>
                  f_X8_wanting_L77 x1 x2 x3 (fun z4_28 ν_29 =>
                    some (z4_28, ν_29)) FU (-1) 0 r_26)))
        else
          (f_X8_refuseApart 5 r_1.2).bind (fun r_32 =>
            some (r_32.1, r_32.2)))
theorem me_X8_wanting : g_me yX8_wanting cX8_wanting 7 ((Option.some .int)) 3 := ⟨tw_730, tw_72, ⟨by decide +kernel, by decide +kernel, by decide +kernel⟩, by decide⟩
set_option maxRecDepth 20000 in
set_option maxHeartbeats 2000000 in
theorem m_X8_wanting_L77 {X : gX} {ad : Nat → Nat} {y1 : Int32} {y2 : Int32} {y3 : Int32} {k159 : Int32 → gN → Option (Int32 × gN)}  : ∀ (n : Nat) (y4 : Int32) (y5 : Int32) (ν : gN) (r : Int32 × gN), f_X8_wanting_L77 y1 y2 y3 k159 n y4 y5 ν = some r → (∀ (z4 : Int32) (ν1 : gN), k159 z4 ν1 = some r → h_go X ad RX8 "wanting" cX8_wanting 7 ((Option.some .int)) 5 (some (.int r.1), r.2) 159 [(4, .int z4)] [] ν1) → h_go X ad RX8 "wanting" cX8_wanting 7 ((Option.some .int)) 5 (some (.int r.1), r.2) 77 [(0, .ref (ad 0)), (1, .int y1), (2, .int y2), (3, .int y3), (4, .int y4), (5, .int y5)] [] ν := by
  intro n
  induction n with
  | zero => intro y4 y5 ν r h hk159; rw [f_X8_wanting_L77] at h; exact q_n h
  | succ n ih =>
    intro y4 y5 ν r h hk159
    rw [f_X8_wanting_L77] at h
    refine go_iload 5 rfl dX8_wanting_77 ?_
    refine go_bipush kz_bipush_20 dX8_wanting_79 ?_
    refine go_icmp_gt (tgt := 159) dX8_wanting_81 rfl (fun hc => ?_) (fun hc => ?_)
    · replace h := q_t h hc
      refine go_sub (l' := [(4, .int y4)]) [4] rfl ?_
      exact hk159 _ _ h
    · replace h := q_f h hc
      refine go_aload_n rfl 0 rfl dX8_wanting_84 ?_
      refine h_getr 1 cl6 rfl (by decide) tw_280 8 rfl dX8_wanting_85 ?_
      refine h_getrN 2 cl2 rfl (by decide) tw_114 11 rfl dX8_wanting_88 ?_
      refine go_iload_n rfl 1 rfl dX8_wanting_91 ?_
      refine go_iload 5 rfl dX8_wanting_92 ?_
      obtain ⟨hg_9, h⟩ := q_g h
      obtain ⟨ν_10, e_11, h⟩ := q_l h
      refine h_iast 7 rfl hg_9 e_11 dX8_wanting_94 ?_
      refine go_aload_n rfl 0 rfl dX8_wanting_95 ?_
      refine h_getr 6 cl6 rfl (by decide) tw_285 30 rfl dX8_wanting_96 ?_
      refine go_aload_n rfl 0 rfl dX8_wanting_99 ?_
      refine h_getr 1 cl6 rfl (by decide) tw_280 8 rfl dX8_wanting_100 ?_
      refine go_aload_n rfl 0 rfl dX8_wanting_103 ?_
      refine h_getr 5 cl6 rfl (by decide) tw_284 24 rfl dX8_wanting_104 ?_
      refine go_iload_n rfl 2 rfl dX8_wanting_107 ?_
      obtain ⟨r_12, h_13, h⟩ := q_b h
      refine h_callVv (st := []) [.ref (ad 8), .ref (ad 24), .int y2] (m_X2_look isP_8 h_13) me_X2_look (g_recv cl1.1 rfl) tw_662 tw_663 tw_664 (hdd_of (by decide)) ⟨Nat.zero_le _, Nat.zero_le _⟩ rfl rfl (Nat.le_of_ble_eq_true rfl) dX8_wanting_108 ?_
      refine go_aload_n rfl 0 rfl dX8_wanting_111 ?_
      refine h_getr 6 cl6 rfl (by decide) tw_285 30 rfl dX8_wanting_112 ?_
      refine go_aload_n rfl 0 rfl dX8_wanting_115 ?_
      refine h_getr 1 cl6 rfl (by decide) tw_280 8 rfl dX8_wanting_116 ?_
      refine go_aload_n rfl 0 rfl dX8_wanting_119 ?_
      refine h_getr 5 cl6 rfl (by decide) tw_284 24 rfl dX8_wanting_120 ?_
      refine go_iconst kz_iconst_0 dX8_wanting_123 ?_
      obtain ⟨r_14, h_15, h⟩ := q_b h
      refine h_callVi (st := []) [.ref (ad 8), .ref (ad 24), .int 0] (m_X2_elect isP_8 h_15) me_X2_elect (g_recv cl1.1 rfl) tw_678 tw_679 tw_680 (hdd_of (by decide)) ⟨Nat.zero_le _, Nat.zero_le _⟩ rfl rfl (Nat.le_of_ble_eq_true rfl) dX8_wanting_124 ?_
      refine go_iload_n rfl 1 rfl dX8_wanting_127 ?_
      obtain ⟨r_16, h_17, h⟩ := q_b h
      refine h_callSi (st := []) [.int r_14.1, .int y1] (m_X8_isIn h_17) me_X8_isIn tw_726 tw_691 (hdd_of (by decide)) ⟨Nat.zero_le _, Nat.zero_le _⟩ rfl rfl (Nat.le_of_ble_eq_true rfl) dX8_wanting_128 ?_
      refine go_istore (l' := [(6, .int r_16.1), (0, .ref (ad 0)), (1, .int y1), (2, .int y2), (3, .int y3), (4, .int y4), (5, .int y5)]) dX8_wanting_131 (by decide) rfl ?_
      refine go_iload 0 rfl dX8_wanting_133 ?_
      refine go_if_eq (tgt := 153) dX8_wanting_135 rfl (fun hc => ?_) (fun hc => ?_)
      · replace h := q_t h hc
        refine h_iinc (l' := [(5, .int (y5 + 1)), (6, .int r_16.1), (0, .ref (ad 0)), (1, .int y1), (2, .int y2), (3, .int y3), (4, .int y4)]) dX8_wanting_153 6 rfl kz_iconst_1 (by decide) rfl ?_
        refine go_goto (tgt := 77) dX8_wanting_156 rfl ?_
        refine go_sub (l' := [(0, .ref (ad 0)), (1, .int y1), (2, .int y2), (3, .int y3), (4, .int y4), (5, .int (y5 + 1))]) [2, 3, 4, 5, 6, 0] rfl ?_
        exact ih _ _ _ _ h hk159
      · replace h := q_f h hc
        refine go_iload 5 rfl dX8_wanting_138 ?_
        refine go_iconst kz_iconst_m1 dX8_wanting_140 ?_
        refine go_icmp_eq (tgt := 149) dX8_wanting_141 rfl (fun hc => ?_) (fun hc => ?_)
        · replace h := q_t h hc
          refine go_iload 6 rfl dX8_wanting_149 ?_
          refine go_istore (l' := [(4, .int y5), (6, .int r_16.1), (0, .ref (ad 0)), (1, .int y1), (2, .int y2), (3, .int y3), (5, .int y5)]) dX8_wanting_151 (by decide) rfl ?_
          refine h_iinc (l' := [(5, .int (y5 + 1)), (4, .int y5), (6, .int r_16.1), (0, .ref (ad 0)), (1, .int y1), (2, .int y2), (3, .int y3)]) dX8_wanting_153 6 rfl kz_iconst_1 (by decide) rfl ?_
          refine go_goto (tgt := 77) dX8_wanting_156 rfl ?_
          refine go_sub (l' := [(0, .ref (ad 0)), (1, .int y1), (2, .int y2), (3, .int y3), (4, .int y5), (5, .int (y5 + 1))]) [3, 4, 5, 6, 1, 0] rfl ?_
          exact ih _ _ _ _ h hk159
        · replace h := q_f h hc
          refine go_iload_n rfl 4 rfl dX8_wanting_144 ?_
          refine go_iconst kz_iconst_1 dX8_wanting_145 ?_
          refine go_icmp_ne (tgt := 153) dX8_wanting_146 rfl (fun hc => ?_) (fun hc => ?_)
          · replace h := q_f h hc
            refine h_iinc (l' := [(5, .int (y5 + 1)), (6, .int r_16.1), (0, .ref (ad 0)), (1, .int y1), (2, .int y2), (3, .int y3), (4, .int y4)]) dX8_wanting_153 6 rfl kz_iconst_1 (by decide) rfl ?_
            refine go_goto (tgt := 77) dX8_wanting_156 rfl ?_
            refine go_sub (l' := [(0, .ref (ad 0)), (1, .int y1), (2, .int y2), (3, .int y3), (4, .int y4), (5, .int (y5 + 1))]) [2, 3, 4, 5, 6, 0] rfl ?_
            exact ih _ _ _ _ h hk159
          · replace h := q_t h hc
            refine go_iload 6 rfl dX8_wanting_149 ?_
            refine go_istore (l' := [(4, .int y5), (6, .int r_16.1), (0, .ref (ad 0)), (1, .int y1), (2, .int y2), (3, .int y3), (5, .int y5)]) dX8_wanting_151 (by decide) rfl ?_
            refine h_iinc (l' := [(5, .int (y5 + 1)), (4, .int y5), (6, .int r_16.1), (0, .ref (ad 0)), (1, .int y1), (2, .int y2), (3, .int y3)]) dX8_wanting_153 6 rfl kz_iconst_1 (by decide) rfl ?_
            refine go_goto (tgt := 77) dX8_wanting_156 rfl ?_
            refine go_sub (l' := [(0, .ref (ad 0)), (1, .int y1), (2, .int y2), (3, .int y3), (4, .int y5), (5, .int (y5 + 1))]) [3, 4, 5, 6, 1, 0] rfl ?_
            exact ih _ _ _ _ h hk159
set_option maxRecDepth 20000 in
set_option maxHeartbeats 2000000 in
theorem m_X8_wanting {X : gX} {ad : Nat → Nat} {x1 : Int32} {x2 : Int32} {x3 : Int32} {ν : gN} {r : Int32 × gN}  (h : f_X8_wanting x1 x2 x3 ν = some r) : h_ct X ad yX8_wanting cX8_wanting 7 ((Option.some .int)) 5 [.ref (ad 0), .int x1, .int x2, .int x3] ν (some (.int r.1), r.2) := by
  rw [f_X8_wanting] at h
  refine h_ct_of (l := [(0, .ref (ad 0)), (1, .int x1), (2, .int x2), (3, .int x3)]) (by decide) (Nat.le_of_ble_eq_true rfl) rfl ?_
  refine go_aload_n rfl 0 rfl dX8_wanting_0 ?_
  refine h_getr 0 cl6 rfl (by decide) tw_279 1 rfl dX8_wanting_1 ?_
  refine go_iload_n rfl 1 rfl dX8_wanting_4 ?_
  obtain ⟨r_1, h_2, h⟩ := q_b h
  refine h_callVi (st := []) [.int x1] (m_X4_isPerson isP_1 h_2) me_X4_isPerson (g_recv cl2.1 rfl) tw_386 tw_387 tw_388 (hdd_of (by decide)) ⟨Nat.zero_le _, Nat.zero_le _⟩ rfl rfl (Nat.le_of_ble_eq_true rfl) dX8_wanting_5 ?_
  refine go_if_ne (tgt := 17) dX8_wanting_8 rfl (fun hc => ?_) (fun hc => ?_)
  · replace h := q_f h hc
    refine go_iload_n rfl 3 rfl dX8_wanting_17 ?_
    refine go_if_eq (tgt := 32) dX8_wanting_18 rfl (fun hc => ?_) (fun hc => ?_)
    · replace h := q_t h hc
      refine go_iload_n rfl 2 rfl dX8_wanting_32 ?_
      obtain ⟨r_3, h_4, h⟩ := q_b h
      refine h_callSi (st := []) [.int x2] (m_X8_isAhead h_4) me_X8_isAhead tw_702 tw_703 (hdd_of (by decide)) ⟨Nat.zero_le _, Nat.zero_le _⟩ rfl rfl (Nat.le_of_ble_eq_true rfl) dX8_wanting_33 ?_
      refine go_if_ne (tgt := 46) dX8_wanting_36 rfl (fun hc => ?_) (fun hc => ?_)
      · replace h := q_f h hc
        refine go_aload_n rfl 0 rfl dX8_wanting_46 ?_
        refine h_getr 5 cl6 rfl (by decide) tw_284 24 rfl dX8_wanting_47 ?_
        refine go_aload_n rfl 0 rfl dX8_wanting_50 ?_
        refine h_getr 0 cl6 rfl (by decide) tw_279 1 rfl dX8_wanting_51 ?_
        refine h_getlN 7 cl2 rfl (by decide) tw_127 rfl dX8_wanting_54 ?_
        obtain ⟨r_5, h_6, h⟩ := q_b h
        refine h_callVv (st := []) [.long (r_3.2.2 1 7)] (m_X7_chart h_6) me_X7_chart (g_recv cl5.1 rfl) tw_632 tw_633 tw_634 (hdd_of (by decide)) ⟨Nat.zero_le _, Nat.zero_le _⟩ rfl rfl (Nat.le_of_ble_eq_true rfl) dX8_wanting_57 ?_
        refine go_aload_n rfl 0 rfl dX8_wanting_60 ?_
        refine h_getr 1 cl6 rfl (by decide) tw_280 8 rfl dX8_wanting_61 ?_
        refine go_aload_n rfl 0 rfl dX8_wanting_64 ?_
        refine h_getr 0 cl6 rfl (by decide) tw_279 1 rfl dX8_wanting_65 ?_
        obtain ⟨r_7, h_8, h⟩ := q_b h
        refine h_callVv (st := []) [.ref (ad 1)] (m_X4_takeFrom isP_8 isP_1 h_8) me_X4_takeFrom (g_recv cl2.1 rfl) tw_505 tw_506 tw_507 (hdd_of (by decide)) ⟨Nat.zero_le _, Nat.zero_le _⟩ rfl rfl (Nat.le_of_ble_eq_true rfl) dX8_wanting_68 ?_
        refine go_iconst kz_iconst_m1 dX8_wanting_71 ?_
        refine go_istore (l' := [(4, .int (-1)), (0, .ref (ad 0)), (1, .int x1), (2, .int x2), (3, .int x3)]) dX8_wanting_72 (by decide) rfl ?_
        refine go_iconst kz_iconst_0 dX8_wanting_74 ?_
        refine go_istore (l' := [(5, .int 0), (4, .int (-1)), (0, .ref (ad 0)), (1, .int x1), (2, .int x2), (3, .int x3)]) dX8_wanting_75 (by decide) rfl ?_
        refine go_sub (l' := [(0, .ref (ad 0)), (1, .int x1), (2, .int x2), (3, .int x3), (4, .int (-1)), (5, .int 0)]) [2, 3, 4, 5, 1, 0] rfl ?_
        refine m_X8_wanting_L77  FU _ _ _ _ h (fun z4_18 ν_19 h => ?_)
        refine go_iload 0 rfl dX8_wanting_159 ?_
        exact h_iret h dX8_wanting_161 rfl
      · replace h := q_t h hc
        refine go_aload_n rfl 0 rfl dX8_wanting_39 ?_
        refine go_bipush kz_bipush_6 dX8_wanting_40 ?_
        obtain ⟨r_20, h_21, h⟩ := q_b h
        refine h_callVi (st := []) [.int 6] (m_X8_refuseApart h_21) me_X8_refuseApart (g_recv cl6.1 rfl) tw_713 tw_715 tw_16 (hdd_of (by decide)) ⟨Nat.zero_le _, Nat.zero_le _⟩ rfl rfl (Nat.le_of_ble_eq_true rfl) dX8_wanting_42 ?_
        exact h_iret h dX8_wanting_45 rfl
    · replace h := q_f h hc
      refine go_iload_n rfl 3 rfl dX8_wanting_21 ?_
      refine go_iconst kz_iconst_1 dX8_wanting_22 ?_
      refine go_icmp_eq (tgt := 32) dX8_wanting_23 rfl (fun hc => ?_) (fun hc => ?_)
      · replace h := q_t h hc
        refine go_iload_n rfl 2 rfl dX8_wanting_32 ?_
        obtain ⟨r_22, h_23, h⟩ := q_b h
        refine h_callSi (st := []) [.int x2] (m_X8_isAhead h_23) me_X8_isAhead tw_702 tw_703 (hdd_of (by decide)) ⟨Nat.zero_le _, Nat.zero_le _⟩ rfl rfl (Nat.le_of_ble_eq_true rfl) dX8_wanting_33 ?_
        refine go_if_ne (tgt := 46) dX8_wanting_36 rfl (fun hc => ?_) (fun hc => ?_)
        · replace h := q_f h hc
          refine go_aload_n rfl 0 rfl dX8_wanting_46 ?_
          refine h_getr 5 cl6 rfl (by decide) tw_284 24 rfl dX8_wanting_47 ?_
          refine go_aload_n rfl 0 rfl dX8_wanting_50 ?_
          refine h_getr 0 cl6 rfl (by decide) tw_279 1 rfl dX8_wanting_51 ?_
          refine h_getlN 7 cl2 rfl (by decide) tw_127 rfl dX8_wanting_54 ?_
          obtain ⟨r_24, h_25, h⟩ := q_b h
          refine h_callVv (st := []) [.long (r_22.2.2 1 7)] (m_X7_chart h_25) me_X7_chart (g_recv cl5.1 rfl) tw_632 tw_633 tw_634 (hdd_of (by decide)) ⟨Nat.zero_le _, Nat.zero_le _⟩ rfl rfl (Nat.le_of_ble_eq_true rfl) dX8_wanting_57 ?_
          refine go_aload_n rfl 0 rfl dX8_wanting_60 ?_
          refine h_getr 1 cl6 rfl (by decide) tw_280 8 rfl dX8_wanting_61 ?_
          refine go_aload_n rfl 0 rfl dX8_wanting_64 ?_
          refine h_getr 0 cl6 rfl (by decide) tw_279 1 rfl dX8_wanting_65 ?_
          obtain ⟨r_26, h_27, h⟩ := q_b h
          refine h_callVv (st := []) [.ref (ad 1)] (m_X4_takeFrom isP_8 isP_1 h_27) me_X4_takeFrom (g_recv cl2.1 rfl) tw_505 tw_506 tw_507 (hdd_of (by decide)) ⟨Nat.zero_le _, Nat.zero_le _⟩ rfl rfl (Nat.le_of_ble_eq_true rfl) dX8_wanting_68 ?_
          refine go_iconst kz_iconst_m1 dX8_wanting_71 ?_
          refine go_istore (l' := [(4, .int (-1)), (0, .ref (ad 0)), (1, .int x1), (2, .int x2), (3, .int x3)]) dX8_wanting_72 (by decide) rfl ?_
          refine go_iconst kz_iconst_0 dX8_wanting_74 ?_
          refine go_istore (l' := [(5, .int 0), (4, .int (-1)), (0, .ref (ad 0)), (1, .int x1), (2, .int x2), (3, .int x3)]) dX8_wanting_75 (by decide) rfl ?_
          refine go_sub (l' := [(0, .ref (ad 0)), (1, .int x1), (2, .int x2), (3, .int x3), (4, .int (-1)), (5, .int 0)]) [2, 3, 4, 5, 1, 0] rfl ?_
          refine m_X8_wanting_L77  FU _ _ _ _ h (fun z4_28 ν_29 h => ?_)
          refine go_iload 0 rfl dX8_wanting_159 ?_
          exact h_iret h dX8_wanting_161 rfl
        · replace h := q_t h hc
          refine go_aload_n rfl 0 rfl dX8_wanting_39 ?_
          refine go_bipush kz_bipush_6 dX8_wanting_40 ?_
          obtain ⟨r_30, h_31, h⟩ := q_b h
          refine h_callVi (st := []) [.int 6] (m_X8_refuseApart h_31) me_X8_refuseApart (g_recv cl6.1 rfl) tw_713 tw_715 tw_16 (hdd_of (by decide)) ⟨Nat.zero_le _, Nat.zero_le _⟩ rfl rfl (Nat.le_of_ble_eq_true rfl) dX8_wanting_42 ?_
          exact h_iret h dX8_wanting_45 rfl
      · replace h := q_f h hc
        refine go_aload_n rfl 0 rfl dX8_wanting_26 ?_
        refine go_iconst kz_iconst_5 dX8_wanting_27 ?_
        obtain ⟨r_32, h_33, h⟩ := q_b h
        refine h_callVi (st := []) [.int 5] (m_X8_refuseApart h_33) me_X8_refuseApart (g_recv cl6.1 rfl) tw_713 tw_715 tw_16 (hdd_of (by decide)) ⟨Nat.zero_le _, Nat.zero_le _⟩ rfl rfl (Nat.le_of_ble_eq_true rfl) dX8_wanting_28 ?_
        exact h_iret h dX8_wanting_31 rfl
  · replace h := q_t h hc
    refine go_aload_n rfl 0 rfl dX8_wanting_11 ?_
    refine go_iconst kz_iconst_1 dX8_wanting_12 ?_
    obtain ⟨r_34, h_35, h⟩ := q_b h
    refine h_callVi (st := []) [.int 1] (m_X8_refuseApart h_35) me_X8_refuseApart (g_recv cl6.1 rfl) tw_713 tw_715 tw_16 (hdd_of (by decide)) ⟨Nat.zero_le _, Nat.zero_le _⟩ rfl rfl (Nat.le_of_ble_eq_true rfl) dX8_wanting_13 ?_
    exact h_iret h dX8_wanting_16 rfl
noncomputable def f_X8_where (x1 : Int32) (x2 : Int32) (ν : gN) : Option (Int32 × gN) :=
  (f_X4_isPerson 1 x1 ν).bind (fun r_1 =>
    if r_1.1 = 0 then
      (f_X8_refuse 1 r_1.2).bind (fun r_10 =>
        some (r_10.1, r_10.2))
    else
      (f_X8_isAhead x2 r_1.2).bind (fun r_3 =>
        if r_3.1 = 0 then
          (f_X8_refuse 6 r_3.2).bind (fun r_8 =>
            some (r_8.1, r_8.2))
        else
          (f_X8_lookAhead x2 r_3.2).bind (fun r_5 =>
            if inb x1 7 = true then
              some (r_5.1 31 x1.toNatClampNeg, r_5)
            else none)))
theorem me_X8_where : g_me yX8_where cX8_where 3 ((Option.some .int)) 2 := ⟨tw_701, tw_72, ⟨by decide +kernel, by decide +kernel, by decide +kernel⟩, by decide⟩
set_option maxRecDepth 20000 in
set_option maxHeartbeats 2000000 in
theorem m_X8_where {X : gX} {ad : Nat → Nat} {x1 : Int32} {x2 : Int32} {ν : gN} {r : Int32 × gN}  (h : f_X8_where x1 x2 ν = some r) : h_ct X ad yX8_where cX8_where 3 ((Option.some .int)) 6 [.ref (ad 0), .int x1, .int x2] ν (some (.int r.1), r.2) := by
  rw [f_X8_where] at h
  refine h_ct_of (l := [(0, .ref (ad 0)), (1, .int x1), (2, .int x2)]) (by decide) (Nat.le_of_ble_eq_true rfl) rfl ?_
  refine go_aload_n rfl 0 rfl dX8_where_0 ?_
  refine h_getr 0 cl6 rfl (by decide) tw_279 1 rfl dX8_where_1 ?_
  refine go_iload_n rfl 1 rfl dX8_where_4 ?_
  obtain ⟨r_1, h_2, h⟩ := q_b h
  refine h_callVi (st := []) [.int x1] (m_X4_isPerson isP_1 h_2) me_X4_isPerson (g_recv cl2.1 rfl) tw_386 tw_387 tw_388 (hdd_of (by decide)) ⟨Nat.zero_le _, Nat.zero_le _⟩ rfl rfl (Nat.le_of_ble_eq_true rfl) dX8_where_5 ?_
  refine go_if_ne (tgt := 17) dX8_where_8 rfl (fun hc => ?_) (fun hc => ?_)
  · replace h := q_f h hc
    refine go_iload_n rfl 2 rfl dX8_where_17 ?_
    obtain ⟨r_3, h_4, h⟩ := q_b h
    refine h_callSi (st := []) [.int x2] (m_X8_isAhead h_4) me_X8_isAhead tw_702 tw_703 (hdd_of (by decide)) ⟨Nat.zero_le _, Nat.zero_le _⟩ rfl rfl (Nat.le_of_ble_eq_true rfl) dX8_where_18 ?_
    refine go_if_ne (tgt := 31) dX8_where_21 rfl (fun hc => ?_) (fun hc => ?_)
    · replace h := q_f h hc
      refine go_aload_n rfl 0 rfl dX8_where_31 ?_
      refine go_iload_n rfl 2 rfl dX8_where_32 ?_
      obtain ⟨r_5, h_6, h⟩ := q_b h
      refine h_callVv (st := []) [.int x2] (m_X8_lookAhead h_6) me_X8_lookAhead (g_recv cl6.1 rfl) tw_658 tw_660 tw_15 (hdd_of (by decide)) ⟨Nat.zero_le _, Nat.zero_le _⟩ rfl rfl (Nat.le_of_ble_eq_true rfl) dX8_where_33 ?_
      refine go_aload_n rfl 0 rfl dX8_where_36 ?_
      refine h_getr 6 cl6 rfl (by decide) tw_285 30 rfl dX8_where_37 ?_
      refine h_getrN 0 cl1 rfl (by decide) tw_205 31 rfl dX8_where_40 ?_
      refine go_iload_n rfl 1 rfl dX8_where_43 ?_
      obtain ⟨hg_7, h⟩ := q_g h
      refine h_iald 7 rfl hg_7 dX8_where_44 ?_
      exact h_iret h dX8_where_45 rfl
    · replace h := q_t h hc
      refine go_aload_n rfl 0 rfl dX8_where_24 ?_
      refine go_bipush kz_bipush_6 dX8_where_25 ?_
      obtain ⟨r_8, h_9, h⟩ := q_b h
      refine h_callVi (st := []) [.int 6] (m_X8_refuse h_9) me_X8_refuse (g_recv cl6.1 rfl) tw_323 tw_325 tw_0 (hdd_of (by decide)) ⟨Nat.zero_le _, Nat.zero_le _⟩ rfl rfl (Nat.le_of_ble_eq_true rfl) dX8_where_27 ?_
      exact h_iret h dX8_where_30 rfl
  · replace h := q_t h hc
    refine go_aload_n rfl 0 rfl dX8_where_11 ?_
    refine go_iconst kz_iconst_1 dX8_where_12 ?_
    obtain ⟨r_10, h_11, h⟩ := q_b h
    refine h_callVi (st := []) [.int 1] (m_X8_refuse h_11) me_X8_refuse (g_recv cl6.1 rfl) tw_323 tw_325 tw_0 (hdd_of (by decide)) ⟨Nat.zero_le _, Nat.zero_le _⟩ rfl rfl (Nat.le_of_ble_eq_true rfl) dX8_where_13 ?_
    exact h_iret h dX8_where_16 rfl
noncomputable def f_X8_who (x1 : Int32) (ν : gN) : Option (Int32 × gN) :=
  if x1 = 0 then
    (f_X8_lookAhead 0 ν).bind (fun r_2 =>
      (f_X2_elect 1 0 r_2).bind (fun r_4 =>
        some (r_4.1, r_4.2)))
  else
  if x1 = 1 then
    (f_X4_smellingAbove 1 (ν.1 1 9) ν).bind (fun r_7 =>
      some (r_7.1, r_7.2))
  else
  if x1 = 2 then
    (f_X4_fleeing 1 ν).bind (fun r_10 =>
      some (r_10.1, r_10.2))
  else
  (f_X8_refuse 5 ν).bind (fun r_12 =>
    some (r_12.1, r_12.2))
theorem me_X8_who : g_me yX8_who cX8_who 2 ((Option.some .int)) 1 := ⟨tw_657, tw_72, ⟨by decide +kernel, by decide +kernel, by decide +kernel⟩, by decide⟩
set_option maxRecDepth 20000 in
set_option maxHeartbeats 2000000 in
theorem m_X8_who {X : gX} {ad : Nat → Nat} {x1 : Int32} {ν : gN} {r : Int32 × gN}  (h : f_X8_who x1 ν = some r) : h_ct X ad yX8_who cX8_who 2 ((Option.some .int)) 6 [.ref (ad 0), .int x1] ν (some (.int r.1), r.2) := by
  rw [f_X8_who] at h
  refine h_ct_of (l := [(0, .ref (ad 0)), (1, .int x1)]) (by decide) (Nat.le_of_ble_eq_true rfl) rfl ?_
  refine go_iload_n rfl 1 rfl dX8_who_0 ?_
  by_cases hk_1 : x1 = 0
  · replace h := q_t h hk_1
    refine h_tbT (tgt := 28) (off := 27) hk_1 dX8_who_1 (by decide) (by decide) rfl rfl ?_
    refine go_aload_n rfl 0 rfl dX8_who_28 ?_
    refine go_iconst kz_iconst_0 dX8_who_29 ?_
    obtain ⟨r_2, h_3, h⟩ := q_b h
    refine h_callVv (st := []) [.int 0] (m_X8_lookAhead h_3) me_X8_lookAhead (g_recv cl6.1 rfl) tw_658 tw_660 tw_15 (hdd_of (by decide)) ⟨Nat.zero_le _, Nat.zero_le _⟩ rfl rfl (Nat.le_of_ble_eq_true rfl) dX8_who_30 ?_
    refine go_aload_n rfl 0 rfl dX8_who_33 ?_
    refine h_getr 6 cl6 rfl (by decide) tw_285 30 rfl dX8_who_34 ?_
    refine go_aload_n rfl 0 rfl dX8_who_37 ?_
    refine h_getr 0 cl6 rfl (by decide) tw_279 1 rfl dX8_who_38 ?_
    refine go_aload_n rfl 0 rfl dX8_who_41 ?_
    refine h_getr 5 cl6 rfl (by decide) tw_284 24 rfl dX8_who_42 ?_
    refine go_iconst kz_iconst_0 dX8_who_45 ?_
    obtain ⟨r_4, h_5, h⟩ := q_b h
    refine h_callVi (st := []) [.ref (ad 1), .ref (ad 24), .int 0] (m_X2_elect isP_1 h_5) me_X2_elect (g_recv cl1.1 rfl) tw_678 tw_679 tw_680 (hdd_of (by decide)) ⟨Nat.zero_le _, Nat.zero_le _⟩ rfl rfl (Nat.le_of_ble_eq_true rfl) dX8_who_46 ?_
    exact h_iret h dX8_who_49 rfl
  replace h := q_f h hk_1
  by_cases hk_6 : x1 = 1
  · replace h := q_t h hk_6
    refine h_tbT (tgt := 50) (off := 49) hk_6 dX8_who_1 (by decide) (by decide) rfl rfl ?_
    refine go_aload_n rfl 0 rfl dX8_who_50 ?_
    refine h_getr 0 cl6 rfl (by decide) tw_279 1 rfl dX8_who_51 ?_
    refine go_aload_n rfl 0 rfl dX8_who_54 ?_
    refine h_getr 0 cl6 rfl (by decide) tw_279 1 rfl dX8_who_55 ?_
    refine h_getiN 9 cl2 rfl (by decide) tw_135 rfl dX8_who_58 ?_
    obtain ⟨r_7, h_8, h⟩ := q_b h
    refine h_callVi (st := []) [.int (ν.1 1 9)] (m_X4_smellingAbove isP_1 h_8) me_X4_smellingAbove (g_recv cl2.1 rfl) tw_693 tw_683 tw_684 (hdd_of (by decide)) ⟨Nat.zero_le _, Nat.zero_le _⟩ rfl rfl (Nat.le_of_ble_eq_true rfl) dX8_who_61 ?_
    exact h_iret h dX8_who_64 rfl
  replace h := q_f h hk_6
  by_cases hk_9 : x1 = 2
  · replace h := q_t h hk_9
    refine h_tbT (tgt := 65) (off := 64) hk_9 dX8_who_1 (by decide) (by decide) rfl rfl ?_
    refine go_aload_n rfl 0 rfl dX8_who_65 ?_
    refine h_getr 0 cl6 rfl (by decide) tw_279 1 rfl dX8_who_66 ?_
    obtain ⟨r_10, h_11, h⟩ := q_b h
    refine h_callVi (st := []) [] (m_X4_fleeing isP_1 h_11) me_X4_fleeing (g_recv cl2.1 rfl) tw_694 tw_695 tw_696 (hdd_of (by decide)) ⟨Nat.zero_le _, Nat.zero_le _⟩ rfl rfl (Nat.le_of_ble_eq_true rfl) dX8_who_69 ?_
    exact h_iret h dX8_who_72 rfl
  replace h := q_f h hk_9
  have hk_1 := h_nT hk_1 (a := 0) (by decide)
  have hk_6 := h_nT hk_6 (a := 1) (by decide)
  have hk_9 := h_nT hk_9 (a := 2) (by decide)
  refine go_tableOut (tgt := 73) dX8_who_1 (by omega) rfl ?_
  refine go_aload_n rfl 0 rfl dX8_who_73 ?_
  refine go_iconst kz_iconst_5 dX8_who_74 ?_
  obtain ⟨r_12, h_13, h⟩ := q_b h
  refine h_callVi (st := []) [.int 5] (m_X8_refuse h_13) me_X8_refuse (g_recv cl6.1 rfl) tw_323 tw_325 tw_0 (hdd_of (by decide)) ⟨Nat.zero_le _, Nat.zero_le _⟩ rfl rfl (Nat.le_of_ble_eq_true rfl) dX8_who_75 ?_
  exact h_iret h dX8_who_78 rfl
noncomputable def f_X8_without (x1 : Int32) (x2 : Int32) (ν : gN) : Option (Int32 × gN) :=
  (f_X4_isPerson 1 x1 ν).bind (fun r_1 =>
    if r_1.1 = 0 then
      (f_X8_refuse 1 r_1.2).bind (fun r_11 =>
        some (r_11.1, r_11.2))
    else
      (f_X8_isAhead x2 r_1.2).bind (fun r_3 =>
        if r_3.1 = 0 then
          (f_X8_refuse 6 r_3.2).bind (fun r_9 =>
            some (r_9.1, r_9.2))
        else
          (f_X8_lookAhead x2 r_3.2).bind (fun r_5 =>
            (f_X2_elect 1 (j_shl 1 x1) r_5).bind (fun r_7 =>
              some (r_7.1, r_7.2)))))
theorem me_X8_without : g_me yX8_without cX8_without 3 ((Option.some .int)) 2 := ⟨tw_734, tw_72, ⟨by decide +kernel, by decide +kernel, by decide +kernel⟩, by decide⟩
set_option maxRecDepth 20000 in
set_option maxHeartbeats 2000000 in
theorem m_X8_without {X : gX} {ad : Nat → Nat} {x1 : Int32} {x2 : Int32} {ν : gN} {r : Int32 × gN}  (h : f_X8_without x1 x2 ν = some r) : h_ct X ad yX8_without cX8_without 3 ((Option.some .int)) 6 [.ref (ad 0), .int x1, .int x2] ν (some (.int r.1), r.2) := by
  rw [f_X8_without] at h
  refine h_ct_of (l := [(0, .ref (ad 0)), (1, .int x1), (2, .int x2)]) (by decide) (Nat.le_of_ble_eq_true rfl) rfl ?_
  refine go_aload_n rfl 0 rfl dX8_without_0 ?_
  refine h_getr 0 cl6 rfl (by decide) tw_279 1 rfl dX8_without_1 ?_
  refine go_iload_n rfl 1 rfl dX8_without_4 ?_
  obtain ⟨r_1, h_2, h⟩ := q_b h
  refine h_callVi (st := []) [.int x1] (m_X4_isPerson isP_1 h_2) me_X4_isPerson (g_recv cl2.1 rfl) tw_386 tw_387 tw_388 (hdd_of (by decide)) ⟨Nat.zero_le _, Nat.zero_le _⟩ rfl rfl (Nat.le_of_ble_eq_true rfl) dX8_without_5 ?_
  refine go_if_ne (tgt := 17) dX8_without_8 rfl (fun hc => ?_) (fun hc => ?_)
  · replace h := q_f h hc
    refine go_iload_n rfl 2 rfl dX8_without_17 ?_
    obtain ⟨r_3, h_4, h⟩ := q_b h
    refine h_callSi (st := []) [.int x2] (m_X8_isAhead h_4) me_X8_isAhead tw_702 tw_703 (hdd_of (by decide)) ⟨Nat.zero_le _, Nat.zero_le _⟩ rfl rfl (Nat.le_of_ble_eq_true rfl) dX8_without_18 ?_
    refine go_if_ne (tgt := 31) dX8_without_21 rfl (fun hc => ?_) (fun hc => ?_)
    · replace h := q_f h hc
      refine go_aload_n rfl 0 rfl dX8_without_31 ?_
      refine go_iload_n rfl 2 rfl dX8_without_32 ?_
      obtain ⟨r_5, h_6, h⟩ := q_b h
      refine h_callVv (st := []) [.int x2] (m_X8_lookAhead h_6) me_X8_lookAhead (g_recv cl6.1 rfl) tw_658 tw_660 tw_15 (hdd_of (by decide)) ⟨Nat.zero_le _, Nat.zero_le _⟩ rfl rfl (Nat.le_of_ble_eq_true rfl) dX8_without_33 ?_
      refine go_aload_n rfl 0 rfl dX8_without_36 ?_
      refine h_getr 6 cl6 rfl (by decide) tw_285 30 rfl dX8_without_37 ?_
      refine go_aload_n rfl 0 rfl dX8_without_40 ?_
      refine h_getr 0 cl6 rfl (by decide) tw_279 1 rfl dX8_without_41 ?_
      refine go_aload_n rfl 0 rfl dX8_without_44 ?_
      refine h_getr 5 cl6 rfl (by decide) tw_284 24 rfl dX8_without_45 ?_
      refine go_iconst kz_iconst_1 dX8_without_48 ?_
      refine go_iload_n rfl 1 rfl dX8_without_49 ?_
      refine h_ishl dX8_without_50 ?_
      obtain ⟨r_7, h_8, h⟩ := q_b h
      refine h_callVi (st := []) [.ref (ad 1), .ref (ad 24), .int (j_shl 1 x1)] (m_X2_elect isP_1 h_8) me_X2_elect (g_recv cl1.1 rfl) tw_678 tw_679 tw_680 (hdd_of (by decide)) ⟨Nat.zero_le _, Nat.zero_le _⟩ rfl rfl (Nat.le_of_ble_eq_true rfl) dX8_without_51 ?_
      exact h_iret h dX8_without_54 rfl
    · replace h := q_t h hc
      refine go_aload_n rfl 0 rfl dX8_without_24 ?_
      refine go_bipush kz_bipush_6 dX8_without_25 ?_
      obtain ⟨r_9, h_10, h⟩ := q_b h
      refine h_callVi (st := []) [.int 6] (m_X8_refuse h_10) me_X8_refuse (g_recv cl6.1 rfl) tw_323 tw_325 tw_0 (hdd_of (by decide)) ⟨Nat.zero_le _, Nat.zero_le _⟩ rfl rfl (Nat.le_of_ble_eq_true rfl) dX8_without_27 ?_
      exact h_iret h dX8_without_30 rfl
  · replace h := q_t h hc
    refine go_aload_n rfl 0 rfl dX8_without_11 ?_
    refine go_iconst kz_iconst_1 dX8_without_12 ?_
    obtain ⟨r_11, h_12, h⟩ := q_b h
    refine h_callVi (st := []) [.int 1] (m_X8_refuse h_12) me_X8_refuse (g_recv cl6.1 rfl) tw_323 tw_325 tw_0 (hdd_of (by decide)) ⟨Nat.zero_le _, Nat.zero_le _⟩ rfl rfl (Nat.le_of_ble_eq_true rfl) dX8_without_13 ?_
    exact h_iret h dX8_without_16 rfl
noncomputable def f_X8_years_L49 (y1 : Int32) (k112 : gN → Option (Int32 × gN)) : Nat → Int32 → gN → Option (Int32 × gN)
  | 0, _, _ => none
  | n + 1, y2, ν =>
    if y1 ≤ y2 then
      k112  ν
    else
      (f_X4_drawBelow 1 (ν.1 1 6) ν).bind (fun r_5 =>
        (f_X4_drawBelow 1 21 r_5.2).bind (fun r_7 =>
          if inb r_5.1 7 = true then
            qL (nWI r_7.2 4 r_5.1.toNatClampNeg r_7.1) (fun ν_10 =>
              (f_X4_drawBelow 1 5 ν_10).bind (fun r_12 =>
                (f_X8_passYards (r_12.1 + 1) r_12.2).bind (fun r_14 =>
                  (f_X8_holdVote  r_14).bind (fun r_16 =>
                    f_X8_years_L49 y1 k112 n (y2 + 1) r_16.2))))
          else none))
noncomputable def f_X8_years (x1 : Int32) (ν : gN) : Option (Int32 × gN) :=
  if (ν.1 1 6) = 0 then
    (f_X8_refuse 5 ν).bind (fun r_21 =>
      some (r_21.1, r_21.2))
  else
    (f_X8_isBetween x1 1 40 ν).bind (fun r_1 =>
      if r_1.1 = 0 then
        (f_X8_refuse 6 r_1.2).bind (fun r_19 =>
          some (r_19.1, r_19.2))
      else
        (f_X7_chart (r_1.2.2 1 7) r_1.2).bind (fun r_3 =>
          f_X8_years_L49 x1 (fun ν_18 =>
            some (ν_18.1 1 11, ν_18)) FU 0 r_3))
theorem me_X8_years : g_me yX8_years cX8_years 4 ((Option.some .int)) 1 := ⟨tw_846, tw_72, ⟨by decide +kernel, by decide +kernel, by decide +kernel⟩, by decide⟩
set_option maxRecDepth 20000 in
set_option maxHeartbeats 2000000 in
theorem m_X8_years_L49 {X : gX} {ad : Nat → Nat} {y1 : Int32} {k112 : gN → Option (Int32 × gN)}  : ∀ (n : Nat) (y2 : Int32) (ν : gN) (r : Int32 × gN), f_X8_years_L49 y1 k112 n y2 ν = some r → (∀ (ν1 : gN), k112 ν1 = some r → h_go X ad RX8 "years" cX8_years 4 ((Option.some .int)) 6 (some (.int r.1), r.2) 112 [(0, .ref (ad 0))] [] ν1) → h_go X ad RX8 "years" cX8_years 4 ((Option.some .int)) 6 (some (.int r.1), r.2) 49 [(0, .ref (ad 0)), (1, .int y1), (2, .int y2)] [] ν := by
  intro n
  induction n with
  | zero => intro y2 ν r h hk112; rw [f_X8_years_L49] at h; exact q_n h
  | succ n ih =>
    intro y2 ν r h hk112
    rw [f_X8_years_L49] at h
    refine go_iload_n rfl 2 rfl dX8_years_49 ?_
    refine go_iload_n rfl 1 rfl dX8_years_50 ?_
    refine go_icmp_ge (tgt := 112) dX8_years_51 rfl (fun hc => ?_) (fun hc => ?_)
    · replace h := q_t h hc
      refine go_sub (l' := [(0, .ref (ad 0))]) [0] rfl ?_
      exact hk112  _ h
    · replace h := q_f h hc
      refine go_aload_n rfl 0 rfl dX8_years_54 ?_
      refine h_getr 0 cl6 rfl (by decide) tw_279 1 rfl dX8_years_55 ?_
      refine go_aload_n rfl 0 rfl dX8_years_58 ?_
      refine h_getr 0 cl6 rfl (by decide) tw_279 1 rfl dX8_years_59 ?_
      refine h_getiN 6 cl2 rfl (by decide) tw_125 rfl dX8_years_62 ?_
      obtain ⟨r_5, h_6, h⟩ := q_b h
      refine h_callVi (st := []) [.int (ν.1 1 6)] (m_X4_drawBelow isP_1 h_6) me_X4_drawBelow (g_recv cl2.1 rfl) tw_847 tw_848 tw_849 (hdd_of (by decide)) ⟨Nat.zero_le _, Nat.zero_le _⟩ rfl rfl (Nat.le_of_ble_eq_true rfl) dX8_years_65 ?_
      refine go_istore_n (l' := [(3, .int r_5.1), (0, .ref (ad 0)), (1, .int y1), (2, .int y2)]) dX8_years_68 rfl (by decide) rfl ?_
      refine go_aload_n rfl 1 rfl dX8_years_69 ?_
      refine h_getr 0 cl6 rfl (by decide) tw_279 1 rfl dX8_years_70 ?_
      refine h_getrN 2 cl2 rfl (by decide) tw_114 4 rfl dX8_years_73 ?_
      refine go_iload_n rfl 0 rfl dX8_years_76 ?_
      refine go_aload_n rfl 1 rfl dX8_years_77 ?_
      refine h_getr 0 cl6 rfl (by decide) tw_279 1 rfl dX8_years_78 ?_
      refine go_bipush kz_bipush_21 dX8_years_81 ?_
      obtain ⟨r_7, h_8, h⟩ := q_b h
      refine h_callVi (st := [.int r_5.1, .ref (ad 4)]) [.int 21] (m_X4_drawBelow isP_1 h_8) me_X4_drawBelow (g_recv cl2.1 rfl) tw_847 tw_848 tw_849 (hdd_of (by decide)) ⟨Nat.zero_le _, Nat.zero_le _⟩ rfl rfl (Nat.le_of_ble_eq_true rfl) dX8_years_83 ?_
      obtain ⟨hg_9, h⟩ := q_g h
      obtain ⟨ν_10, e_11, h⟩ := q_l h
      refine h_iast 7 rfl hg_9 e_11 dX8_years_86 ?_
      refine go_aload_n rfl 1 rfl dX8_years_87 ?_
      refine go_aload_n rfl 1 rfl dX8_years_88 ?_
      refine h_getr 0 cl6 rfl (by decide) tw_279 1 rfl dX8_years_89 ?_
      refine go_iconst kz_iconst_5 dX8_years_92 ?_
      obtain ⟨r_12, h_13, h⟩ := q_b h
      refine h_callVi (st := [.ref (ad 0)]) [.int 5] (m_X4_drawBelow isP_1 h_13) me_X4_drawBelow (g_recv cl2.1 rfl) tw_847 tw_848 tw_849 (hdd_of (by decide)) ⟨Nat.zero_le _, Nat.zero_le _⟩ rfl rfl (Nat.le_of_ble_eq_true rfl) dX8_years_93 ?_
      refine go_iconst kz_iconst_1 dX8_years_96 ?_
      refine go_iadd dX8_years_97 ?_
      obtain ⟨r_14, h_15, h⟩ := q_b h
      refine h_callVv (st := []) [.int (r_12.1 + 1)] (m_X8_passYards h_15) me_X8_passYards (g_recv cl6.1 rfl) tw_831 tw_833 tw_20 (hdd_of (by decide)) ⟨Nat.zero_le _, Nat.zero_le _⟩ rfl rfl (Nat.le_of_ble_eq_true rfl) dX8_years_98 ?_
      refine go_aload_n rfl 1 rfl dX8_years_101 ?_
      obtain ⟨r_16, h_17, h⟩ := q_b h
      refine h_callVi (st := []) [] (m_X8_holdVote h_17) me_X8_holdVote (g_recv cl6.1 rfl) tw_839 tw_841 tw_21 (hdd_of (by decide)) ⟨Nat.zero_le _, Nat.zero_le _⟩ rfl rfl (Nat.le_of_ble_eq_true rfl) dX8_years_102 ?_
      refine go_pop rfl dX8_years_105 ?_
      refine h_iinc (l' := [(2, .int (y2 + 1)), (3, .int r_5.1), (0, .ref (ad 0)), (1, .int y1)]) dX8_years_106 3 rfl kz_iconst_1 (by decide) rfl ?_
      refine go_goto (tgt := 49) dX8_years_109 rfl ?_
      refine go_sub (l' := [(0, .ref (ad 0)), (1, .int y1), (2, .int (y2 + 1))]) [2, 3, 0] rfl ?_
      exact ih _ _ _ h hk112
set_option maxRecDepth 20000 in
set_option maxHeartbeats 2000000 in
theorem m_X8_years {X : gX} {ad : Nat → Nat} {x1 : Int32} {ν : gN} {r : Int32 × gN}  (h : f_X8_years x1 ν = some r) : h_ct X ad yX8_years cX8_years 4 ((Option.some .int)) 6 [.ref (ad 0), .int x1] ν (some (.int r.1), r.2) := by
  rw [f_X8_years] at h
  refine h_ct_of (l := [(0, .ref (ad 0)), (1, .int x1)]) (by decide) (Nat.le_of_ble_eq_true rfl) rfl ?_
  refine go_aload_n rfl 0 rfl dX8_years_0 ?_
  refine h_getr 0 cl6 rfl (by decide) tw_279 1 rfl dX8_years_1 ?_
  refine h_getiN 6 cl2 rfl (by decide) tw_125 rfl dX8_years_4 ?_
  refine go_if_ne (tgt := 16) dX8_years_7 rfl (fun hc => ?_) (fun hc => ?_)
  · replace h := q_f h hc
    refine go_iload_n rfl 1 rfl dX8_years_16 ?_
    refine go_iconst kz_iconst_1 dX8_years_17 ?_
    refine go_bipush kz_bipush_40 dX8_years_18 ?_
    obtain ⟨r_1, h_2, h⟩ := q_b h
    refine h_callSi (st := []) [.int x1, .int 1, .int 40] (m_X8_isBetween h_2) me_X8_isBetween tw_320 tw_321 (hdd_of (by decide)) ⟨Nat.zero_le _, Nat.zero_le _⟩ rfl rfl (Nat.le_of_ble_eq_true rfl) dX8_years_20 ?_
    refine go_if_ne (tgt := 33) dX8_years_23 rfl (fun hc => ?_) (fun hc => ?_)
    · replace h := q_f h hc
      refine go_aload_n rfl 0 rfl dX8_years_33 ?_
      refine h_getr 5 cl6 rfl (by decide) tw_284 24 rfl dX8_years_34 ?_
      refine go_aload_n rfl 0 rfl dX8_years_37 ?_
      refine h_getr 0 cl6 rfl (by decide) tw_279 1 rfl dX8_years_38 ?_
      refine h_getlN 7 cl2 rfl (by decide) tw_127 rfl dX8_years_41 ?_
      obtain ⟨r_3, h_4, h⟩ := q_b h
      refine h_callVv (st := []) [.long (r_1.2.2 1 7)] (m_X7_chart h_4) me_X7_chart (g_recv cl5.1 rfl) tw_632 tw_633 tw_634 (hdd_of (by decide)) ⟨Nat.zero_le _, Nat.zero_le _⟩ rfl rfl (Nat.le_of_ble_eq_true rfl) dX8_years_44 ?_
      refine go_iconst kz_iconst_0 dX8_years_47 ?_
      refine go_istore_n (l' := [(2, .int 0), (0, .ref (ad 0)), (1, .int x1)]) dX8_years_48 rfl (by decide) rfl ?_
      refine go_sub (l' := [(0, .ref (ad 0)), (1, .int x1), (2, .int 0)]) [1, 2, 0] rfl ?_
      refine m_X8_years_L49  FU _ _ _ h (fun ν_18 h => ?_)
      refine go_aload_n rfl 0 rfl dX8_years_112 ?_
      refine h_getr 0 cl6 rfl (by decide) tw_279 1 rfl dX8_years_113 ?_
      refine h_getiN 11 cl2 rfl (by decide) tw_140 rfl dX8_years_116 ?_
      exact h_iret h dX8_years_119 rfl
    · replace h := q_t h hc
      refine go_aload_n rfl 0 rfl dX8_years_26 ?_
      refine go_bipush kz_bipush_6 dX8_years_27 ?_
      obtain ⟨r_19, h_20, h⟩ := q_b h
      refine h_callVi (st := []) [.int 6] (m_X8_refuse h_20) me_X8_refuse (g_recv cl6.1 rfl) tw_323 tw_325 tw_0 (hdd_of (by decide)) ⟨Nat.zero_le _, Nat.zero_le _⟩ rfl rfl (Nat.le_of_ble_eq_true rfl) dX8_years_29 ?_
      exact h_iret h dX8_years_32 rfl
  · replace h := q_t h hc
    refine go_aload_n rfl 0 rfl dX8_years_10 ?_
    refine go_iconst kz_iconst_5 dX8_years_11 ?_
    obtain ⟨r_21, h_22, h⟩ := q_b h
    refine h_callVi (st := []) [.int 5] (m_X8_refuse h_22) me_X8_refuse (g_recv cl6.1 rfl) tw_323 tw_325 tw_0 (hdd_of (by decide)) ⟨Nat.zero_le _, Nat.zero_le _⟩ rfl rfl (Nat.le_of_ble_eq_true rfl) dX8_years_12 ?_
    exact h_iret h dX8_years_15 rfl
