theorem kz_iconst_6 : Int32.ofInt 6 = 6 := by decide
def R_law : String := "SeatsToTheReluctantLaw"
def lw_P (b : Addr) (xs : List Int32) (args : Array Value) (s : State) : Prop := args = #[.ref b] ∧ s.IntsAt b xs ∧ xs.length ≤ 3072 ∧ (Jvm.Cond.and given_1 narrow_1).before args s = true
def lw_Q (_ : Array Value) (s : State) (o : Outcome) (t : State) : Prop := o = .returned (some (.int 1)) ∧ Framed s o t [] 600000 7302250
def lw_Z (below : List Frame) (a : Array Value) (s : State) : State → Prop := fun t => ∃ o, t.status = .running ∧ Ended t below o ∧ lw_Q a s o t
theorem lw_ret {p : Program} {l : Launch} {e : Env} {s : State} {m : MethodId} {below : List Frame} {meth : Method} {c : Code} {args : Array Value} (hx : p.tables.exec = Jvm.exec) (hb : c.code = code) (hr : meth.sig.returnType = ret) (hlocks : meth.locks = false) {pc : Nat} {H : Heap} {ls : Array Slot} (hdg : decode code pc = .ok (.ireturn, 1)) : W p l e room_1 s m args below meth c H [] 600000 7302250 (lw_Z below args s) (F0 m pc ls [.int 1]) := by
  intro T hT X
  obtain ⟨fs, hret, hrun, hended, hW, hframe⟩ := X.leave (v := some (.int 1)) (hlocks := hlocks) (fun h => by rw [hr] at h; cases h)
  have hmeth' : T.vm.method? m = some meth := X.method'
  refine ⟨T.setFrames fs, ?_, .returned (some (.int 1)), hrun, hended, rfl, ⟨_, rfl⟩, hW, hframe⟩
  jvm_step X.here [X.here.top, hx, hb, hdg, hmeth', hr, ret, narrow_b1]
  (try refine ⟨rfl, ?_⟩); (try refine ⟨rfl, ?_⟩)
  first | (intro acts; rw [hret _ acts rfl rfl rfl]) | rw [hret _ _ rfl rfl rfl]
  exact Steps.refl _
def lw_At (p : Program) (s : State) (m : MethodId) (meth : Method) (c : Code) (b L : Nat) (xs : Nat → Int32) : Prop :=
  p.tables.exec = Jvm.exec ∧ c.code = code ∧ meth.sig.returnType = ret ∧ c.maxLocals = 4 ∧ s.vm.findClass R_law = some m.cls ∧ (∀ w ∈ lw_tbl, w.before #[Value.ref b] s = true) ∧ va_X b L xs s s.heap ∧ b < s.heap.size ∧ meth.locks = false ∧ (Jvm.Cond.and given_1 narrow_1).before #[Value.ref b] s = true
def law_Z (X : gX) : List Frame → Array Value → State → State → Prop := fun below args s t => s.heap.size ≤ X.1 → lw_Z below args s t
theorem l_ret {X : gX} {ad : Nat → Nat} {nm : String} {v : Int32} {ν : gN} {r : Int32 × gN} {pc : Nat} {l : List (Nat × Value)} (h1 : r.1 = 1) (h : some (v, ν) = some r) (hd : decode cL_law pc = .ok (.ireturn, 1)) : j_go X ad RL nm cL_law 4 ret room_1 (law_Z X) 73 3815 pc l [.int v] ν := by
  cases h
  have h1 : v = 1 := h1
  subst h1
  intro p la e s m args below meth c H locs ls hx hb hml hown hts hr hlk hnm hE hS hR hlv
  by_cases hB : s.heap.size ≤ X.1
  · have hw : W p la e room_1 s m args below meth c H locs 73 3815 (lw_Z below args s) (F0 m pc ls [.int 1]) := by
      refine va_forget (fun q hq => Nat.le_trans hB (hS.2.2 q hq)) ?_
      refine W.widen (k := 600000) (n := 7302250) (Nat.le_of_ble_eq_true rfl) (Nat.le_of_ble_eq_true rfl) ?_
      exact lw_ret hx hb hr hlk hd
    intro T hT Y
    obtain ⟨t, a, b⟩ := hw T hT Y
    exact ⟨t, a, fun _ => b⟩
  · intro T hT Y
    exact ⟨_, Steps.refl _, fun z => absurd z hB⟩
noncomputable def f_L_law_L18 (Ls : Nat) (xs : Nat → Int32) : Nat → Int32 → gN → Option (Int32 × gN)
  | 0, _, _ => none
  | n + 1, y3, ν =>
    if ((nI Ls) - 6) < y3 then
      some (1, ν)
    else
      if inb y3 Ls = true then
        if ((xs y3.toNatClampNeg) &&& 63) = 0 then
          if inb (y3 + 1) Ls = true then
            if inb (y3 + 2) Ls = true then
              if inb (y3 + 3) Ls = true then
                (f_X8_row (xs (y3 + 1).toNatClampNeg) (xs (y3 + 2).toNatClampNeg) (xs (y3 + 3).toNatClampNeg) ν).bind (fun r_6 =>
                  if inb (y3 + 1) Ls = true then
                    if inb (y3 + 2) Ls = true then
                      if inb (y3 + 3) Ls = true then
                        (f_X9_row (xs (y3 + 1).toNatClampNeg) (xs (y3 + 2).toNatClampNeg) (xs (y3 + 3).toNatClampNeg) r_6.2).bind (fun r_11 =>
                          if r_6.1 = r_11.1 then
                            f_L_law_L18 Ls xs n (y3 + 6) r_11.2
                          else
                            some (0, r_11.2))
                      else none
                    else none
                  else none)
              else none
            else none
          else none
        else
        if ((xs y3.toNatClampNeg) &&& 63) = 1 then
          if inb (y3 + 1) Ls = true then
            if inb (y3 + 2) Ls = true then
              if inb (y3 + 3) Ls = true then
                if inb (y3 + 4) Ls = true then
                  (f_X8_set (xs (y3 + 1).toNatClampNeg) (xs (y3 + 2).toNatClampNeg) ((j_lshl ((xs (y3 + 3).toNatClampNeg).toInt64) 32) ||| (((xs (y3 + 4).toNatClampNeg).toInt64) &&& 4294967295)) ν).bind (fun r_18 =>
                    if inb (y3 + 1) Ls = true then
                      if inb (y3 + 2) Ls = true then
                        if inb (y3 + 3) Ls = true then
                          if inb (y3 + 4) Ls = true then
                            (f_X9_set (xs (y3 + 1).toNatClampNeg) (xs (y3 + 2).toNatClampNeg) ((j_lshl ((xs (y3 + 3).toNatClampNeg).toInt64) 32) ||| (((xs (y3 + 4).toNatClampNeg).toInt64) &&& 4294967295)) r_18.2).bind (fun r_24 =>
                              if r_18.1 = r_24.1 then
                                f_L_law_L18 Ls xs n (y3 + 6) r_24.2
                              else
                                some (0, r_24.2))
                          else none
                        else none
                      else none
                    else none)
                else none
              else none
            else none
          else none
        else
        if ((xs y3.toNatClampNeg) &&& 63) = 2 then
          if inb (y3 + 1) Ls = true then
            if inb (y3 + 2) Ls = true then
              if inb (y3 + 3) Ls = true then
                if inb (y3 + 4) Ls = true then
                  if inb (y3 + 5) Ls = true then
                    (f_X8_copy (xs (y3 + 1).toNatClampNeg) (xs (y3 + 2).toNatClampNeg) (xs (y3 + 3).toNatClampNeg) (xs (y3 + 4).toNatClampNeg) (xs (y3 + 5).toNatClampNeg) ν).bind (fun r_32 =>
                      if inb (y3 + 1) Ls = true then
                        if inb (y3 + 2) Ls = true then
                          if inb (y3 + 3) Ls = true then
                            if inb (y3 + 4) Ls = true then
                              if inb (y3 + 5) Ls = true then
                                (f_X9_copy (xs (y3 + 1).toNatClampNeg) (xs (y3 + 2).toNatClampNeg) (xs (y3 + 3).toNatClampNeg) (xs (y3 + 4).toNatClampNeg) (xs (y3 + 5).toNatClampNeg) r_32.2).bind (fun r_39 =>
                                  if r_32.1 = r_39.1 then
                                    f_L_law_L18 Ls xs n (y3 + 6) r_39.2
                                  else
                                    some (0, r_39.2))
                              else none
                            else none
                          else none
                        else none
                      else none)
                  else none
                else none
              else none
            else none
          else none
        else
        if ((xs y3.toNatClampNeg) &&& 63) = 3 then
          if inb (y3 + 1) Ls = true then
            if inb (y3 + 2) Ls = true then
              (f_X8_element (xs (y3 + 1).toNatClampNeg) (xs (y3 + 2).toNatClampNeg) ν).bind (fun r_44 =>
                if inb (y3 + 1) Ls = true then
                  if inb (y3 + 2) Ls = true then
                    (f_X9_element (xs (y3 + 1).toNatClampNeg) (xs (y3 + 2).toNatClampNeg) r_44.2).bind (fun r_48 =>
                      if (lg_cmp r_44.1 r_48.1) = 0 then
                        f_L_law_L18 Ls xs n (y3 + 6) r_48.2
                      else
                        some (0, r_48.2))
                  else none
                else none)
            else none
          else none
        else
        if ((xs y3.toNatClampNeg) &&& 63) = 4 then
          if inb (y3 + 1) Ls = true then
            if inb (y3 + 2) Ls = true then
              (f_X8_show (xs (y3 + 1).toNatClampNeg) (xs (y3 + 2).toNatClampNeg) ν).bind (fun r_53 =>
                if inb (y3 + 1) Ls = true then
                  if inb (y3 + 2) Ls = true then
                    (f_X9_show (xs (y3 + 1).toNatClampNeg) (xs (y3 + 2).toNatClampNeg) r_53.2).bind (fun r_57 =>
                      if r_53.1 = r_57.1 then
                        f_L_law_L18 Ls xs n (y3 + 6) r_57.2
                      else
                        some (0, r_57.2))
                  else none
                else none)
            else none
          else none
        else
        if ((xs y3.toNatClampNeg) &&& 63) = 5 then
          if inb (y3 + 1) Ls = true then
            (f_X8_holds (xs (y3 + 1).toNatClampNeg) ν).bind (fun r_61 =>
              if inb (y3 + 1) Ls = true then
                (f_X9_holds (xs (y3 + 1).toNatClampNeg) r_61.2).bind (fun r_64 =>
                  if r_61.1 = r_64.1 then
                    f_L_law_L18 Ls xs n (y3 + 6) r_64.2
                  else
                    some (0, r_64.2))
              else none)
          else none
        else
        if ((xs y3.toNatClampNeg) &&& 63) = 6 then
          if inb (y3 + 1) Ls = true then
            if inb (y3 + 2) Ls = true then
              (f_X8_says (xs (y3 + 1).toNatClampNeg) (xs (y3 + 2).toNatClampNeg) ν).bind (fun r_69 =>
                if inb (y3 + 1) Ls = true then
                  if inb (y3 + 2) Ls = true then
                    (f_X9_says (xs (y3 + 1).toNatClampNeg) (xs (y3 + 2).toNatClampNeg) r_69.2).bind (fun r_73 =>
                      if r_69.1 = r_73.1 then
                        f_L_law_L18 Ls xs n (y3 + 6) r_73.2
                      else
                        some (0, r_73.2))
                  else none
                else none)
            else none
          else none
        else
        if ((xs y3.toNatClampNeg) &&& 63) = 7 then
          if inb (y3 + 1) Ls = true then
            if inb (y3 + 2) Ls = true then
              if inb (y3 + 3) Ls = true then
                if inb (y3 + 4) Ls = true then
                  if inb (y3 + 5) Ls = true then
                    (f_X8_person (xs (y3 + 1).toNatClampNeg) (xs (y3 + 2).toNatClampNeg) (xs (y3 + 3).toNatClampNeg) (xs (y3 + 4).toNatClampNeg) (xs (y3 + 5).toNatClampNeg) ν).bind (fun r_81 =>
                      if inb (y3 + 1) Ls = true then
                        if inb (y3 + 2) Ls = true then
                          if inb (y3 + 3) Ls = true then
                            if inb (y3 + 4) Ls = true then
                              if inb (y3 + 5) Ls = true then
                                (f_X9_person (xs (y3 + 1).toNatClampNeg) (xs (y3 + 2).toNatClampNeg) (xs (y3 + 3).toNatClampNeg) (xs (y3 + 4).toNatClampNeg) (xs (y3 + 5).toNatClampNeg) r_81.2).bind (fun r_88 =>
                                  if r_81.1 = r_88.1 then
                                    f_L_law_L18 Ls xs n (y3 + 6) r_88.2
                                  else
                                    some (0, r_88.2))
                              else none
                            else none
                          else none
                        else none
                      else none)
                  else none
                else none
              else none
            else none
          else none
        else
        if ((xs y3.toNatClampNeg) &&& 63) = 8 then
          if inb (y3 + 1) Ls = true then
            if inb (y3 + 2) Ls = true then
              if (xs (y3 + 2).toNatClampNeg) = 0 then
                (f_X8_fence (xs (y3 + 1).toNatClampNeg) 0 ν).bind (fun r_93 =>
                  if inb (y3 + 1) Ls = true then
                    if inb (y3 + 2) Ls = true then
                      if (xs (y3 + 2).toNatClampNeg) = 0 then
                        (f_X9_fence (xs (y3 + 1).toNatClampNeg) 0 r_93.2).bind (fun r_97 =>
                          if r_93.1 = r_97.1 then
                            f_L_law_L18 Ls xs n (y3 + 6) r_97.2
                          else
                            some (0, r_97.2))
                      else
                        (f_X9_fence (xs (y3 + 1).toNatClampNeg) 1 r_93.2).bind (fun r_99 =>
                          if r_93.1 = r_99.1 then
                            f_L_law_L18 Ls xs n (y3 + 6) r_99.2
                          else
                            some (0, r_99.2))
                    else none
                  else none)
              else
                (f_X8_fence (xs (y3 + 1).toNatClampNeg) 1 ν).bind (fun r_101 =>
                  if inb (y3 + 1) Ls = true then
                    if inb (y3 + 2) Ls = true then
                      if (xs (y3 + 2).toNatClampNeg) = 0 then
                        (f_X9_fence (xs (y3 + 1).toNatClampNeg) 0 r_101.2).bind (fun r_105 =>
                          if r_101.1 = r_105.1 then
                            f_L_law_L18 Ls xs n (y3 + 6) r_105.2
                          else
                            some (0, r_105.2))
                      else
                        (f_X9_fence (xs (y3 + 1).toNatClampNeg) 1 r_101.2).bind (fun r_107 =>
                          if r_101.1 = r_107.1 then
                            f_L_law_L18 Ls xs n (y3 + 6) r_107.2
                          else
                            some (0, r_107.2))
                    else none
                  else none)
            else none
          else none
        else
        if ((xs y3.toNatClampNeg) &&& 63) = 9 then
          if inb (y3 + 1) Ls = true then
            if inb (y3 + 2) Ls = true then
              if inb (y3 + 3) Ls = true then
                (f_X8_tell (xs (y3 + 1).toNatClampNeg) (xs (y3 + 2).toNatClampNeg) (xs (y3 + 3).toNatClampNeg) ν).bind (fun r_113 =>
                  if inb (y3 + 1) Ls = true then
                    if inb (y3 + 2) Ls = true then
                      if inb (y3 + 3) Ls = true then
                        (f_X9_tell (xs (y3 + 1).toNatClampNeg) (xs (y3 + 2).toNatClampNeg) (xs (y3 + 3).toNatClampNeg) r_113.2).bind (fun r_118 =>
                          if r_113.1 = r_118.1 then
                            f_L_law_L18 Ls xs n (y3 + 6) r_118.2
                          else
                            some (0, r_118.2))
                      else none
                    else none
                  else none)
              else none
            else none
          else none
        else
        if ((xs y3.toNatClampNeg) &&& 63) = 10 then
          if inb (y3 + 1) Ls = true then
            if inb (y3 + 2) Ls = true then
              (f_X8_ask (xs (y3 + 1).toNatClampNeg) (xs (y3 + 2).toNatClampNeg) ν).bind (fun r_123 =>
                if inb (y3 + 1) Ls = true then
                  if inb (y3 + 2) Ls = true then
                    (f_X9_ask (xs (y3 + 1).toNatClampNeg) (xs (y3 + 2).toNatClampNeg) r_123.2).bind (fun r_127 =>
                      if r_123.1 = r_127.1 then
                        f_L_law_L18 Ls xs n (y3 + 6) r_127.2
                      else
                        some (0, r_127.2))
                  else none
                else none)
            else none
          else none
        else
        if ((xs y3.toNatClampNeg) &&& 63) = 11 then
          if inb (y3 + 1) Ls = true then
            if inb (y3 + 2) Ls = true then
              (f_X8_personOf (xs (y3 + 1).toNatClampNeg) (xs (y3 + 2).toNatClampNeg) ν).bind (fun r_132 =>
                if inb (y3 + 1) Ls = true then
                  if inb (y3 + 2) Ls = true then
                    (f_X9_personOf (xs (y3 + 1).toNatClampNeg) (xs (y3 + 2).toNatClampNeg) r_132.2).bind (fun r_136 =>
                      if r_132.1 = r_136.1 then
                        f_L_law_L18 Ls xs n (y3 + 6) r_136.2
                      else
                        some (0, r_136.2))
                  else none
                else none)
            else none
          else none
        else
        if ((xs y3.toNatClampNeg) &&& 63) = 12 then
          if inb (y3 + 1) Ls = true then
            if inb (y3 + 2) Ls = true then
              (f_X8_squareOf (xs (y3 + 1).toNatClampNeg) (xs (y3 + 2).toNatClampNeg) ν).bind (fun r_141 =>
                if inb (y3 + 1) Ls = true then
                  if inb (y3 + 2) Ls = true then
                    (f_X9_squareOf (xs (y3 + 1).toNatClampNeg) (xs (y3 + 2).toNatClampNeg) r_141.2).bind (fun r_145 =>
                      if r_141.1 = r_145.1 then
                        f_L_law_L18 Ls xs n (y3 + 6) r_145.2
                      else
                        some (0, r_145.2))
                  else none
                else none)
            else none
          else none
        else
        if ((xs y3.toNatClampNeg) &&& 63) = 13 then
          if inb (y3 + 1) Ls = true then
            (f_X8_port (xs (y3 + 1).toNatClampNeg) ν).bind (fun r_149 =>
              if inb (y3 + 1) Ls = true then
                (f_X9_port (xs (y3 + 1).toNatClampNeg) r_149.2).bind (fun r_152 =>
                  if r_149.1 = r_152.1 then
                    f_L_law_L18 Ls xs n (y3 + 6) r_152.2
                  else
                    some (0, r_152.2))
              else none)
          else none
        else
        if ((xs y3.toNatClampNeg) &&& 63) = 14 then
          (f_X8_fault  ν).bind (fun r_155 =>
            (f_X9_fault  r_155.2).bind (fun r_157 =>
              if r_155.1 = r_157.1 then
                f_L_law_L18 Ls xs n (y3 + 6) r_157.2
              else
                some (0, r_157.2)))
        else
        if ((xs y3.toNatClampNeg) &&& 63) = 15 then
          if inb (y3 + 1) Ls = true then
            (f_X8_far (xs (y3 + 1).toNatClampNeg) ν).bind (fun r_161 =>
              if inb (y3 + 1) Ls = true then
                (f_X9_far (xs (y3 + 1).toNatClampNeg) r_161.2).bind (fun r_164 =>
                  if r_161.1 = r_164.1 then
                    f_L_law_L18 Ls xs n (y3 + 6) r_164.2
                  else
                    some (0, r_164.2))
              else none)
          else none
        else
        if ((xs y3.toNatClampNeg) &&& 63) = 16 then
          if inb (y3 + 1) Ls = true then
            (f_X8_who (xs (y3 + 1).toNatClampNeg) ν).bind (fun r_168 =>
              if inb (y3 + 1) Ls = true then
                (f_X9_who (xs (y3 + 1).toNatClampNeg) r_168.2).bind (fun r_171 =>
                  if r_168.1 = r_171.1 then
                    f_L_law_L18 Ls xs n (y3 + 6) r_171.2
                  else
                    some (0, r_171.2))
              else none)
          else none
        else
        if ((xs y3.toNatClampNeg) &&& 63) = 17 then
          if inb (y3 + 1) Ls = true then
            if inb (y3 + 2) Ls = true then
              (f_X8_where (xs (y3 + 1).toNatClampNeg) (xs (y3 + 2).toNatClampNeg) ν).bind (fun r_176 =>
                if inb (y3 + 1) Ls = true then
                  if inb (y3 + 2) Ls = true then
                    (f_X9_where (xs (y3 + 1).toNatClampNeg) (xs (y3 + 2).toNatClampNeg) r_176.2).bind (fun r_180 =>
                      if r_176.1 = r_180.1 then
                        f_L_law_L18 Ls xs n (y3 + 6) r_180.2
                      else
                        some (0, r_180.2))
                  else none
                else none)
            else none
          else none
        else
        if ((xs y3.toNatClampNeg) &&& 63) = 18 then
          if inb (y3 + 1) Ls = true then
            (f_X8_chosen (xs (y3 + 1).toNatClampNeg) ν).bind (fun r_184 =>
              if inb (y3 + 1) Ls = true then
                (f_X9_chosen (xs (y3 + 1).toNatClampNeg) r_184.2).bind (fun r_187 =>
                  if r_184.1 = r_187.1 then
                    f_L_law_L18 Ls xs n (y3 + 6) r_187.2
                  else
                    some (0, r_187.2))
              else none)
          else none
        else
        if ((xs y3.toNatClampNeg) &&& 63) = 19 then
          if inb (y3 + 1) Ls = true then
            if inb (y3 + 2) Ls = true then
              (f_X8_hide (xs (y3 + 1).toNatClampNeg) (xs (y3 + 2).toNatClampNeg) ν).bind (fun r_192 =>
                if inb (y3 + 1) Ls = true then
                  if inb (y3 + 2) Ls = true then
                    (f_X9_hide (xs (y3 + 1).toNatClampNeg) (xs (y3 + 2).toNatClampNeg) r_192.2).bind (fun r_196 =>
                      if r_192.1 = r_196.1 then
                        f_L_law_L18 Ls xs n (y3 + 6) r_196.2
                      else
                        some (0, r_196.2))
                  else none
                else none)
            else none
          else none
        else
        if ((xs y3.toNatClampNeg) &&& 63) = 20 then
          if inb (y3 + 1) Ls = true then
            if inb (y3 + 2) Ls = true then
              (f_X8_to (xs (y3 + 1).toNatClampNeg) (xs (y3 + 2).toNatClampNeg) ν).bind (fun r_201 =>
                if inb (y3 + 1) Ls = true then
                  if inb (y3 + 2) Ls = true then
                    (f_X9_to (xs (y3 + 1).toNatClampNeg) (xs (y3 + 2).toNatClampNeg) r_201.2).bind (fun r_205 =>
                      if r_201.1 = r_205.1 then
                        f_L_law_L18 Ls xs n (y3 + 6) r_205.2
                      else
                        some (0, r_205.2))
                  else none
                else none)
            else none
          else none
        else
        if ((xs y3.toNatClampNeg) &&& 63) = 21 then
          if inb (y3 + 1) Ls = true then
            if inb (y3 + 2) Ls = true then
              (f_X8_spared (xs (y3 + 1).toNatClampNeg) (xs (y3 + 2).toNatClampNeg) ν).bind (fun r_210 =>
                if inb (y3 + 1) Ls = true then
                  if inb (y3 + 2) Ls = true then
                    (f_X9_spared (xs (y3 + 1).toNatClampNeg) (xs (y3 + 2).toNatClampNeg) r_210.2).bind (fun r_214 =>
                      if r_210.1 = r_214.1 then
                        f_L_law_L18 Ls xs n (y3 + 6) r_214.2
                      else
                        some (0, r_214.2))
                  else none
                else none)
            else none
          else none
        else
        if ((xs y3.toNatClampNeg) &&& 63) = 22 then
          if inb (y3 + 1) Ls = true then
            if inb (y3 + 2) Ls = true then
              if inb (y3 + 3) Ls = true then
                (f_X8_wanting (xs (y3 + 1).toNatClampNeg) (xs (y3 + 2).toNatClampNeg) (xs (y3 + 3).toNatClampNeg) ν).bind (fun r_220 =>
                  if inb (y3 + 1) Ls = true then
                    if inb (y3 + 2) Ls = true then
                      if inb (y3 + 3) Ls = true then
                        (f_X9_wanting (xs (y3 + 1).toNatClampNeg) (xs (y3 + 2).toNatClampNeg) (xs (y3 + 3).toNatClampNeg) r_220.2).bind (fun r_225 =>
                          if r_220.1 = r_225.1 then
                            f_L_law_L18 Ls xs n (y3 + 6) r_225.2
                          else
                            some (0, r_225.2))
                      else none
                    else none
                  else none)
              else none
            else none
          else none
        else
        if ((xs y3.toNatClampNeg) &&& 63) = 23 then
          if inb (y3 + 1) Ls = true then
            if inb (y3 + 2) Ls = true then
              (f_X8_without (xs (y3 + 1).toNatClampNeg) (xs (y3 + 2).toNatClampNeg) ν).bind (fun r_230 =>
                if inb (y3 + 1) Ls = true then
                  if inb (y3 + 2) Ls = true then
                    (f_X9_without (xs (y3 + 1).toNatClampNeg) (xs (y3 + 2).toNatClampNeg) r_230.2).bind (fun r_234 =>
                      if r_230.1 = r_234.1 then
                        f_L_law_L18 Ls xs n (y3 + 6) r_234.2
                      else
                        some (0, r_234.2))
                  else none
                else none)
            else none
          else none
        else
        if ((xs y3.toNatClampNeg) &&& 63) = 24 then
          if inb (y3 + 1) Ls = true then
            if inb (y3 + 2) Ls = true then
              if inb (y3 + 3) Ls = true then
                if inb (y3 + 4) Ls = true then
                  (f_X8_fits (xs (y3 + 1).toNatClampNeg) (xs (y3 + 2).toNatClampNeg) (xs (y3 + 3).toNatClampNeg) (xs (y3 + 4).toNatClampNeg) ν).bind (fun r_241 =>
                    if inb (y3 + 1) Ls = true then
                      if inb (y3 + 2) Ls = true then
                        if inb (y3 + 3) Ls = true then
                          if inb (y3 + 4) Ls = true then
                            (f_X9_fits (xs (y3 + 1).toNatClampNeg) (xs (y3 + 2).toNatClampNeg) (xs (y3 + 3).toNatClampNeg) (xs (y3 + 4).toNatClampNeg) r_241.2).bind (fun r_247 =>
                              if r_241.1 = r_247.1 then
                                f_L_law_L18 Ls xs n (y3 + 6) r_247.2
                              else
                                some (0, r_247.2))
                          else none
                        else none
                      else none
                    else none)
                else none
              else none
            else none
          else none
        else
        if ((xs y3.toNatClampNeg) &&& 63) = 25 then
          if inb (y3 + 1) Ls = true then
            if inb (y3 + 2) Ls = true then
              (f_X8_tells (xs (y3 + 1).toNatClampNeg) (xs (y3 + 2).toNatClampNeg) ν).bind (fun r_252 =>
                if inb (y3 + 1) Ls = true then
                  if inb (y3 + 2) Ls = true then
                    (f_X9_tells (xs (y3 + 1).toNatClampNeg) (xs (y3 + 2).toNatClampNeg) r_252.2).bind (fun r_256 =>
                      if r_252.1 = r_256.1 then
                        f_L_law_L18 Ls xs n (y3 + 6) r_256.2
                      else
                        some (0, r_256.2))
                  else none
                else none)
            else none
          else none
        else
        if ((xs y3.toNatClampNeg) &&& 63) = 26 then
          if inb (y3 + 1) Ls = true then
            if inb (y3 + 2) Ls = true then
              (f_X8_power (xs (y3 + 1).toNatClampNeg) (xs (y3 + 2).toNatClampNeg) ν).bind (fun r_261 =>
                if inb (y3 + 1) Ls = true then
                  if inb (y3 + 2) Ls = true then
                    (f_X9_power (xs (y3 + 1).toNatClampNeg) (xs (y3 + 2).toNatClampNeg) r_261.2).bind (fun r_265 =>
                      if r_261.1 = r_265.1 then
                        f_L_law_L18 Ls xs n (y3 + 6) r_265.2
                      else
                        some (0, r_265.2))
                  else none
                else none)
            else none
          else none
        else
        if ((xs y3.toNatClampNeg) &&& 63) = 27 then
          if inb (y3 + 1) Ls = true then
            (f_X8_carries (xs (y3 + 1).toNatClampNeg) ν).bind (fun r_269 =>
              if inb (y3 + 1) Ls = true then
                (f_X9_carries (xs (y3 + 1).toNatClampNeg) r_269.2).bind (fun r_272 =>
                  if r_269.1 = r_272.1 then
                    f_L_law_L18 Ls xs n (y3 + 6) r_272.2
                  else
                    some (0, r_272.2))
              else none)
          else none
        else
        if ((xs y3.toNatClampNeg) &&& 63) = 28 then
          if inb (y3 + 1) Ls = true then
            (f_X8_bell (xs (y3 + 1).toNatClampNeg) ν).bind (fun r_276 =>
              if inb (y3 + 1) Ls = true then
                (f_X9_bell (xs (y3 + 1).toNatClampNeg) r_276.2).bind (fun r_279 =>
                  if r_276.1 = r_279.1 then
                    f_L_law_L18 Ls xs n (y3 + 6) r_279.2
                  else
                    some (0, r_279.2))
              else none)
          else none
        else
        if ((xs y3.toNatClampNeg) &&& 63) = 29 then
          if inb (y3 + 1) Ls = true then
            if inb (y3 + 2) Ls = true then
              (f_X8_crowd (xs (y3 + 1).toNatClampNeg) (xs (y3 + 2).toNatClampNeg) ν).bind (fun r_284 =>
                if inb (y3 + 1) Ls = true then
                  if inb (y3 + 2) Ls = true then
                    (f_X9_crowd (xs (y3 + 1).toNatClampNeg) (xs (y3 + 2).toNatClampNeg) r_284.2).bind (fun r_288 =>
                      if r_284.1 = r_288.1 then
                        f_L_law_L18 Ls xs n (y3 + 6) r_288.2
                      else
                        some (0, r_288.2))
                  else none
                else none)
            else none
          else none
        else
        if ((xs y3.toNatClampNeg) &&& 63) = 30 then
          if inb (y3 + 1) Ls = true then
            if inb (y3 + 2) Ls = true then
              if inb (y3 + 3) Ls = true then
                (f_X8_judge (xs (y3 + 1).toNatClampNeg) (xs (y3 + 2).toNatClampNeg) (xs (y3 + 3).toNatClampNeg) ν).bind (fun r_294 =>
                  if inb (y3 + 1) Ls = true then
                    if inb (y3 + 2) Ls = true then
                      if inb (y3 + 3) Ls = true then
                        (f_X9_judge (xs (y3 + 1).toNatClampNeg) (xs (y3 + 2).toNatClampNeg) (xs (y3 + 3).toNatClampNeg) r_294.2).bind (fun r_299 =>
                          if r_294.1 = r_299.1 then
                            f_L_law_L18 Ls xs n (y3 + 6) r_299.2
                          else
                            some (0, r_299.2))
                      else none
                    else none
                  else none)
              else none
            else none
          else none
        else
        if ((xs y3.toNatClampNeg) &&& 63) = 31 then
          if inb (y3 + 1) Ls = true then
            (f_X8_run (xs (y3 + 1).toNatClampNeg) ν).bind (fun r_303 =>
              if inb (y3 + 1) Ls = true then
                (f_X9_run (xs (y3 + 1).toNatClampNeg) r_303.2).bind (fun r_306 =>
                  if r_303.1 = r_306.1 then
                    f_L_law_L18 Ls xs n (y3 + 6) r_306.2
                  else
                    some (0, r_306.2))
              else none)
          else none
        else
        if ((xs y3.toNatClampNeg) &&& 63) = 32 then
          (f_X8_vote  ν).bind (fun r_309 =>
            (f_X9_vote  r_309.2).bind (fun r_311 =>
              if r_309.1 = r_311.1 then
                f_L_law_L18 Ls xs n (y3 + 6) r_311.2
              else
                some (0, r_311.2)))
        else
        if ((xs y3.toNatClampNeg) &&& 63) = 33 then
          if inb (y3 + 1) Ls = true then
            (f_X8_years (xs (y3 + 1).toNatClampNeg) ν).bind (fun r_315 =>
              if inb (y3 + 1) Ls = true then
                (f_X9_years (xs (y3 + 1).toNatClampNeg) r_315.2).bind (fun r_318 =>
                  if r_315.1 = r_318.1 then
                    f_L_law_L18 Ls xs n (y3 + 6) r_318.2
                  else
                    some (0, r_318.2))
              else none)
          else none
        else
        if ((xs y3.toNatClampNeg) &&& 63) = 34 then
          if inb (y3 + 1) Ls = true then
            (f_X8_seed (xs (y3 + 1).toNatClampNeg) ν).bind (fun r_322 =>
              if inb (y3 + 1) Ls = true then
                (f_X9_seed (xs (y3 + 1).toNatClampNeg) r_322.2).bind (fun r_325 =>
                  if r_322.1 = r_325.1 then
                    f_L_law_L18 Ls xs n (y3 + 6) r_325.2
                  else
                    some (0, r_325.2))
              else none)
          else none
        else
        if ((xs y3.toNatClampNeg) &&& 63) = 35 then
          if inb (y3 + 1) Ls = true then
            if inb (y3 + 2) Ls = true then
              if inb (y3 + 3) Ls = true then
                (f_X8_act (xs (y3 + 1).toNatClampNeg) (xs (y3 + 2).toNatClampNeg) (xs (y3 + 3).toNatClampNeg) ν).bind (fun r_331 =>
                  if inb (y3 + 1) Ls = true then
                    if inb (y3 + 2) Ls = true then
                      if inb (y3 + 3) Ls = true then
                        (f_X9_act (xs (y3 + 1).toNatClampNeg) (xs (y3 + 2).toNatClampNeg) (xs (y3 + 3).toNatClampNeg) r_331.2).bind (fun r_336 =>
                          if r_331.1 = r_336.1 then
                            f_L_law_L18 Ls xs n (y3 + 6) r_336.2
                          else
                            some (0, r_336.2))
                      else none
                    else none
                  else none)
              else none
            else none
          else none
        else
        if ((xs y3.toNatClampNeg) &&& 63) = 36 then
          if inb (y3 + 1) Ls = true then
            (f_X8_trace (xs (y3 + 1).toNatClampNeg) ν).bind (fun r_340 =>
              if inb (y3 + 1) Ls = true then
                (f_X9_trace (xs (y3 + 1).toNatClampNeg) r_340.2).bind (fun r_343 =>
                  if r_340.1 = r_343.1 then
                    f_L_law_L18 Ls xs n (y3 + 6) r_343.2
                  else
                    some (0, r_343.2))
              else none)
          else none
        else
        if ((xs y3.toNatClampNeg) &&& 63) = 37 then
          (f_X8_image  ν).bind (fun r_346 =>
            (f_X9_image  r_346.2).bind (fun r_348 =>
              if r_346.1 = r_348.1 then
                f_L_law_L18 Ls xs n (y3 + 6) r_348.2
              else
                some (0, r_348.2)))
        else
        if ((xs y3.toNatClampNeg) &&& 63) = 38 then
          (f_X8_restore  ν).bind (fun r_351 =>
            (f_X9_restore  r_351.2).bind (fun r_353 =>
              if r_351.1 = r_353.1 then
                f_L_law_L18 Ls xs n (y3 + 6) r_353.2
              else
                some (0, r_353.2)))
        else
        if ((xs y3.toNatClampNeg) &&& 63) = 39 then
          if inb (y3 + 1) Ls = true then
            (f_X8_status (xs (y3 + 1).toNatClampNeg) ν).bind (fun r_357 =>
              if inb (y3 + 1) Ls = true then
                (f_X9_status (xs (y3 + 1).toNatClampNeg) r_357.2).bind (fun r_360 =>
                  if r_357.1 = r_360.1 then
                    f_L_law_L18 Ls xs n (y3 + 6) r_360.2
                  else
                    some (0, r_360.2))
              else none)
          else none
        else
        f_L_law_L18 Ls xs n (y3 + 6) ν
      else none
set_option maxRecDepth 20000 in
set_option maxHeartbeats 20000000 in
theorem m_L_law_L18 {X : gX} {ad : Nat → Nat} {nm : String} : ∀ (n : Nat) (y3 : Int32) (ν : gN) (r : Int32 × gN), f_L_law_L18 X.2.2.2.2.2.2.1 X.2.2.2.2.2.2.2 n y3 ν = some r → r.1 = 1 → j_go X ad RL nm cL_law 4 ret room_1 (law_Z X) 73 3815 18 [(0, .ref X.2.2.2.2.2.1), (1, .ref (ad 0)), (2, .ref (ad 53)), (3, .int y3)] [] ν := by
  intro n
  induction n with
  | zero => intro y3 ν r h h1; rw [f_L_law_L18] at h; exact q_n h
  | succ n ih =>
    intro y3 ν r h h1
    rw [f_L_law_L18] at h
    refine go_iload_n rfl 3 rfl dL_law_18 ?_
    refine go_aload_n rfl 0 rfl dL_law_19 ?_
    refine go_slen dL_law_20 ?_
    refine go_bipush kz_bipush_6 dL_law_21 ?_
    refine go_isub dL_law_23 ?_
    refine go_icmp_gt (tgt := 1521) dL_law_24 rfl (fun hc => ?_) (fun hc => ?_)
    · replace h := q_t h hc
      refine go_iconst kz_iconst_1 dL_law_1521 ?_
      exact l_ret h1 h dL_law_1522
    · replace h := q_f h hc
      refine go_aload_n rfl 0 rfl dL_law_27 ?_
      refine go_iload_n rfl 3 rfl dL_law_28 ?_
      obtain ⟨hg_1, h⟩ := q_g h
      refine go_sld (inb_in hg_1) dL_law_29 ?_
      refine go_bipush kz_bipush_63 dL_law_30 ?_
      refine go_iand dL_law_32 ?_
      by_cases hk_2 : ((X.2.2.2.2.2.2.2 y3.toNatClampNeg) &&& 63) = 0
      · replace h := q_t h hk_2
        refine h_tbT (tgt := 208) (off := 175) hk_2 dL_law_33 (by decide) (by decide) rfl rfl ?_
        refine go_aload_n rfl 1 rfl dL_law_208 ?_
        refine go_aload_n rfl 0 rfl dL_law_209 ?_
        refine go_iload_n rfl 3 rfl dL_law_210 ?_
        refine go_iconst kz_iconst_1 dL_law_211 ?_
        refine go_iadd dL_law_212 ?_
        obtain ⟨hg_3, h⟩ := q_g h
        refine go_sld (inb_in hg_3) dL_law_213 ?_
        refine go_aload_n rfl 0 rfl dL_law_214 ?_
        refine go_iload_n rfl 3 rfl dL_law_215 ?_
        refine go_iconst kz_iconst_2 dL_law_216 ?_
        refine go_iadd dL_law_217 ?_
        obtain ⟨hg_4, h⟩ := q_g h
        refine go_sld (inb_in hg_4) dL_law_218 ?_
        refine go_aload_n rfl 0 rfl dL_law_219 ?_
        refine go_iload_n rfl 3 rfl dL_law_220 ?_
        refine go_iconst kz_iconst_3 dL_law_221 ?_
        refine go_iadd dL_law_222 ?_
        obtain ⟨hg_5, h⟩ := q_g h
        refine go_sld (inb_in hg_5) dL_law_223 ?_
        obtain ⟨r_6, h_7, h⟩ := q_b h
        refine h_callVi (st := []) [.int (X.2.2.2.2.2.2.2 (y3 + 1).toNatClampNeg), .int (X.2.2.2.2.2.2.2 (y3 + 2).toNatClampNeg), .int (X.2.2.2.2.2.2.2 (y3 + 3).toNatClampNeg)] (m_X8_row h_7) me_X8_row (g_recv cl6.1 rfl) tw_313 tw_314 tw_315 (by decide) ⟨by decide, by decide⟩ rfl rfl (Nat.le_of_ble_eq_true rfl) dL_law_224 ?_
        refine go_aload_n rfl 2 rfl dL_law_227 ?_
        refine go_aload_n rfl 0 rfl dL_law_228 ?_
        refine go_iload_n rfl 3 rfl dL_law_229 ?_
        refine go_iconst kz_iconst_1 dL_law_230 ?_
        refine go_iadd dL_law_231 ?_
        obtain ⟨hg_8, h⟩ := q_g h
        refine go_sld (inb_in hg_8) dL_law_232 ?_
        refine go_aload_n rfl 0 rfl dL_law_233 ?_
        refine go_iload_n rfl 3 rfl dL_law_234 ?_
        refine go_iconst kz_iconst_2 dL_law_235 ?_
        refine go_iadd dL_law_236 ?_
        obtain ⟨hg_9, h⟩ := q_g h
        refine go_sld (inb_in hg_9) dL_law_237 ?_
        refine go_aload_n rfl 0 rfl dL_law_238 ?_
        refine go_iload_n rfl 3 rfl dL_law_239 ?_
        refine go_iconst kz_iconst_3 dL_law_240 ?_
        refine go_iadd dL_law_241 ?_
        obtain ⟨hg_10, h⟩ := q_g h
        refine go_sld (inb_in hg_10) dL_law_242 ?_
        obtain ⟨r_11, h_12, h⟩ := q_b h
        refine h_callVi (st := [.int r_6.1]) [.int (X.2.2.2.2.2.2.2 (y3 + 1).toNatClampNeg), .int (X.2.2.2.2.2.2.2 (y3 + 2).toNatClampNeg), .int (X.2.2.2.2.2.2.2 (y3 + 3).toNatClampNeg)] (m_X9_row h_12) me_X9_row (g_recv cl7.1 rfl) tw_1001 tw_1002 tw_1003 (by decide) ⟨by decide, by decide⟩ rfl rfl (Nat.le_of_ble_eq_true rfl) dL_law_243 ?_
        refine go_icmp_eq (tgt := 1515) dL_law_246 rfl (fun hc => ?_) (fun hc => ?_)
        · replace h := q_t h hc
          refine h_iinc (l' := [(3, .int (y3 + 6)), (0, .ref X.2.2.2.2.2.1), (1, .ref (ad 0)), (2, .ref (ad 53))]) dL_law_1515 3 rfl kz_iconst_6 (by decide) rfl ?_
          refine go_goto (tgt := 18) dL_law_1518 rfl ?_
          refine go_sub (l' := [(0, .ref X.2.2.2.2.2.1), (1, .ref (ad 0)), (2, .ref (ad 53)), (3, .int (y3 + 6))]) [1, 2, 3, 0] rfl ?_
          exact ih _ _ _ h h1
        · replace h := q_f h hc
          refine go_iconst kz_iconst_0 dL_law_249 ?_
          exact l_ret h1 h dL_law_250
      replace h := q_f h hk_2
      by_cases hk_13 : ((X.2.2.2.2.2.2.2 y3.toNatClampNeg) &&& 63) = 1
      · replace h := q_t h hk_13
        refine h_tbT (tgt := 251) (off := 218) hk_13 dL_law_33 (by decide) (by decide) rfl rfl ?_
        refine go_aload_n rfl 1 rfl dL_law_251 ?_
        refine go_aload_n rfl 0 rfl dL_law_252 ?_
        refine go_iload_n rfl 3 rfl dL_law_253 ?_
        refine go_iconst kz_iconst_1 dL_law_254 ?_
        refine go_iadd dL_law_255 ?_
        obtain ⟨hg_14, h⟩ := q_g h
        refine go_sld (inb_in hg_14) dL_law_256 ?_
        refine go_aload_n rfl 0 rfl dL_law_257 ?_
        refine go_iload_n rfl 3 rfl dL_law_258 ?_
        refine go_iconst kz_iconst_2 dL_law_259 ?_
        refine go_iadd dL_law_260 ?_
        obtain ⟨hg_15, h⟩ := q_g h
        refine go_sld (inb_in hg_15) dL_law_261 ?_
        refine go_aload_n rfl 0 rfl dL_law_262 ?_
        refine go_iload_n rfl 3 rfl dL_law_263 ?_
        refine go_iconst kz_iconst_3 dL_law_264 ?_
        refine go_iadd dL_law_265 ?_
        obtain ⟨hg_16, h⟩ := q_g h
        refine go_sld (inb_in hg_16) dL_law_266 ?_
        refine go_i2l dL_law_267 ?_
        refine go_bipush kz_bipush_32 dL_law_268 ?_
        refine h_lshl dL_law_270 ?_
        refine go_aload_n rfl 0 rfl dL_law_271 ?_
        refine go_iload_n rfl 3 rfl dL_law_272 ?_
        refine go_iconst kz_iconst_4 dL_law_273 ?_
        refine go_iadd dL_law_274 ?_
        obtain ⟨hg_17, h⟩ := q_g h
        refine go_sld (inb_in hg_17) dL_law_275 ?_
        refine go_i2l dL_law_276 ?_
        refine go_ldc2 (v := 4294967295) tw_1381 dL_law_277 ?_
        refine go_land dL_law_280 ?_
        refine go_lor dL_law_281 ?_
        obtain ⟨r_18, h_19, h⟩ := q_b h
        refine h_callVi (st := []) [.int (X.2.2.2.2.2.2.2 (y3 + 1).toNatClampNeg), .int (X.2.2.2.2.2.2.2 (y3 + 2).toNatClampNeg), .long ((j_lshl ((X.2.2.2.2.2.2.2 (y3 + 3).toNatClampNeg).toInt64) 32) ||| (((X.2.2.2.2.2.2.2 (y3 + 4).toNatClampNeg).toInt64) &&& 4294967295))] (m_X8_set h_19) me_X8_set (g_recv cl6.1 rfl) tw_334 tw_335 tw_336 (by decide) ⟨by decide, by decide⟩ rfl rfl (Nat.le_of_ble_eq_true rfl) dL_law_282 ?_
        refine go_aload_n rfl 2 rfl dL_law_285 ?_
        refine go_aload_n rfl 0 rfl dL_law_286 ?_
        refine go_iload_n rfl 3 rfl dL_law_287 ?_
        refine go_iconst kz_iconst_1 dL_law_288 ?_
        refine go_iadd dL_law_289 ?_
        obtain ⟨hg_20, h⟩ := q_g h
        refine go_sld (inb_in hg_20) dL_law_290 ?_
        refine go_aload_n rfl 0 rfl dL_law_291 ?_
        refine go_iload_n rfl 3 rfl dL_law_292 ?_
        refine go_iconst kz_iconst_2 dL_law_293 ?_
        refine go_iadd dL_law_294 ?_
        obtain ⟨hg_21, h⟩ := q_g h
        refine go_sld (inb_in hg_21) dL_law_295 ?_
        refine go_aload_n rfl 0 rfl dL_law_296 ?_
        refine go_iload_n rfl 3 rfl dL_law_297 ?_
        refine go_iconst kz_iconst_3 dL_law_298 ?_
        refine go_iadd dL_law_299 ?_
        obtain ⟨hg_22, h⟩ := q_g h
        refine go_sld (inb_in hg_22) dL_law_300 ?_
        refine go_i2l dL_law_301 ?_
        refine go_bipush kz_bipush_32 dL_law_302 ?_
        refine h_lshl dL_law_304 ?_
        refine go_aload_n rfl 0 rfl dL_law_305 ?_
        refine go_iload_n rfl 3 rfl dL_law_306 ?_
        refine go_iconst kz_iconst_4 dL_law_307 ?_
        refine go_iadd dL_law_308 ?_
        obtain ⟨hg_23, h⟩ := q_g h
        refine go_sld (inb_in hg_23) dL_law_309 ?_
        refine go_i2l dL_law_310 ?_
        refine go_ldc2 (v := 4294967295) tw_1381 dL_law_311 ?_
        refine go_land dL_law_314 ?_
        refine go_lor dL_law_315 ?_
        obtain ⟨r_24, h_25, h⟩ := q_b h
        refine h_callVi (st := [.int r_18.1]) [.int (X.2.2.2.2.2.2.2 (y3 + 1).toNatClampNeg), .int (X.2.2.2.2.2.2.2 (y3 + 2).toNatClampNeg), .long ((j_lshl ((X.2.2.2.2.2.2.2 (y3 + 3).toNatClampNeg).toInt64) 32) ||| (((X.2.2.2.2.2.2.2 (y3 + 4).toNatClampNeg).toInt64) &&& 4294967295))] (m_X9_set h_25) me_X9_set (g_recv cl7.1 rfl) tw_1012 tw_1013 tw_1014 (by decide) ⟨by decide, by decide⟩ rfl rfl (Nat.le_of_ble_eq_true rfl) dL_law_316 ?_
        refine go_icmp_eq (tgt := 1515) dL_law_319 rfl (fun hc => ?_) (fun hc => ?_)
        · replace h := q_t h hc
          refine h_iinc (l' := [(3, .int (y3 + 6)), (0, .ref X.2.2.2.2.2.1), (1, .ref (ad 0)), (2, .ref (ad 53))]) dL_law_1515 3 rfl kz_iconst_6 (by decide) rfl ?_
          refine go_goto (tgt := 18) dL_law_1518 rfl ?_
          refine go_sub (l' := [(0, .ref X.2.2.2.2.2.1), (1, .ref (ad 0)), (2, .ref (ad 53)), (3, .int (y3 + 6))]) [1, 2, 3, 0] rfl ?_
          exact ih _ _ _ h h1
        · replace h := q_f h hc
          refine go_iconst kz_iconst_0 dL_law_322 ?_
          exact l_ret h1 h dL_law_323
      replace h := q_f h hk_13
      by_cases hk_26 : ((X.2.2.2.2.2.2.2 y3.toNatClampNeg) &&& 63) = 2
      · replace h := q_t h hk_26
        refine h_tbT (tgt := 324) (off := 291) hk_26 dL_law_33 (by decide) (by decide) rfl rfl ?_
        refine go_aload_n rfl 1 rfl dL_law_324 ?_
        refine go_aload_n rfl 0 rfl dL_law_325 ?_
        refine go_iload_n rfl 3 rfl dL_law_326 ?_
        refine go_iconst kz_iconst_1 dL_law_327 ?_
        refine go_iadd dL_law_328 ?_
        obtain ⟨hg_27, h⟩ := q_g h
        refine go_sld (inb_in hg_27) dL_law_329 ?_
        refine go_aload_n rfl 0 rfl dL_law_330 ?_
        refine go_iload_n rfl 3 rfl dL_law_331 ?_
        refine go_iconst kz_iconst_2 dL_law_332 ?_
        refine go_iadd dL_law_333 ?_
        obtain ⟨hg_28, h⟩ := q_g h
        refine go_sld (inb_in hg_28) dL_law_334 ?_
        refine go_aload_n rfl 0 rfl dL_law_335 ?_
        refine go_iload_n rfl 3 rfl dL_law_336 ?_
        refine go_iconst kz_iconst_3 dL_law_337 ?_
        refine go_iadd dL_law_338 ?_
        obtain ⟨hg_29, h⟩ := q_g h
        refine go_sld (inb_in hg_29) dL_law_339 ?_
        refine go_aload_n rfl 0 rfl dL_law_340 ?_
        refine go_iload_n rfl 3 rfl dL_law_341 ?_
        refine go_iconst kz_iconst_4 dL_law_342 ?_
        refine go_iadd dL_law_343 ?_
        obtain ⟨hg_30, h⟩ := q_g h
        refine go_sld (inb_in hg_30) dL_law_344 ?_
        refine go_aload_n rfl 0 rfl dL_law_345 ?_
        refine go_iload_n rfl 3 rfl dL_law_346 ?_
        refine go_iconst kz_iconst_5 dL_law_347 ?_
        refine go_iadd dL_law_348 ?_
        obtain ⟨hg_31, h⟩ := q_g h
        refine go_sld (inb_in hg_31) dL_law_349 ?_
        obtain ⟨r_32, h_33, h⟩ := q_b h
        refine h_callVi (st := []) [.int (X.2.2.2.2.2.2.2 (y3 + 1).toNatClampNeg), .int (X.2.2.2.2.2.2.2 (y3 + 2).toNatClampNeg), .int (X.2.2.2.2.2.2.2 (y3 + 3).toNatClampNeg), .int (X.2.2.2.2.2.2.2 (y3 + 4).toNatClampNeg), .int (X.2.2.2.2.2.2.2 (y3 + 5).toNatClampNeg)] (m_X8_copy h_33) me_X8_copy (g_recv cl6.1 rfl) tw_359 tw_360 tw_361 (by decide) ⟨by decide, by decide⟩ rfl rfl (Nat.le_of_ble_eq_true rfl) dL_law_350 ?_
        refine go_aload_n rfl 2 rfl dL_law_353 ?_
        refine go_aload_n rfl 0 rfl dL_law_354 ?_
        refine go_iload_n rfl 3 rfl dL_law_355 ?_
        refine go_iconst kz_iconst_1 dL_law_356 ?_
        refine go_iadd dL_law_357 ?_
        obtain ⟨hg_34, h⟩ := q_g h
        refine go_sld (inb_in hg_34) dL_law_358 ?_
        refine go_aload_n rfl 0 rfl dL_law_359 ?_
        refine go_iload_n rfl 3 rfl dL_law_360 ?_
        refine go_iconst kz_iconst_2 dL_law_361 ?_
        refine go_iadd dL_law_362 ?_
        obtain ⟨hg_35, h⟩ := q_g h
        refine go_sld (inb_in hg_35) dL_law_363 ?_
        refine go_aload_n rfl 0 rfl dL_law_364 ?_
        refine go_iload_n rfl 3 rfl dL_law_365 ?_
        refine go_iconst kz_iconst_3 dL_law_366 ?_
        refine go_iadd dL_law_367 ?_
        obtain ⟨hg_36, h⟩ := q_g h
        refine go_sld (inb_in hg_36) dL_law_368 ?_
        refine go_aload_n rfl 0 rfl dL_law_369 ?_
        refine go_iload_n rfl 3 rfl dL_law_370 ?_
        refine go_iconst kz_iconst_4 dL_law_371 ?_
        refine go_iadd dL_law_372 ?_
        obtain ⟨hg_37, h⟩ := q_g h
        refine go_sld (inb_in hg_37) dL_law_373 ?_
        refine go_aload_n rfl 0 rfl dL_law_374 ?_
        refine go_iload_n rfl 3 rfl dL_law_375 ?_
        refine go_iconst kz_iconst_5 dL_law_376 ?_
        refine go_iadd dL_law_377 ?_
        obtain ⟨hg_38, h⟩ := q_g h
        refine go_sld (inb_in hg_38) dL_law_378 ?_
        obtain ⟨r_39, h_40, h⟩ := q_b h
        refine h_callVi (st := [.int r_32.1]) [.int (X.2.2.2.2.2.2.2 (y3 + 1).toNatClampNeg), .int (X.2.2.2.2.2.2.2 (y3 + 2).toNatClampNeg), .int (X.2.2.2.2.2.2.2 (y3 + 3).toNatClampNeg), .int (X.2.2.2.2.2.2.2 (y3 + 4).toNatClampNeg), .int (X.2.2.2.2.2.2.2 (y3 + 5).toNatClampNeg)] (m_X9_copy h_40) me_X9_copy (g_recv cl7.1 rfl) tw_1024 tw_1025 tw_1026 (by decide) ⟨by decide, by decide⟩ rfl rfl (Nat.le_of_ble_eq_true rfl) dL_law_379 ?_
        refine go_icmp_eq (tgt := 1515) dL_law_382 rfl (fun hc => ?_) (fun hc => ?_)
        · replace h := q_t h hc
          refine h_iinc (l' := [(3, .int (y3 + 6)), (0, .ref X.2.2.2.2.2.1), (1, .ref (ad 0)), (2, .ref (ad 53))]) dL_law_1515 3 rfl kz_iconst_6 (by decide) rfl ?_
          refine go_goto (tgt := 18) dL_law_1518 rfl ?_
          refine go_sub (l' := [(0, .ref X.2.2.2.2.2.1), (1, .ref (ad 0)), (2, .ref (ad 53)), (3, .int (y3 + 6))]) [1, 2, 3, 0] rfl ?_
          exact ih _ _ _ h h1
        · replace h := q_f h hc
          refine go_iconst kz_iconst_0 dL_law_385 ?_
          exact l_ret h1 h dL_law_386
      replace h := q_f h hk_26
      by_cases hk_41 : ((X.2.2.2.2.2.2.2 y3.toNatClampNeg) &&& 63) = 3
      · replace h := q_t h hk_41
        refine h_tbT (tgt := 387) (off := 354) hk_41 dL_law_33 (by decide) (by decide) rfl rfl ?_
        refine go_aload_n rfl 1 rfl dL_law_387 ?_
        refine go_aload_n rfl 0 rfl dL_law_388 ?_
        refine go_iload_n rfl 3 rfl dL_law_389 ?_
        refine go_iconst kz_iconst_1 dL_law_390 ?_
        refine go_iadd dL_law_391 ?_
        obtain ⟨hg_42, h⟩ := q_g h
        refine go_sld (inb_in hg_42) dL_law_392 ?_
        refine go_aload_n rfl 0 rfl dL_law_393 ?_
        refine go_iload_n rfl 3 rfl dL_law_394 ?_
        refine go_iconst kz_iconst_2 dL_law_395 ?_
        refine go_iadd dL_law_396 ?_
        obtain ⟨hg_43, h⟩ := q_g h
        refine go_sld (inb_in hg_43) dL_law_397 ?_
        obtain ⟨r_44, h_45, h⟩ := q_b h
        refine h_callVl (st := []) [.int (X.2.2.2.2.2.2.2 (y3 + 1).toNatClampNeg), .int (X.2.2.2.2.2.2.2 (y3 + 2).toNatClampNeg)] (m_X8_element h_45) me_X8_element (g_recv cl6.1 rfl) tw_373 tw_374 tw_375 (by decide) ⟨by decide, by decide⟩ rfl rfl (Nat.le_of_ble_eq_true rfl) dL_law_398 ?_
        refine go_aload_n rfl 2 rfl dL_law_401 ?_
        refine go_aload_n rfl 0 rfl dL_law_402 ?_
        refine go_iload_n rfl 3 rfl dL_law_403 ?_
        refine go_iconst kz_iconst_1 dL_law_404 ?_
        refine go_iadd dL_law_405 ?_
        obtain ⟨hg_46, h⟩ := q_g h
        refine go_sld (inb_in hg_46) dL_law_406 ?_
        refine go_aload_n rfl 0 rfl dL_law_407 ?_
        refine go_iload_n rfl 3 rfl dL_law_408 ?_
        refine go_iconst kz_iconst_2 dL_law_409 ?_
        refine go_iadd dL_law_410 ?_
        obtain ⟨hg_47, h⟩ := q_g h
        refine go_sld (inb_in hg_47) dL_law_411 ?_
        obtain ⟨r_48, h_49, h⟩ := q_b h
        refine h_callVl (st := [.long r_44.1]) [.int (X.2.2.2.2.2.2.2 (y3 + 1).toNatClampNeg), .int (X.2.2.2.2.2.2.2 (y3 + 2).toNatClampNeg)] (m_X9_element h_49) me_X9_element (g_recv cl7.1 rfl) tw_1028 tw_1029 tw_1030 (by decide) ⟨by decide, by decide⟩ rfl rfl (Nat.le_of_ble_eq_true rfl) dL_law_412 ?_
        refine go_lcmp dL_law_415 ?_
        refine go_if_eq (tgt := 1515) dL_law_416 rfl (fun hc => ?_) (fun hc => ?_)
        · replace h := q_t h hc
          refine h_iinc (l' := [(3, .int (y3 + 6)), (0, .ref X.2.2.2.2.2.1), (1, .ref (ad 0)), (2, .ref (ad 53))]) dL_law_1515 3 rfl kz_iconst_6 (by decide) rfl ?_
          refine go_goto (tgt := 18) dL_law_1518 rfl ?_
          refine go_sub (l' := [(0, .ref X.2.2.2.2.2.1), (1, .ref (ad 0)), (2, .ref (ad 53)), (3, .int (y3 + 6))]) [1, 2, 3, 0] rfl ?_
          exact ih _ _ _ h h1
        · replace h := q_f h hc
          refine go_iconst kz_iconst_0 dL_law_419 ?_
          exact l_ret h1 h dL_law_420
      replace h := q_f h hk_41
      by_cases hk_50 : ((X.2.2.2.2.2.2.2 y3.toNatClampNeg) &&& 63) = 4
      · replace h := q_t h hk_50
        refine h_tbT (tgt := 421) (off := 388) hk_50 dL_law_33 (by decide) (by decide) rfl rfl ?_
        refine go_aload_n rfl 1 rfl dL_law_421 ?_
        refine go_aload_n rfl 0 rfl dL_law_422 ?_
        refine go_iload_n rfl 3 rfl dL_law_423 ?_
        refine go_iconst kz_iconst_1 dL_law_424 ?_
        refine go_iadd dL_law_425 ?_
        obtain ⟨hg_51, h⟩ := q_g h
        refine go_sld (inb_in hg_51) dL_law_426 ?_
        refine go_aload_n rfl 0 rfl dL_law_427 ?_
        refine go_iload_n rfl 3 rfl dL_law_428 ?_
        refine go_iconst kz_iconst_2 dL_law_429 ?_
        refine go_iadd dL_law_430 ?_
        obtain ⟨hg_52, h⟩ := q_g h
        refine go_sld (inb_in hg_52) dL_law_431 ?_
        obtain ⟨r_53, h_54, h⟩ := q_b h
        refine h_callVi (st := []) [.int (X.2.2.2.2.2.2.2 (y3 + 1).toNatClampNeg), .int (X.2.2.2.2.2.2.2 (y3 + 2).toNatClampNeg)] (m_X8_show h_54) me_X8_show (g_recv cl6.1 rfl) tw_382 tw_383 tw_384 (by decide) ⟨by decide, by decide⟩ rfl rfl (Nat.le_of_ble_eq_true rfl) dL_law_432 ?_
        refine go_aload_n rfl 2 rfl dL_law_435 ?_
        refine go_aload_n rfl 0 rfl dL_law_436 ?_
        refine go_iload_n rfl 3 rfl dL_law_437 ?_
        refine go_iconst kz_iconst_1 dL_law_438 ?_
        refine go_iadd dL_law_439 ?_
        obtain ⟨hg_55, h⟩ := q_g h
        refine go_sld (inb_in hg_55) dL_law_440 ?_
        refine go_aload_n rfl 0 rfl dL_law_441 ?_
        refine go_iload_n rfl 3 rfl dL_law_442 ?_
        refine go_iconst kz_iconst_2 dL_law_443 ?_
        refine go_iadd dL_law_444 ?_
        obtain ⟨hg_56, h⟩ := q_g h
        refine go_sld (inb_in hg_56) dL_law_445 ?_
        obtain ⟨r_57, h_58, h⟩ := q_b h
        refine h_callVi (st := [.int r_53.1]) [.int (X.2.2.2.2.2.2.2 (y3 + 1).toNatClampNeg), .int (X.2.2.2.2.2.2.2 (y3 + 2).toNatClampNeg)] (m_X9_show h_58) me_X9_show (g_recv cl7.1 rfl) tw_1032 tw_1033 tw_1034 (by decide) ⟨by decide, by decide⟩ rfl rfl (Nat.le_of_ble_eq_true rfl) dL_law_446 ?_
        refine go_icmp_eq (tgt := 1515) dL_law_449 rfl (fun hc => ?_) (fun hc => ?_)
        · replace h := q_t h hc
          refine h_iinc (l' := [(3, .int (y3 + 6)), (0, .ref X.2.2.2.2.2.1), (1, .ref (ad 0)), (2, .ref (ad 53))]) dL_law_1515 3 rfl kz_iconst_6 (by decide) rfl ?_
          refine go_goto (tgt := 18) dL_law_1518 rfl ?_
          refine go_sub (l' := [(0, .ref X.2.2.2.2.2.1), (1, .ref (ad 0)), (2, .ref (ad 53)), (3, .int (y3 + 6))]) [1, 2, 3, 0] rfl ?_
          exact ih _ _ _ h h1
        · replace h := q_f h hc
          refine go_iconst kz_iconst_0 dL_law_452 ?_
          exact l_ret h1 h dL_law_453
      replace h := q_f h hk_50
      by_cases hk_59 : ((X.2.2.2.2.2.2.2 y3.toNatClampNeg) &&& 63) = 5
      · replace h := q_t h hk_59
        refine h_tbT (tgt := 454) (off := 421) hk_59 dL_law_33 (by decide) (by decide) rfl rfl ?_
        refine go_aload_n rfl 1 rfl dL_law_454 ?_
        refine go_aload_n rfl 0 rfl dL_law_455 ?_
        refine go_iload_n rfl 3 rfl dL_law_456 ?_
        refine go_iconst kz_iconst_1 dL_law_457 ?_
        refine go_iadd dL_law_458 ?_
        obtain ⟨hg_60, h⟩ := q_g h
        refine go_sld (inb_in hg_60) dL_law_459 ?_
        obtain ⟨r_61, h_62, h⟩ := q_b h
        refine h_callVi (st := []) [.int (X.2.2.2.2.2.2.2 (y3 + 1).toNatClampNeg)] (m_X8_holds h_62) me_X8_holds (g_recv cl6.1 rfl) tw_394 tw_395 tw_396 (by decide) ⟨by decide, by decide⟩ rfl rfl (Nat.le_of_ble_eq_true rfl) dL_law_460 ?_
        refine go_aload_n rfl 2 rfl dL_law_463 ?_
        refine go_aload_n rfl 0 rfl dL_law_464 ?_
        refine go_iload_n rfl 3 rfl dL_law_465 ?_
        refine go_iconst kz_iconst_1 dL_law_466 ?_
        refine go_iadd dL_law_467 ?_
        obtain ⟨hg_63, h⟩ := q_g h
        refine go_sld (inb_in hg_63) dL_law_468 ?_
        obtain ⟨r_64, h_65, h⟩ := q_b h
        refine h_callVi (st := [.int r_61.1]) [.int (X.2.2.2.2.2.2.2 (y3 + 1).toNatClampNeg)] (m_X9_holds h_65) me_X9_holds (g_recv cl7.1 rfl) tw_1040 tw_1041 tw_1042 (by decide) ⟨by decide, by decide⟩ rfl rfl (Nat.le_of_ble_eq_true rfl) dL_law_469 ?_
        refine go_icmp_eq (tgt := 1515) dL_law_472 rfl (fun hc => ?_) (fun hc => ?_)
        · replace h := q_t h hc
          refine h_iinc (l' := [(3, .int (y3 + 6)), (0, .ref X.2.2.2.2.2.1), (1, .ref (ad 0)), (2, .ref (ad 53))]) dL_law_1515 3 rfl kz_iconst_6 (by decide) rfl ?_
          refine go_goto (tgt := 18) dL_law_1518 rfl ?_
          refine go_sub (l' := [(0, .ref X.2.2.2.2.2.1), (1, .ref (ad 0)), (2, .ref (ad 53)), (3, .int (y3 + 6))]) [1, 2, 3, 0] rfl ?_
          exact ih _ _ _ h h1
        · replace h := q_f h hc
          refine go_iconst kz_iconst_0 dL_law_475 ?_
          exact l_ret h1 h dL_law_476
      replace h := q_f h hk_59
      by_cases hk_66 : ((X.2.2.2.2.2.2.2 y3.toNatClampNeg) &&& 63) = 6
      · replace h := q_t h hk_66
        refine h_tbT (tgt := 477) (off := 444) hk_66 dL_law_33 (by decide) (by decide) rfl rfl ?_
        refine go_aload_n rfl 1 rfl dL_law_477 ?_
        refine go_aload_n rfl 0 rfl dL_law_478 ?_
        refine go_iload_n rfl 3 rfl dL_law_479 ?_
        refine go_iconst kz_iconst_1 dL_law_480 ?_
        refine go_iadd dL_law_481 ?_
        obtain ⟨hg_67, h⟩ := q_g h
        refine go_sld (inb_in hg_67) dL_law_482 ?_
        refine go_aload_n rfl 0 rfl dL_law_483 ?_
        refine go_iload_n rfl 3 rfl dL_law_484 ?_
        refine go_iconst kz_iconst_2 dL_law_485 ?_
        refine go_iadd dL_law_486 ?_
        obtain ⟨hg_68, h⟩ := q_g h
        refine go_sld (inb_in hg_68) dL_law_487 ?_
        obtain ⟨r_69, h_70, h⟩ := q_b h
        refine h_callVi (st := []) [.int (X.2.2.2.2.2.2.2 (y3 + 1).toNatClampNeg), .int (X.2.2.2.2.2.2.2 (y3 + 2).toNatClampNeg)] (m_X8_says h_70) me_X8_says (g_recv cl6.1 rfl) tw_398 tw_399 tw_400 (by decide) ⟨by decide, by decide⟩ rfl rfl (Nat.le_of_ble_eq_true rfl) dL_law_488 ?_
        refine go_aload_n rfl 2 rfl dL_law_491 ?_
        refine go_aload_n rfl 0 rfl dL_law_492 ?_
        refine go_iload_n rfl 3 rfl dL_law_493 ?_
        refine go_iconst kz_iconst_1 dL_law_494 ?_
        refine go_iadd dL_law_495 ?_
        obtain ⟨hg_71, h⟩ := q_g h
        refine go_sld (inb_in hg_71) dL_law_496 ?_
        refine go_aload_n rfl 0 rfl dL_law_497 ?_
        refine go_iload_n rfl 3 rfl dL_law_498 ?_
        refine go_iconst kz_iconst_2 dL_law_499 ?_
        refine go_iadd dL_law_500 ?_
        obtain ⟨hg_72, h⟩ := q_g h
        refine go_sld (inb_in hg_72) dL_law_501 ?_
        obtain ⟨r_73, h_74, h⟩ := q_b h
        refine h_callVi (st := [.int r_69.1]) [.int (X.2.2.2.2.2.2.2 (y3 + 1).toNatClampNeg), .int (X.2.2.2.2.2.2.2 (y3 + 2).toNatClampNeg)] (m_X9_says h_74) me_X9_says (g_recv cl7.1 rfl) tw_1044 tw_1045 tw_1046 (by decide) ⟨by decide, by decide⟩ rfl rfl (Nat.le_of_ble_eq_true rfl) dL_law_502 ?_
        refine go_icmp_eq (tgt := 1515) dL_law_505 rfl (fun hc => ?_) (fun hc => ?_)
        · replace h := q_t h hc
          refine h_iinc (l' := [(3, .int (y3 + 6)), (0, .ref X.2.2.2.2.2.1), (1, .ref (ad 0)), (2, .ref (ad 53))]) dL_law_1515 3 rfl kz_iconst_6 (by decide) rfl ?_
          refine go_goto (tgt := 18) dL_law_1518 rfl ?_
          refine go_sub (l' := [(0, .ref X.2.2.2.2.2.1), (1, .ref (ad 0)), (2, .ref (ad 53)), (3, .int (y3 + 6))]) [1, 2, 3, 0] rfl ?_
          exact ih _ _ _ h h1
        · replace h := q_f h hc
          refine go_iconst kz_iconst_0 dL_law_508 ?_
          exact l_ret h1 h dL_law_509
      replace h := q_f h hk_66
      by_cases hk_75 : ((X.2.2.2.2.2.2.2 y3.toNatClampNeg) &&& 63) = 7
      · replace h := q_t h hk_75
        refine h_tbT (tgt := 510) (off := 477) hk_75 dL_law_33 (by decide) (by decide) rfl rfl ?_
        refine go_aload_n rfl 1 rfl dL_law_510 ?_
        refine go_aload_n rfl 0 rfl dL_law_511 ?_
        refine go_iload_n rfl 3 rfl dL_law_512 ?_
        refine go_iconst kz_iconst_1 dL_law_513 ?_
        refine go_iadd dL_law_514 ?_
        obtain ⟨hg_76, h⟩ := q_g h
        refine go_sld (inb_in hg_76) dL_law_515 ?_
        refine go_aload_n rfl 0 rfl dL_law_516 ?_
        refine go_iload_n rfl 3 rfl dL_law_517 ?_
        refine go_iconst kz_iconst_2 dL_law_518 ?_
        refine go_iadd dL_law_519 ?_
        obtain ⟨hg_77, h⟩ := q_g h
        refine go_sld (inb_in hg_77) dL_law_520 ?_
        refine go_aload_n rfl 0 rfl dL_law_521 ?_
        refine go_iload_n rfl 3 rfl dL_law_522 ?_
        refine go_iconst kz_iconst_3 dL_law_523 ?_
        refine go_iadd dL_law_524 ?_
        obtain ⟨hg_78, h⟩ := q_g h
        refine go_sld (inb_in hg_78) dL_law_525 ?_
        refine go_aload_n rfl 0 rfl dL_law_526 ?_
        refine go_iload_n rfl 3 rfl dL_law_527 ?_
        refine go_iconst kz_iconst_4 dL_law_528 ?_
        refine go_iadd dL_law_529 ?_
        obtain ⟨hg_79, h⟩ := q_g h
        refine go_sld (inb_in hg_79) dL_law_530 ?_
        refine go_aload_n rfl 0 rfl dL_law_531 ?_
        refine go_iload_n rfl 3 rfl dL_law_532 ?_
        refine go_iconst kz_iconst_5 dL_law_533 ?_
        refine go_iadd dL_law_534 ?_
        obtain ⟨hg_80, h⟩ := q_g h
        refine go_sld (inb_in hg_80) dL_law_535 ?_
        obtain ⟨r_81, h_82, h⟩ := q_b h
        refine h_callVi (st := []) [.int (X.2.2.2.2.2.2.2 (y3 + 1).toNatClampNeg), .int (X.2.2.2.2.2.2.2 (y3 + 2).toNatClampNeg), .int (X.2.2.2.2.2.2.2 (y3 + 3).toNatClampNeg), .int (X.2.2.2.2.2.2.2 (y3 + 4).toNatClampNeg), .int (X.2.2.2.2.2.2.2 (y3 + 5).toNatClampNeg)] (m_X8_person h_82) me_X8_person (g_recv cl6.1 rfl) tw_426 tw_427 tw_428 (by decide) ⟨by decide, by decide⟩ rfl rfl (Nat.le_of_ble_eq_true rfl) dL_law_536 ?_
        refine go_aload_n rfl 2 rfl dL_law_539 ?_
        refine go_aload_n rfl 0 rfl dL_law_540 ?_
        refine go_iload_n rfl 3 rfl dL_law_541 ?_
        refine go_iconst kz_iconst_1 dL_law_542 ?_
        refine go_iadd dL_law_543 ?_
        obtain ⟨hg_83, h⟩ := q_g h
        refine go_sld (inb_in hg_83) dL_law_544 ?_
        refine go_aload_n rfl 0 rfl dL_law_545 ?_
        refine go_iload_n rfl 3 rfl dL_law_546 ?_
        refine go_iconst kz_iconst_2 dL_law_547 ?_
        refine go_iadd dL_law_548 ?_
        obtain ⟨hg_84, h⟩ := q_g h
        refine go_sld (inb_in hg_84) dL_law_549 ?_
        refine go_aload_n rfl 0 rfl dL_law_550 ?_
        refine go_iload_n rfl 3 rfl dL_law_551 ?_
        refine go_iconst kz_iconst_3 dL_law_552 ?_
        refine go_iadd dL_law_553 ?_
        obtain ⟨hg_85, h⟩ := q_g h
        refine go_sld (inb_in hg_85) dL_law_554 ?_
        refine go_aload_n rfl 0 rfl dL_law_555 ?_
        refine go_iload_n rfl 3 rfl dL_law_556 ?_
        refine go_iconst kz_iconst_4 dL_law_557 ?_
        refine go_iadd dL_law_558 ?_
        obtain ⟨hg_86, h⟩ := q_g h
        refine go_sld (inb_in hg_86) dL_law_559 ?_
        refine go_aload_n rfl 0 rfl dL_law_560 ?_
        refine go_iload_n rfl 3 rfl dL_law_561 ?_
        refine go_iconst kz_iconst_5 dL_law_562 ?_
        refine go_iadd dL_law_563 ?_
        obtain ⟨hg_87, h⟩ := q_g h
        refine go_sld (inb_in hg_87) dL_law_564 ?_
        obtain ⟨r_88, h_89, h⟩ := q_b h
        refine h_callVi (st := [.int r_81.1]) [.int (X.2.2.2.2.2.2.2 (y3 + 1).toNatClampNeg), .int (X.2.2.2.2.2.2.2 (y3 + 2).toNatClampNeg), .int (X.2.2.2.2.2.2.2 (y3 + 3).toNatClampNeg), .int (X.2.2.2.2.2.2.2 (y3 + 4).toNatClampNeg), .int (X.2.2.2.2.2.2.2 (y3 + 5).toNatClampNeg)] (m_X9_person h_89) me_X9_person (g_recv cl7.1 rfl) tw_1058 tw_1059 tw_1060 (by decide) ⟨by decide, by decide⟩ rfl rfl (Nat.le_of_ble_eq_true rfl) dL_law_565 ?_
        refine go_icmp_eq (tgt := 1515) dL_law_568 rfl (fun hc => ?_) (fun hc => ?_)
        · replace h := q_t h hc
          refine h_iinc (l' := [(3, .int (y3 + 6)), (0, .ref X.2.2.2.2.2.1), (1, .ref (ad 0)), (2, .ref (ad 53))]) dL_law_1515 3 rfl kz_iconst_6 (by decide) rfl ?_
          refine go_goto (tgt := 18) dL_law_1518 rfl ?_
          refine go_sub (l' := [(0, .ref X.2.2.2.2.2.1), (1, .ref (ad 0)), (2, .ref (ad 53)), (3, .int (y3 + 6))]) [1, 2, 3, 0] rfl ?_
          exact ih _ _ _ h h1
        · replace h := q_f h hc
          refine go_iconst kz_iconst_0 dL_law_571 ?_
          exact l_ret h1 h dL_law_572
      replace h := q_f h hk_75
      by_cases hk_90 : ((X.2.2.2.2.2.2.2 y3.toNatClampNeg) &&& 63) = 8
      · replace h := q_t h hk_90
        refine h_tbT (tgt := 573) (off := 540) hk_90 dL_law_33 (by decide) (by decide) rfl rfl ?_
        refine go_aload_n rfl 1 rfl dL_law_573 ?_
        refine go_aload_n rfl 0 rfl dL_law_574 ?_
        refine go_iload_n rfl 3 rfl dL_law_575 ?_
        refine go_iconst kz_iconst_1 dL_law_576 ?_
        refine go_iadd dL_law_577 ?_
        obtain ⟨hg_91, h⟩ := q_g h
        refine go_sld (inb_in hg_91) dL_law_578 ?_
        refine go_aload_n rfl 0 rfl dL_law_579 ?_
        refine go_iload_n rfl 3 rfl dL_law_580 ?_
        refine go_iconst kz_iconst_2 dL_law_581 ?_
        refine go_iadd dL_law_582 ?_
        obtain ⟨hg_92, h⟩ := q_g h
        refine go_sld (inb_in hg_92) dL_law_583 ?_
        refine go_if_eq (tgt := 591) dL_law_584 rfl (fun hc => ?_) (fun hc => ?_)
        · replace h := q_t h hc
          refine go_iconst kz_iconst_0 dL_law_591 ?_
          obtain ⟨r_93, h_94, h⟩ := q_b h
          refine h_callVi (st := []) [.int (X.2.2.2.2.2.2.2 (y3 + 1).toNatClampNeg), .int 0] (m_X8_fence h_94) me_X8_fence (g_recv cl6.1 rfl) tw_450 tw_451 tw_452 (by decide) ⟨by decide, by decide⟩ rfl rfl (Nat.le_of_ble_eq_true rfl) dL_law_592 ?_
          refine go_aload_n rfl 2 rfl dL_law_595 ?_
          refine go_aload_n rfl 0 rfl dL_law_596 ?_
          refine go_iload_n rfl 3 rfl dL_law_597 ?_
          refine go_iconst kz_iconst_1 dL_law_598 ?_
          refine go_iadd dL_law_599 ?_
          obtain ⟨hg_95, h⟩ := q_g h
          refine go_sld (inb_in hg_95) dL_law_600 ?_
          refine go_aload_n rfl 0 rfl dL_law_601 ?_
          refine go_iload_n rfl 3 rfl dL_law_602 ?_
          refine go_iconst kz_iconst_2 dL_law_603 ?_
          refine go_iadd dL_law_604 ?_
          obtain ⟨hg_96, h⟩ := q_g h
          refine go_sld (inb_in hg_96) dL_law_605 ?_
          refine go_if_eq (tgt := 613) dL_law_606 rfl (fun hc => ?_) (fun hc => ?_)
          · replace h := q_t h hc
            refine go_iconst kz_iconst_0 dL_law_613 ?_
            obtain ⟨r_97, h_98, h⟩ := q_b h
            refine h_callVi (st := [.int r_93.1]) [.int (X.2.2.2.2.2.2.2 (y3 + 1).toNatClampNeg), .int 0] (m_X9_fence h_98) me_X9_fence (g_recv cl7.1 rfl) tw_1073 tw_1074 tw_1075 (by decide) ⟨by decide, by decide⟩ rfl rfl (Nat.le_of_ble_eq_true rfl) dL_law_614 ?_
            refine go_icmp_eq (tgt := 1515) dL_law_617 rfl (fun hc => ?_) (fun hc => ?_)
            · replace h := q_t h hc
              refine h_iinc (l' := [(3, .int (y3 + 6)), (0, .ref X.2.2.2.2.2.1), (1, .ref (ad 0)), (2, .ref (ad 53))]) dL_law_1515 3 rfl kz_iconst_6 (by decide) rfl ?_
              refine go_goto (tgt := 18) dL_law_1518 rfl ?_
              refine go_sub (l' := [(0, .ref X.2.2.2.2.2.1), (1, .ref (ad 0)), (2, .ref (ad 53)), (3, .int (y3 + 6))]) [1, 2, 3, 0] rfl ?_
              exact ih _ _ _ h h1
            · replace h := q_f h hc
              refine go_iconst kz_iconst_0 dL_law_620 ?_
              exact l_ret h1 h dL_law_621
          · replace h := q_f h hc
            refine go_iconst kz_iconst_1 dL_law_609 ?_
            refine go_goto (tgt := 614) dL_law_610 rfl ?_
            obtain ⟨r_99, h_100, h⟩ := q_b h
            refine h_callVi (st := [.int r_93.1]) [.int (X.2.2.2.2.2.2.2 (y3 + 1).toNatClampNeg), .int 1] (m_X9_fence h_100) me_X9_fence (g_recv cl7.1 rfl) tw_1073 tw_1074 tw_1075 (by decide) ⟨by decide, by decide⟩ rfl rfl (Nat.le_of_ble_eq_true rfl) dL_law_614 ?_
            refine go_icmp_eq (tgt := 1515) dL_law_617 rfl (fun hc => ?_) (fun hc => ?_)
            · replace h := q_t h hc
              refine h_iinc (l' := [(3, .int (y3 + 6)), (0, .ref X.2.2.2.2.2.1), (1, .ref (ad 0)), (2, .ref (ad 53))]) dL_law_1515 3 rfl kz_iconst_6 (by decide) rfl ?_
              refine go_goto (tgt := 18) dL_law_1518 rfl ?_
              refine go_sub (l' := [(0, .ref X.2.2.2.2.2.1), (1, .ref (ad 0)), (2, .ref (ad 53)), (3, .int (y3 + 6))]) [1, 2, 3, 0] rfl ?_
              exact ih _ _ _ h h1
            · replace h := q_f h hc
              refine go_iconst kz_iconst_0 dL_law_620 ?_
              exact l_ret h1 h dL_law_621
        · replace h := q_f h hc
          refine go_iconst kz_iconst_1 dL_law_587 ?_
          refine go_goto (tgt := 592) dL_law_588 rfl ?_
          obtain ⟨r_101, h_102, h⟩ := q_b h
          refine h_callVi (st := []) [.int (X.2.2.2.2.2.2.2 (y3 + 1).toNatClampNeg), .int 1] (m_X8_fence h_102) me_X8_fence (g_recv cl6.1 rfl) tw_450 tw_451 tw_452 (by decide) ⟨by decide, by decide⟩ rfl rfl (Nat.le_of_ble_eq_true rfl) dL_law_592 ?_
          refine go_aload_n rfl 2 rfl dL_law_595 ?_
          refine go_aload_n rfl 0 rfl dL_law_596 ?_
          refine go_iload_n rfl 3 rfl dL_law_597 ?_
          refine go_iconst kz_iconst_1 dL_law_598 ?_
          refine go_iadd dL_law_599 ?_
          obtain ⟨hg_103, h⟩ := q_g h
          refine go_sld (inb_in hg_103) dL_law_600 ?_
          refine go_aload_n rfl 0 rfl dL_law_601 ?_
          refine go_iload_n rfl 3 rfl dL_law_602 ?_
          refine go_iconst kz_iconst_2 dL_law_603 ?_
          refine go_iadd dL_law_604 ?_
          obtain ⟨hg_104, h⟩ := q_g h
          refine go_sld (inb_in hg_104) dL_law_605 ?_
          refine go_if_eq (tgt := 613) dL_law_606 rfl (fun hc => ?_) (fun hc => ?_)
          · replace h := q_t h hc
            refine go_iconst kz_iconst_0 dL_law_613 ?_
            obtain ⟨r_105, h_106, h⟩ := q_b h
            refine h_callVi (st := [.int r_101.1]) [.int (X.2.2.2.2.2.2.2 (y3 + 1).toNatClampNeg), .int 0] (m_X9_fence h_106) me_X9_fence (g_recv cl7.1 rfl) tw_1073 tw_1074 tw_1075 (by decide) ⟨by decide, by decide⟩ rfl rfl (Nat.le_of_ble_eq_true rfl) dL_law_614 ?_
            refine go_icmp_eq (tgt := 1515) dL_law_617 rfl (fun hc => ?_) (fun hc => ?_)
            · replace h := q_t h hc
              refine h_iinc (l' := [(3, .int (y3 + 6)), (0, .ref X.2.2.2.2.2.1), (1, .ref (ad 0)), (2, .ref (ad 53))]) dL_law_1515 3 rfl kz_iconst_6 (by decide) rfl ?_
              refine go_goto (tgt := 18) dL_law_1518 rfl ?_
              refine go_sub (l' := [(0, .ref X.2.2.2.2.2.1), (1, .ref (ad 0)), (2, .ref (ad 53)), (3, .int (y3 + 6))]) [1, 2, 3, 0] rfl ?_
              exact ih _ _ _ h h1
            · replace h := q_f h hc
              refine go_iconst kz_iconst_0 dL_law_620 ?_
              exact l_ret h1 h dL_law_621
          · replace h := q_f h hc
            refine go_iconst kz_iconst_1 dL_law_609 ?_
            refine go_goto (tgt := 614) dL_law_610 rfl ?_
            obtain ⟨r_107, h_108, h⟩ := q_b h
            refine h_callVi (st := [.int r_101.1]) [.int (X.2.2.2.2.2.2.2 (y3 + 1).toNatClampNeg), .int 1] (m_X9_fence h_108) me_X9_fence (g_recv cl7.1 rfl) tw_1073 tw_1074 tw_1075 (by decide) ⟨by decide, by decide⟩ rfl rfl (Nat.le_of_ble_eq_true rfl) dL_law_614 ?_
            refine go_icmp_eq (tgt := 1515) dL_law_617 rfl (fun hc => ?_) (fun hc => ?_)
            · replace h := q_t h hc
              refine h_iinc (l' := [(3, .int (y3 + 6)), (0, .ref X.2.2.2.2.2.1), (1, .ref (ad 0)), (2, .ref (ad 53))]) dL_law_1515 3 rfl kz_iconst_6 (by decide) rfl ?_
              refine go_goto (tgt := 18) dL_law_1518 rfl ?_
              refine go_sub (l' := [(0, .ref X.2.2.2.2.2.1), (1, .ref (ad 0)), (2, .ref (ad 53)), (3, .int (y3 + 6))]) [1, 2, 3, 0] rfl ?_
              exact ih _ _ _ h h1
            · replace h := q_f h hc
              refine go_iconst kz_iconst_0 dL_law_620 ?_
              exact l_ret h1 h dL_law_621
      replace h := q_f h hk_90
      by_cases hk_109 : ((X.2.2.2.2.2.2.2 y3.toNatClampNeg) &&& 63) = 9
      · replace h := q_t h hk_109
        refine h_tbT (tgt := 622) (off := 589) hk_109 dL_law_33 (by decide) (by decide) rfl rfl ?_
        refine go_aload_n rfl 1 rfl dL_law_622 ?_
        refine go_aload_n rfl 0 rfl dL_law_623 ?_
        refine go_iload_n rfl 3 rfl dL_law_624 ?_
        refine go_iconst kz_iconst_1 dL_law_625 ?_
        refine go_iadd dL_law_626 ?_
        obtain ⟨hg_110, h⟩ := q_g h
        refine go_sld (inb_in hg_110) dL_law_627 ?_
        refine go_aload_n rfl 0 rfl dL_law_628 ?_
        refine go_iload_n rfl 3 rfl dL_law_629 ?_
        refine go_iconst kz_iconst_2 dL_law_630 ?_
        refine go_iadd dL_law_631 ?_
        obtain ⟨hg_111, h⟩ := q_g h
        refine go_sld (inb_in hg_111) dL_law_632 ?_
        refine go_aload_n rfl 0 rfl dL_law_633 ?_
        refine go_iload_n rfl 3 rfl dL_law_634 ?_
        refine go_iconst kz_iconst_3 dL_law_635 ?_
        refine go_iadd dL_law_636 ?_
        obtain ⟨hg_112, h⟩ := q_g h
        refine go_sld (inb_in hg_112) dL_law_637 ?_
        obtain ⟨r_113, h_114, h⟩ := q_b h
        refine h_callVi (st := []) [.int (X.2.2.2.2.2.2.2 (y3 + 1).toNatClampNeg), .int (X.2.2.2.2.2.2.2 (y3 + 2).toNatClampNeg), .int (X.2.2.2.2.2.2.2 (y3 + 3).toNatClampNeg)] (m_X8_tell h_114) me_X8_tell (g_recv cl6.1 rfl) tw_468 tw_469 tw_470 (by decide) ⟨by decide, by decide⟩ rfl rfl (Nat.le_of_ble_eq_true rfl) dL_law_638 ?_
        refine go_aload_n rfl 2 rfl dL_law_641 ?_
        refine go_aload_n rfl 0 rfl dL_law_642 ?_
        refine go_iload_n rfl 3 rfl dL_law_643 ?_
        refine go_iconst kz_iconst_1 dL_law_644 ?_
        refine go_iadd dL_law_645 ?_
        obtain ⟨hg_115, h⟩ := q_g h
        refine go_sld (inb_in hg_115) dL_law_646 ?_
        refine go_aload_n rfl 0 rfl dL_law_647 ?_
        refine go_iload_n rfl 3 rfl dL_law_648 ?_
        refine go_iconst kz_iconst_2 dL_law_649 ?_
        refine go_iadd dL_law_650 ?_
        obtain ⟨hg_116, h⟩ := q_g h
        refine go_sld (inb_in hg_116) dL_law_651 ?_
        refine go_aload_n rfl 0 rfl dL_law_652 ?_
        refine go_iload_n rfl 3 rfl dL_law_653 ?_
        refine go_iconst kz_iconst_3 dL_law_654 ?_
        refine go_iadd dL_law_655 ?_
        obtain ⟨hg_117, h⟩ := q_g h
        refine go_sld (inb_in hg_117) dL_law_656 ?_
        obtain ⟨r_118, h_119, h⟩ := q_b h
        refine h_callVi (st := [.int r_113.1]) [.int (X.2.2.2.2.2.2.2 (y3 + 1).toNatClampNeg), .int (X.2.2.2.2.2.2.2 (y3 + 2).toNatClampNeg), .int (X.2.2.2.2.2.2.2 (y3 + 3).toNatClampNeg)] (m_X9_tell h_119) me_X9_tell (g_recv cl7.1 rfl) tw_1089 tw_1090 tw_1091 (by decide) ⟨by decide, by decide⟩ rfl rfl (Nat.le_of_ble_eq_true rfl) dL_law_657 ?_
        refine go_icmp_eq (tgt := 1515) dL_law_660 rfl (fun hc => ?_) (fun hc => ?_)
        · replace h := q_t h hc
          refine h_iinc (l' := [(3, .int (y3 + 6)), (0, .ref X.2.2.2.2.2.1), (1, .ref (ad 0)), (2, .ref (ad 53))]) dL_law_1515 3 rfl kz_iconst_6 (by decide) rfl ?_
          refine go_goto (tgt := 18) dL_law_1518 rfl ?_
          refine go_sub (l' := [(0, .ref X.2.2.2.2.2.1), (1, .ref (ad 0)), (2, .ref (ad 53)), (3, .int (y3 + 6))]) [1, 2, 3, 0] rfl ?_
          exact ih _ _ _ h h1
        · replace h := q_f h hc
          refine go_iconst kz_iconst_0 dL_law_663 ?_
          exact l_ret h1 h dL_law_664
      replace h := q_f h hk_109
      by_cases hk_120 : ((X.2.2.2.2.2.2.2 y3.toNatClampNeg) &&& 63) = 10
      · replace h := q_t h hk_120
        refine h_tbT (tgt := 665) (off := 632) hk_120 dL_law_33 (by decide) (by decide) rfl rfl ?_
        refine go_aload_n rfl 1 rfl dL_law_665 ?_
        refine go_aload_n rfl 0 rfl dL_law_666 ?_
        refine go_iload_n rfl 3 rfl dL_law_667 ?_
        refine go_iconst kz_iconst_1 dL_law_668 ?_
        refine go_iadd dL_law_669 ?_
        obtain ⟨hg_121, h⟩ := q_g h
        refine go_sld (inb_in hg_121) dL_law_670 ?_
        refine go_aload_n rfl 0 rfl dL_law_671 ?_
        refine go_iload_n rfl 3 rfl dL_law_672 ?_
        refine go_iconst kz_iconst_2 dL_law_673 ?_
        refine go_iadd dL_law_674 ?_
        obtain ⟨hg_122, h⟩ := q_g h
        refine go_sld (inb_in hg_122) dL_law_675 ?_
        obtain ⟨r_123, h_124, h⟩ := q_b h
        refine h_callVi (st := []) [.int (X.2.2.2.2.2.2.2 (y3 + 1).toNatClampNeg), .int (X.2.2.2.2.2.2.2 (y3 + 2).toNatClampNeg)] (m_X8_ask h_124) me_X8_ask (g_recv cl6.1 rfl) tw_475 tw_476 tw_477 (by decide) ⟨by decide, by decide⟩ rfl rfl (Nat.le_of_ble_eq_true rfl) dL_law_676 ?_
        refine go_aload_n rfl 2 rfl dL_law_679 ?_
        refine go_aload_n rfl 0 rfl dL_law_680 ?_
        refine go_iload_n rfl 3 rfl dL_law_681 ?_
        refine go_iconst kz_iconst_1 dL_law_682 ?_
        refine go_iadd dL_law_683 ?_
        obtain ⟨hg_125, h⟩ := q_g h
        refine go_sld (inb_in hg_125) dL_law_684 ?_
        refine go_aload_n rfl 0 rfl dL_law_685 ?_
        refine go_iload_n rfl 3 rfl dL_law_686 ?_
        refine go_iconst kz_iconst_2 dL_law_687 ?_
        refine go_iadd dL_law_688 ?_
        obtain ⟨hg_126, h⟩ := q_g h
        refine go_sld (inb_in hg_126) dL_law_689 ?_
        obtain ⟨r_127, h_128, h⟩ := q_b h
        refine h_callVi (st := [.int r_123.1]) [.int (X.2.2.2.2.2.2.2 (y3 + 1).toNatClampNeg), .int (X.2.2.2.2.2.2.2 (y3 + 2).toNatClampNeg)] (m_X9_ask h_128) me_X9_ask (g_recv cl7.1 rfl) tw_1093 tw_1094 tw_1095 (by decide) ⟨by decide, by decide⟩ rfl rfl (Nat.le_of_ble_eq_true rfl) dL_law_690 ?_
        refine go_icmp_eq (tgt := 1515) dL_law_693 rfl (fun hc => ?_) (fun hc => ?_)
        · replace h := q_t h hc
          refine h_iinc (l' := [(3, .int (y3 + 6)), (0, .ref X.2.2.2.2.2.1), (1, .ref (ad 0)), (2, .ref (ad 53))]) dL_law_1515 3 rfl kz_iconst_6 (by decide) rfl ?_
          refine go_goto (tgt := 18) dL_law_1518 rfl ?_
          refine go_sub (l' := [(0, .ref X.2.2.2.2.2.1), (1, .ref (ad 0)), (2, .ref (ad 53)), (3, .int (y3 + 6))]) [1, 2, 3, 0] rfl ?_
          exact ih _ _ _ h h1
        · replace h := q_f h hc
          refine go_iconst kz_iconst_0 dL_law_696 ?_
          exact l_ret h1 h dL_law_697
      replace h := q_f h hk_120
      by_cases hk_129 : ((X.2.2.2.2.2.2.2 y3.toNatClampNeg) &&& 63) = 11
      · replace h := q_t h hk_129
        refine h_tbT (tgt := 698) (off := 665) hk_129 dL_law_33 (by decide) (by decide) rfl rfl ?_
        refine go_aload_n rfl 1 rfl dL_law_698 ?_
        refine go_aload_n rfl 0 rfl dL_law_699 ?_
        refine go_iload_n rfl 3 rfl dL_law_700 ?_
        refine go_iconst kz_iconst_1 dL_law_701 ?_
        refine go_iadd dL_law_702 ?_
        obtain ⟨hg_130, h⟩ := q_g h
        refine go_sld (inb_in hg_130) dL_law_703 ?_
        refine go_aload_n rfl 0 rfl dL_law_704 ?_
        refine go_iload_n rfl 3 rfl dL_law_705 ?_
        refine go_iconst kz_iconst_2 dL_law_706 ?_
        refine go_iadd dL_law_707 ?_
        obtain ⟨hg_131, h⟩ := q_g h
        refine go_sld (inb_in hg_131) dL_law_708 ?_
        obtain ⟨r_132, h_133, h⟩ := q_b h
        refine h_callVi (st := []) [.int (X.2.2.2.2.2.2.2 (y3 + 1).toNatClampNeg), .int (X.2.2.2.2.2.2.2 (y3 + 2).toNatClampNeg)] (m_X8_personOf h_133) me_X8_personOf (g_recv cl6.1 rfl) tw_479 tw_480 tw_481 (by decide) ⟨by decide, by decide⟩ rfl rfl (Nat.le_of_ble_eq_true rfl) dL_law_709 ?_
        refine go_aload_n rfl 2 rfl dL_law_712 ?_
        refine go_aload_n rfl 0 rfl dL_law_713 ?_
        refine go_iload_n rfl 3 rfl dL_law_714 ?_
        refine go_iconst kz_iconst_1 dL_law_715 ?_
        refine go_iadd dL_law_716 ?_
        obtain ⟨hg_134, h⟩ := q_g h
        refine go_sld (inb_in hg_134) dL_law_717 ?_
        refine go_aload_n rfl 0 rfl dL_law_718 ?_
        refine go_iload_n rfl 3 rfl dL_law_719 ?_
        refine go_iconst kz_iconst_2 dL_law_720 ?_
        refine go_iadd dL_law_721 ?_
        obtain ⟨hg_135, h⟩ := q_g h
        refine go_sld (inb_in hg_135) dL_law_722 ?_
        obtain ⟨r_136, h_137, h⟩ := q_b h
        refine h_callVi (st := [.int r_132.1]) [.int (X.2.2.2.2.2.2.2 (y3 + 1).toNatClampNeg), .int (X.2.2.2.2.2.2.2 (y3 + 2).toNatClampNeg)] (m_X9_personOf h_137) me_X9_personOf (g_recv cl7.1 rfl) tw_1097 tw_1098 tw_1099 (by decide) ⟨by decide, by decide⟩ rfl rfl (Nat.le_of_ble_eq_true rfl) dL_law_723 ?_
        refine go_icmp_eq (tgt := 1515) dL_law_726 rfl (fun hc => ?_) (fun hc => ?_)
        · replace h := q_t h hc
          refine h_iinc (l' := [(3, .int (y3 + 6)), (0, .ref X.2.2.2.2.2.1), (1, .ref (ad 0)), (2, .ref (ad 53))]) dL_law_1515 3 rfl kz_iconst_6 (by decide) rfl ?_
          refine go_goto (tgt := 18) dL_law_1518 rfl ?_
          refine go_sub (l' := [(0, .ref X.2.2.2.2.2.1), (1, .ref (ad 0)), (2, .ref (ad 53)), (3, .int (y3 + 6))]) [1, 2, 3, 0] rfl ?_
          exact ih _ _ _ h h1
        · replace h := q_f h hc
          refine go_iconst kz_iconst_0 dL_law_729 ?_
          exact l_ret h1 h dL_law_730
      replace h := q_f h hk_129
      by_cases hk_138 : ((X.2.2.2.2.2.2.2 y3.toNatClampNeg) &&& 63) = 12
      · replace h := q_t h hk_138
        refine h_tbT (tgt := 731) (off := 698) hk_138 dL_law_33 (by decide) (by decide) rfl rfl ?_
        refine go_aload_n rfl 1 rfl dL_law_731 ?_
        refine go_aload_n rfl 0 rfl dL_law_732 ?_
        refine go_iload_n rfl 3 rfl dL_law_733 ?_
        refine go_iconst kz_iconst_1 dL_law_734 ?_
        refine go_iadd dL_law_735 ?_
        obtain ⟨hg_139, h⟩ := q_g h
        refine go_sld (inb_in hg_139) dL_law_736 ?_
        refine go_aload_n rfl 0 rfl dL_law_737 ?_
        refine go_iload_n rfl 3 rfl dL_law_738 ?_
        refine go_iconst kz_iconst_2 dL_law_739 ?_
        refine go_iadd dL_law_740 ?_
        obtain ⟨hg_140, h⟩ := q_g h
        refine go_sld (inb_in hg_140) dL_law_741 ?_
        obtain ⟨r_141, h_142, h⟩ := q_b h
        refine h_callVi (st := []) [.int (X.2.2.2.2.2.2.2 (y3 + 1).toNatClampNeg), .int (X.2.2.2.2.2.2.2 (y3 + 2).toNatClampNeg)] (m_X8_squareOf h_142) me_X8_squareOf (g_recv cl6.1 rfl) tw_495 tw_496 tw_497 (by decide) ⟨by decide, by decide⟩ rfl rfl (Nat.le_of_ble_eq_true rfl) dL_law_742 ?_
        refine go_aload_n rfl 2 rfl dL_law_745 ?_
        refine go_aload_n rfl 0 rfl dL_law_746 ?_
        refine go_iload_n rfl 3 rfl dL_law_747 ?_
        refine go_iconst kz_iconst_1 dL_law_748 ?_
        refine go_iadd dL_law_749 ?_
        obtain ⟨hg_143, h⟩ := q_g h
        refine go_sld (inb_in hg_143) dL_law_750 ?_
        refine go_aload_n rfl 0 rfl dL_law_751 ?_
        refine go_iload_n rfl 3 rfl dL_law_752 ?_
        refine go_iconst kz_iconst_2 dL_law_753 ?_
        refine go_iadd dL_law_754 ?_
        obtain ⟨hg_144, h⟩ := q_g h
        refine go_sld (inb_in hg_144) dL_law_755 ?_
        obtain ⟨r_145, h_146, h⟩ := q_b h
        refine h_callVi (st := [.int r_141.1]) [.int (X.2.2.2.2.2.2.2 (y3 + 1).toNatClampNeg), .int (X.2.2.2.2.2.2.2 (y3 + 2).toNatClampNeg)] (m_X9_squareOf h_146) me_X9_squareOf (g_recv cl7.1 rfl) tw_1109 tw_1110 tw_1111 (by decide) ⟨by decide, by decide⟩ rfl rfl (Nat.le_of_ble_eq_true rfl) dL_law_756 ?_
        refine go_icmp_eq (tgt := 1515) dL_law_759 rfl (fun hc => ?_) (fun hc => ?_)
        · replace h := q_t h hc
          refine h_iinc (l' := [(3, .int (y3 + 6)), (0, .ref X.2.2.2.2.2.1), (1, .ref (ad 0)), (2, .ref (ad 53))]) dL_law_1515 3 rfl kz_iconst_6 (by decide) rfl ?_
          refine go_goto (tgt := 18) dL_law_1518 rfl ?_
          refine go_sub (l' := [(0, .ref X.2.2.2.2.2.1), (1, .ref (ad 0)), (2, .ref (ad 53)), (3, .int (y3 + 6))]) [1, 2, 3, 0] rfl ?_
          exact ih _ _ _ h h1
        · replace h := q_f h hc
          refine go_iconst kz_iconst_0 dL_law_762 ?_
          exact l_ret h1 h dL_law_763
      replace h := q_f h hk_138
      by_cases hk_147 : ((X.2.2.2.2.2.2.2 y3.toNatClampNeg) &&& 63) = 13
      · replace h := q_t h hk_147
        refine h_tbT (tgt := 764) (off := 731) hk_147 dL_law_33 (by decide) (by decide) rfl rfl ?_
        refine go_aload_n rfl 1 rfl dL_law_764 ?_
        refine go_aload_n rfl 0 rfl dL_law_765 ?_
        refine go_iload_n rfl 3 rfl dL_law_766 ?_
        refine go_iconst kz_iconst_1 dL_law_767 ?_
        refine go_iadd dL_law_768 ?_
        obtain ⟨hg_148, h⟩ := q_g h
        refine go_sld (inb_in hg_148) dL_law_769 ?_
        obtain ⟨r_149, h_150, h⟩ := q_b h
        refine h_callVi (st := []) [.int (X.2.2.2.2.2.2.2 (y3 + 1).toNatClampNeg)] (m_X8_port h_150) me_X8_port (g_recv cl6.1 rfl) tw_501 tw_502 tw_503 (by decide) ⟨by decide, by decide⟩ rfl rfl (Nat.le_of_ble_eq_true rfl) dL_law_770 ?_
        refine go_aload_n rfl 2 rfl dL_law_773 ?_
        refine go_aload_n rfl 0 rfl dL_law_774 ?_
        refine go_iload_n rfl 3 rfl dL_law_775 ?_
        refine go_iconst kz_iconst_1 dL_law_776 ?_
        refine go_iadd dL_law_777 ?_
        obtain ⟨hg_151, h⟩ := q_g h
        refine go_sld (inb_in hg_151) dL_law_778 ?_
        obtain ⟨r_152, h_153, h⟩ := q_b h
        refine h_callVi (st := [.int r_149.1]) [.int (X.2.2.2.2.2.2.2 (y3 + 1).toNatClampNeg)] (m_X9_port h_153) me_X9_port (g_recv cl7.1 rfl) tw_1113 tw_1114 tw_1115 (by decide) ⟨by decide, by decide⟩ rfl rfl (Nat.le_of_ble_eq_true rfl) dL_law_779 ?_
        refine go_icmp_eq (tgt := 1515) dL_law_782 rfl (fun hc => ?_) (fun hc => ?_)
        · replace h := q_t h hc
          refine h_iinc (l' := [(3, .int (y3 + 6)), (0, .ref X.2.2.2.2.2.1), (1, .ref (ad 0)), (2, .ref (ad 53))]) dL_law_1515 3 rfl kz_iconst_6 (by decide) rfl ?_
          refine go_goto (tgt := 18) dL_law_1518 rfl ?_
          refine go_sub (l' := [(0, .ref X.2.2.2.2.2.1), (1, .ref (ad 0)), (2, .ref (ad 53)), (3, .int (y3 + 6))]) [1, 2, 3, 0] rfl ?_
          exact ih _ _ _ h h1
        · replace h := q_f h hc
          refine go_iconst kz_iconst_0 dL_law_785 ?_
          exact l_ret h1 h dL_law_786
      replace h := q_f h hk_147
      by_cases hk_154 : ((X.2.2.2.2.2.2.2 y3.toNatClampNeg) &&& 63) = 14
      · replace h := q_t h hk_154
        refine h_tbT (tgt := 787) (off := 754) hk_154 dL_law_33 (by decide) (by decide) rfl rfl ?_
        refine go_aload_n rfl 1 rfl dL_law_787 ?_
        obtain ⟨r_155, h_156, h⟩ := q_b h
        refine h_callVi (st := []) [] (m_X8_fault h_156) me_X8_fault (g_recv cl6.1 rfl) tw_624 tw_625 tw_626 (by decide) ⟨by decide, by decide⟩ rfl rfl (Nat.le_of_ble_eq_true rfl) dL_law_788 ?_
        refine go_aload_n rfl 2 rfl dL_law_791 ?_
        obtain ⟨r_157, h_158, h⟩ := q_b h
        refine h_callVi (st := [.int r_155.1]) [] (m_X9_fault h_158) me_X9_fault (g_recv cl7.1 rfl) tw_1160 tw_1161 tw_1162 (by decide) ⟨by decide, by decide⟩ rfl rfl (Nat.le_of_ble_eq_true rfl) dL_law_792 ?_
        refine go_icmp_eq (tgt := 1515) dL_law_795 rfl (fun hc => ?_) (fun hc => ?_)
        · replace h := q_t h hc
          refine h_iinc (l' := [(3, .int (y3 + 6)), (0, .ref X.2.2.2.2.2.1), (1, .ref (ad 0)), (2, .ref (ad 53))]) dL_law_1515 3 rfl kz_iconst_6 (by decide) rfl ?_
          refine go_goto (tgt := 18) dL_law_1518 rfl ?_
          refine go_sub (l' := [(0, .ref X.2.2.2.2.2.1), (1, .ref (ad 0)), (2, .ref (ad 53)), (3, .int (y3 + 6))]) [1, 2, 3, 0] rfl ?_
          exact ih _ _ _ h h1
        · replace h := q_f h hc
          refine go_iconst kz_iconst_0 dL_law_798 ?_
          exact l_ret h1 h dL_law_799
      replace h := q_f h hk_154
      by_cases hk_159 : ((X.2.2.2.2.2.2.2 y3.toNatClampNeg) &&& 63) = 15
      · replace h := q_t h hk_159
        refine h_tbT (tgt := 800) (off := 767) hk_159 dL_law_33 (by decide) (by decide) rfl rfl ?_
        refine go_aload_n rfl 1 rfl dL_law_800 ?_
        refine go_aload_n rfl 0 rfl dL_law_801 ?_
        refine go_iload_n rfl 3 rfl dL_law_802 ?_
        refine go_iconst kz_iconst_1 dL_law_803 ?_
        refine go_iadd dL_law_804 ?_
        obtain ⟨hg_160, h⟩ := q_g h
        refine go_sld (inb_in hg_160) dL_law_805 ?_
        obtain ⟨r_161, h_162, h⟩ := q_b h
        refine h_callVi (st := []) [.int (X.2.2.2.2.2.2.2 (y3 + 1).toNatClampNeg)] (m_X8_far h_162) me_X8_far (g_recv cl6.1 rfl) tw_628 tw_629 tw_630 (by decide) ⟨by decide, by decide⟩ rfl rfl (Nat.le_of_ble_eq_true rfl) dL_law_806 ?_
        refine go_aload_n rfl 2 rfl dL_law_809 ?_
        refine go_aload_n rfl 0 rfl dL_law_810 ?_
        refine go_iload_n rfl 3 rfl dL_law_811 ?_
        refine go_iconst kz_iconst_1 dL_law_812 ?_
        refine go_iadd dL_law_813 ?_
        obtain ⟨hg_163, h⟩ := q_g h
        refine go_sld (inb_in hg_163) dL_law_814 ?_
        obtain ⟨r_164, h_165, h⟩ := q_b h
        refine h_callVi (st := [.int r_161.1]) [.int (X.2.2.2.2.2.2.2 (y3 + 1).toNatClampNeg)] (m_X9_far h_165) me_X9_far (g_recv cl7.1 rfl) tw_1164 tw_1165 tw_1166 (by decide) ⟨by decide, by decide⟩ rfl rfl (Nat.le_of_ble_eq_true rfl) dL_law_815 ?_
        refine go_icmp_eq (tgt := 1515) dL_law_818 rfl (fun hc => ?_) (fun hc => ?_)
        · replace h := q_t h hc
          refine h_iinc (l' := [(3, .int (y3 + 6)), (0, .ref X.2.2.2.2.2.1), (1, .ref (ad 0)), (2, .ref (ad 53))]) dL_law_1515 3 rfl kz_iconst_6 (by decide) rfl ?_
          refine go_goto (tgt := 18) dL_law_1518 rfl ?_
          refine go_sub (l' := [(0, .ref X.2.2.2.2.2.1), (1, .ref (ad 0)), (2, .ref (ad 53)), (3, .int (y3 + 6))]) [1, 2, 3, 0] rfl ?_
          exact ih _ _ _ h h1
        · replace h := q_f h hc
          refine go_iconst kz_iconst_0 dL_law_821 ?_
          exact l_ret h1 h dL_law_822
      replace h := q_f h hk_159
      by_cases hk_166 : ((X.2.2.2.2.2.2.2 y3.toNatClampNeg) &&& 63) = 16
      · replace h := q_t h hk_166
        refine h_tbT (tgt := 823) (off := 790) hk_166 dL_law_33 (by decide) (by decide) rfl rfl ?_
        refine go_aload_n rfl 1 rfl dL_law_823 ?_
        refine go_aload_n rfl 0 rfl dL_law_824 ?_
        refine go_iload_n rfl 3 rfl dL_law_825 ?_
        refine go_iconst kz_iconst_1 dL_law_826 ?_
        refine go_iadd dL_law_827 ?_
        obtain ⟨hg_167, h⟩ := q_g h
        refine go_sld (inb_in hg_167) dL_law_828 ?_
        obtain ⟨r_168, h_169, h⟩ := q_b h
        refine h_callVi (st := []) [.int (X.2.2.2.2.2.2.2 (y3 + 1).toNatClampNeg)] (m_X8_who h_169) me_X8_who (g_recv cl6.1 rfl) tw_654 tw_655 tw_656 (by decide) ⟨by decide, by decide⟩ rfl rfl (Nat.le_of_ble_eq_true rfl) dL_law_829 ?_
        refine go_aload_n rfl 2 rfl dL_law_832 ?_
        refine go_aload_n rfl 0 rfl dL_law_833 ?_
        refine go_iload_n rfl 3 rfl dL_law_834 ?_
        refine go_iconst kz_iconst_1 dL_law_835 ?_
        refine go_iadd dL_law_836 ?_
        obtain ⟨hg_170, h⟩ := q_g h
        refine go_sld (inb_in hg_170) dL_law_837 ?_
        obtain ⟨r_171, h_172, h⟩ := q_b h
        refine h_callVi (st := [.int r_168.1]) [.int (X.2.2.2.2.2.2.2 (y3 + 1).toNatClampNeg)] (m_X9_who h_172) me_X9_who (g_recv cl7.1 rfl) tw_1180 tw_1181 tw_1182 (by decide) ⟨by decide, by decide⟩ rfl rfl (Nat.le_of_ble_eq_true rfl) dL_law_838 ?_
        refine go_icmp_eq (tgt := 1515) dL_law_841 rfl (fun hc => ?_) (fun hc => ?_)
        · replace h := q_t h hc
          refine h_iinc (l' := [(3, .int (y3 + 6)), (0, .ref X.2.2.2.2.2.1), (1, .ref (ad 0)), (2, .ref (ad 53))]) dL_law_1515 3 rfl kz_iconst_6 (by decide) rfl ?_
          refine go_goto (tgt := 18) dL_law_1518 rfl ?_
          refine go_sub (l' := [(0, .ref X.2.2.2.2.2.1), (1, .ref (ad 0)), (2, .ref (ad 53)), (3, .int (y3 + 6))]) [1, 2, 3, 0] rfl ?_
          exact ih _ _ _ h h1
        · replace h := q_f h hc
          refine go_iconst kz_iconst_0 dL_law_844 ?_
          exact l_ret h1 h dL_law_845
      replace h := q_f h hk_166
      by_cases hk_173 : ((X.2.2.2.2.2.2.2 y3.toNatClampNeg) &&& 63) = 17
      · replace h := q_t h hk_173
        refine h_tbT (tgt := 846) (off := 813) hk_173 dL_law_33 (by decide) (by decide) rfl rfl ?_
        refine go_aload_n rfl 1 rfl dL_law_846 ?_
        refine go_aload_n rfl 0 rfl dL_law_847 ?_
        refine go_iload_n rfl 3 rfl dL_law_848 ?_
        refine go_iconst kz_iconst_1 dL_law_849 ?_
        refine go_iadd dL_law_850 ?_
        obtain ⟨hg_174, h⟩ := q_g h
        refine go_sld (inb_in hg_174) dL_law_851 ?_
        refine go_aload_n rfl 0 rfl dL_law_852 ?_
        refine go_iload_n rfl 3 rfl dL_law_853 ?_
        refine go_iconst kz_iconst_2 dL_law_854 ?_
        refine go_iadd dL_law_855 ?_
        obtain ⟨hg_175, h⟩ := q_g h
        refine go_sld (inb_in hg_175) dL_law_856 ?_
        obtain ⟨r_176, h_177, h⟩ := q_b h
        refine h_callVi (st := []) [.int (X.2.2.2.2.2.2.2 (y3 + 1).toNatClampNeg), .int (X.2.2.2.2.2.2.2 (y3 + 2).toNatClampNeg)] (m_X8_where h_177) me_X8_where (g_recv cl6.1 rfl) tw_698 tw_699 tw_700 (by decide) ⟨by decide, by decide⟩ rfl rfl (Nat.le_of_ble_eq_true rfl) dL_law_857 ?_
        refine go_aload_n rfl 2 rfl dL_law_860 ?_
        refine go_aload_n rfl 0 rfl dL_law_861 ?_
        refine go_iload_n rfl 3 rfl dL_law_862 ?_
        refine go_iconst kz_iconst_1 dL_law_863 ?_
        refine go_iadd dL_law_864 ?_
        obtain ⟨hg_178, h⟩ := q_g h
        refine go_sld (inb_in hg_178) dL_law_865 ?_
        refine go_aload_n rfl 0 rfl dL_law_866 ?_
        refine go_iload_n rfl 3 rfl dL_law_867 ?_
        refine go_iconst kz_iconst_2 dL_law_868 ?_
        refine go_iadd dL_law_869 ?_
        obtain ⟨hg_179, h⟩ := q_g h
        refine go_sld (inb_in hg_179) dL_law_870 ?_
        obtain ⟨r_180, h_181, h⟩ := q_b h
        refine h_callVi (st := [.int r_176.1]) [.int (X.2.2.2.2.2.2.2 (y3 + 1).toNatClampNeg), .int (X.2.2.2.2.2.2.2 (y3 + 2).toNatClampNeg)] (m_X9_where h_181) me_X9_where (g_recv cl7.1 rfl) tw_1200 tw_1201 tw_1202 (by decide) ⟨by decide, by decide⟩ rfl rfl (Nat.le_of_ble_eq_true rfl) dL_law_871 ?_
        refine go_icmp_eq (tgt := 1515) dL_law_874 rfl (fun hc => ?_) (fun hc => ?_)
        · replace h := q_t h hc
          refine h_iinc (l' := [(3, .int (y3 + 6)), (0, .ref X.2.2.2.2.2.1), (1, .ref (ad 0)), (2, .ref (ad 53))]) dL_law_1515 3 rfl kz_iconst_6 (by decide) rfl ?_
          refine go_goto (tgt := 18) dL_law_1518 rfl ?_
          refine go_sub (l' := [(0, .ref X.2.2.2.2.2.1), (1, .ref (ad 0)), (2, .ref (ad 53)), (3, .int (y3 + 6))]) [1, 2, 3, 0] rfl ?_
          exact ih _ _ _ h h1
        · replace h := q_f h hc
          refine go_iconst kz_iconst_0 dL_law_877 ?_
          exact l_ret h1 h dL_law_878
      replace h := q_f h hk_173
      by_cases hk_182 : ((X.2.2.2.2.2.2.2 y3.toNatClampNeg) &&& 63) = 18
      · replace h := q_t h hk_182
        refine h_tbT (tgt := 879) (off := 846) hk_182 dL_law_33 (by decide) (by decide) rfl rfl ?_
        refine go_aload_n rfl 1 rfl dL_law_879 ?_
        refine go_aload_n rfl 0 rfl dL_law_880 ?_
        refine go_iload_n rfl 3 rfl dL_law_881 ?_
        refine go_iconst kz_iconst_1 dL_law_882 ?_
        refine go_iadd dL_law_883 ?_
        obtain ⟨hg_183, h⟩ := q_g h
        refine go_sld (inb_in hg_183) dL_law_884 ?_
        obtain ⟨r_184, h_185, h⟩ := q_b h
        refine h_callVi (st := []) [.int (X.2.2.2.2.2.2.2 (y3 + 1).toNatClampNeg)] (m_X8_chosen h_185) me_X8_chosen (g_recv cl6.1 rfl) tw_705 tw_706 tw_707 (by decide) ⟨by decide, by decide⟩ rfl rfl (Nat.le_of_ble_eq_true rfl) dL_law_885 ?_
        refine go_aload_n rfl 2 rfl dL_law_888 ?_
        refine go_aload_n rfl 0 rfl dL_law_889 ?_
        refine go_iload_n rfl 3 rfl dL_law_890 ?_
        refine go_iconst kz_iconst_1 dL_law_891 ?_
        refine go_iadd dL_law_892 ?_
        obtain ⟨hg_186, h⟩ := q_g h
        refine go_sld (inb_in hg_186) dL_law_893 ?_
        obtain ⟨r_187, h_188, h⟩ := q_b h
        refine h_callVi (st := [.int r_184.1]) [.int (X.2.2.2.2.2.2.2 (y3 + 1).toNatClampNeg)] (m_X9_chosen h_188) me_X9_chosen (g_recv cl7.1 rfl) tw_1223 tw_1224 tw_1225 (by decide) ⟨by decide, by decide⟩ rfl rfl (Nat.le_of_ble_eq_true rfl) dL_law_894 ?_
        refine go_icmp_eq (tgt := 1515) dL_law_897 rfl (fun hc => ?_) (fun hc => ?_)
        · replace h := q_t h hc
          refine h_iinc (l' := [(3, .int (y3 + 6)), (0, .ref X.2.2.2.2.2.1), (1, .ref (ad 0)), (2, .ref (ad 53))]) dL_law_1515 3 rfl kz_iconst_6 (by decide) rfl ?_
          refine go_goto (tgt := 18) dL_law_1518 rfl ?_
          refine go_sub (l' := [(0, .ref X.2.2.2.2.2.1), (1, .ref (ad 0)), (2, .ref (ad 53)), (3, .int (y3 + 6))]) [1, 2, 3, 0] rfl ?_
          exact ih _ _ _ h h1
        · replace h := q_f h hc
          refine go_iconst kz_iconst_0 dL_law_900 ?_
          exact l_ret h1 h dL_law_901
      replace h := q_f h hk_182
      by_cases hk_189 : ((X.2.2.2.2.2.2.2 y3.toNatClampNeg) &&& 63) = 19
      · replace h := q_t h hk_189
        refine h_tbT (tgt := 902) (off := 869) hk_189 dL_law_33 (by decide) (by decide) rfl rfl ?_
        refine go_aload_n rfl 1 rfl dL_law_902 ?_
        refine go_aload_n rfl 0 rfl dL_law_903 ?_
        refine go_iload_n rfl 3 rfl dL_law_904 ?_
        refine go_iconst kz_iconst_1 dL_law_905 ?_
        refine go_iadd dL_law_906 ?_
        obtain ⟨hg_190, h⟩ := q_g h
        refine go_sld (inb_in hg_190) dL_law_907 ?_
        refine go_aload_n rfl 0 rfl dL_law_908 ?_
        refine go_iload_n rfl 3 rfl dL_law_909 ?_
        refine go_iconst kz_iconst_2 dL_law_910 ?_
        refine go_iadd dL_law_911 ?_
        obtain ⟨hg_191, h⟩ := q_g h
        refine go_sld (inb_in hg_191) dL_law_912 ?_
        obtain ⟨r_192, h_193, h⟩ := q_b h
        refine h_callVi (st := []) [.int (X.2.2.2.2.2.2.2 (y3 + 1).toNatClampNeg), .int (X.2.2.2.2.2.2.2 (y3 + 2).toNatClampNeg)] (m_X8_hide h_193) me_X8_hide (g_recv cl6.1 rfl) tw_709 tw_710 tw_711 (by decide) ⟨by decide, by decide⟩ rfl rfl (Nat.le_of_ble_eq_true rfl) dL_law_913 ?_
        refine go_aload_n rfl 2 rfl dL_law_916 ?_
        refine go_aload_n rfl 0 rfl dL_law_917 ?_
        refine go_iload_n rfl 3 rfl dL_law_918 ?_
        refine go_iconst kz_iconst_1 dL_law_919 ?_
        refine go_iadd dL_law_920 ?_
        obtain ⟨hg_194, h⟩ := q_g h
        refine go_sld (inb_in hg_194) dL_law_921 ?_
        refine go_aload_n rfl 0 rfl dL_law_922 ?_
        refine go_iload_n rfl 3 rfl dL_law_923 ?_
        refine go_iconst kz_iconst_2 dL_law_924 ?_
        refine go_iadd dL_law_925 ?_
        obtain ⟨hg_195, h⟩ := q_g h
        refine go_sld (inb_in hg_195) dL_law_926 ?_
        obtain ⟨r_196, h_197, h⟩ := q_b h
        refine h_callVi (st := [.int r_192.1]) [.int (X.2.2.2.2.2.2.2 (y3 + 1).toNatClampNeg), .int (X.2.2.2.2.2.2.2 (y3 + 2).toNatClampNeg)] (m_X9_hide h_197) me_X9_hide (g_recv cl7.1 rfl) tw_1231 tw_1232 tw_1233 (by decide) ⟨by decide, by decide⟩ rfl rfl (Nat.le_of_ble_eq_true rfl) dL_law_927 ?_
        refine go_icmp_eq (tgt := 1515) dL_law_930 rfl (fun hc => ?_) (fun hc => ?_)
        · replace h := q_t h hc
          refine h_iinc (l' := [(3, .int (y3 + 6)), (0, .ref X.2.2.2.2.2.1), (1, .ref (ad 0)), (2, .ref (ad 53))]) dL_law_1515 3 rfl kz_iconst_6 (by decide) rfl ?_
          refine go_goto (tgt := 18) dL_law_1518 rfl ?_
          refine go_sub (l' := [(0, .ref X.2.2.2.2.2.1), (1, .ref (ad 0)), (2, .ref (ad 53)), (3, .int (y3 + 6))]) [1, 2, 3, 0] rfl ?_
          exact ih _ _ _ h h1
        · replace h := q_f h hc
          refine go_iconst kz_iconst_0 dL_law_933 ?_
          exact l_ret h1 h dL_law_934
      replace h := q_f h hk_189
      by_cases hk_198 : ((X.2.2.2.2.2.2.2 y3.toNatClampNeg) &&& 63) = 20
      · replace h := q_t h hk_198
        refine h_tbT (tgt := 935) (off := 902) hk_198 dL_law_33 (by decide) (by decide) rfl rfl ?_
        refine go_aload_n rfl 1 rfl dL_law_935 ?_
        refine go_aload_n rfl 0 rfl dL_law_936 ?_
        refine go_iload_n rfl 3 rfl dL_law_937 ?_
        refine go_iconst kz_iconst_1 dL_law_938 ?_
        refine go_iadd dL_law_939 ?_
        obtain ⟨hg_199, h⟩ := q_g h
        refine go_sld (inb_in hg_199) dL_law_940 ?_
        refine go_aload_n rfl 0 rfl dL_law_941 ?_
        refine go_iload_n rfl 3 rfl dL_law_942 ?_
        refine go_iconst kz_iconst_2 dL_law_943 ?_
        refine go_iadd dL_law_944 ?_
        obtain ⟨hg_200, h⟩ := q_g h
        refine go_sld (inb_in hg_200) dL_law_945 ?_
        obtain ⟨r_201, h_202, h⟩ := q_b h
        refine h_callVi (st := []) [.int (X.2.2.2.2.2.2.2 (y3 + 1).toNatClampNeg), .int (X.2.2.2.2.2.2.2 (y3 + 2).toNatClampNeg)] (m_X8_to h_202) me_X8_to (g_recv cl6.1 rfl) tw_718 tw_719 tw_720 (by decide) ⟨by decide, by decide⟩ rfl rfl (Nat.le_of_ble_eq_true rfl) dL_law_946 ?_
        refine go_aload_n rfl 2 rfl dL_law_949 ?_
        refine go_aload_n rfl 0 rfl dL_law_950 ?_
        refine go_iload_n rfl 3 rfl dL_law_951 ?_
        refine go_iconst kz_iconst_1 dL_law_952 ?_
        refine go_iadd dL_law_953 ?_
        obtain ⟨hg_203, h⟩ := q_g h
        refine go_sld (inb_in hg_203) dL_law_954 ?_
        refine go_aload_n rfl 0 rfl dL_law_955 ?_
        refine go_iload_n rfl 3 rfl dL_law_956 ?_
        refine go_iconst kz_iconst_2 dL_law_957 ?_
        refine go_iadd dL_law_958 ?_
        obtain ⟨hg_204, h⟩ := q_g h
        refine go_sld (inb_in hg_204) dL_law_959 ?_
        obtain ⟨r_205, h_206, h⟩ := q_b h
        refine h_callVi (st := [.int r_201.1]) [.int (X.2.2.2.2.2.2.2 (y3 + 1).toNatClampNeg), .int (X.2.2.2.2.2.2.2 (y3 + 2).toNatClampNeg)] (m_X9_to h_206) me_X9_to (g_recv cl7.1 rfl) tw_1239 tw_1240 tw_1241 (by decide) ⟨by decide, by decide⟩ rfl rfl (Nat.le_of_ble_eq_true rfl) dL_law_960 ?_
        refine go_icmp_eq (tgt := 1515) dL_law_963 rfl (fun hc => ?_) (fun hc => ?_)
        · replace h := q_t h hc
          refine h_iinc (l' := [(3, .int (y3 + 6)), (0, .ref X.2.2.2.2.2.1), (1, .ref (ad 0)), (2, .ref (ad 53))]) dL_law_1515 3 rfl kz_iconst_6 (by decide) rfl ?_
          refine go_goto (tgt := 18) dL_law_1518 rfl ?_
          refine go_sub (l' := [(0, .ref X.2.2.2.2.2.1), (1, .ref (ad 0)), (2, .ref (ad 53)), (3, .int (y3 + 6))]) [1, 2, 3, 0] rfl ?_
          exact ih _ _ _ h h1
        · replace h := q_f h hc
          refine go_iconst kz_iconst_0 dL_law_966 ?_
          exact l_ret h1 h dL_law_967
      replace h := q_f h hk_198
      by_cases hk_207 : ((X.2.2.2.2.2.2.2 y3.toNatClampNeg) &&& 63) = 21
      · replace h := q_t h hk_207
        refine h_tbT (tgt := 968) (off := 935) hk_207 dL_law_33 (by decide) (by decide) rfl rfl ?_
        refine go_aload_n rfl 1 rfl dL_law_968 ?_
        refine go_aload_n rfl 0 rfl dL_law_969 ?_
        refine go_iload_n rfl 3 rfl dL_law_970 ?_
        refine go_iconst kz_iconst_1 dL_law_971 ?_
        refine go_iadd dL_law_972 ?_
        obtain ⟨hg_208, h⟩ := q_g h
        refine go_sld (inb_in hg_208) dL_law_973 ?_
        refine go_aload_n rfl 0 rfl dL_law_974 ?_
        refine go_iload_n rfl 3 rfl dL_law_975 ?_
        refine go_iconst kz_iconst_2 dL_law_976 ?_
        refine go_iadd dL_law_977 ?_
        obtain ⟨hg_209, h⟩ := q_g h
        refine go_sld (inb_in hg_209) dL_law_978 ?_
        obtain ⟨r_210, h_211, h⟩ := q_b h
        refine h_callVi (st := []) [.int (X.2.2.2.2.2.2.2 (y3 + 1).toNatClampNeg), .int (X.2.2.2.2.2.2.2 (y3 + 2).toNatClampNeg)] (m_X8_spared h_211) me_X8_spared (g_recv cl6.1 rfl) tw_722 tw_723 tw_724 (by decide) ⟨by decide, by decide⟩ rfl rfl (Nat.le_of_ble_eq_true rfl) dL_law_979 ?_
        refine go_aload_n rfl 2 rfl dL_law_982 ?_
        refine go_aload_n rfl 0 rfl dL_law_983 ?_
        refine go_iload_n rfl 3 rfl dL_law_984 ?_
        refine go_iconst kz_iconst_1 dL_law_985 ?_
        refine go_iadd dL_law_986 ?_
        obtain ⟨hg_212, h⟩ := q_g h
        refine go_sld (inb_in hg_212) dL_law_987 ?_
        refine go_aload_n rfl 0 rfl dL_law_988 ?_
        refine go_iload_n rfl 3 rfl dL_law_989 ?_
        refine go_iconst kz_iconst_2 dL_law_990 ?_
        refine go_iadd dL_law_991 ?_
        obtain ⟨hg_213, h⟩ := q_g h
        refine go_sld (inb_in hg_213) dL_law_992 ?_
        obtain ⟨r_214, h_215, h⟩ := q_b h
        refine h_callVi (st := [.int r_210.1]) [.int (X.2.2.2.2.2.2.2 (y3 + 1).toNatClampNeg), .int (X.2.2.2.2.2.2.2 (y3 + 2).toNatClampNeg)] (m_X9_spared h_215) me_X9_spared (g_recv cl7.1 rfl) tw_1243 tw_1244 tw_1245 (by decide) ⟨by decide, by decide⟩ rfl rfl (Nat.le_of_ble_eq_true rfl) dL_law_993 ?_
        refine go_icmp_eq (tgt := 1515) dL_law_996 rfl (fun hc => ?_) (fun hc => ?_)
        · replace h := q_t h hc
          refine h_iinc (l' := [(3, .int (y3 + 6)), (0, .ref X.2.2.2.2.2.1), (1, .ref (ad 0)), (2, .ref (ad 53))]) dL_law_1515 3 rfl kz_iconst_6 (by decide) rfl ?_
          refine go_goto (tgt := 18) dL_law_1518 rfl ?_
          refine go_sub (l' := [(0, .ref X.2.2.2.2.2.1), (1, .ref (ad 0)), (2, .ref (ad 53)), (3, .int (y3 + 6))]) [1, 2, 3, 0] rfl ?_
          exact ih _ _ _ h h1
        · replace h := q_f h hc
          refine go_iconst kz_iconst_0 dL_law_999 ?_
          exact l_ret h1 h dL_law_1000
      replace h := q_f h hk_207
      by_cases hk_216 : ((X.2.2.2.2.2.2.2 y3.toNatClampNeg) &&& 63) = 22
      · replace h := q_t h hk_216
        refine h_tbT (tgt := 1001) (off := 968) hk_216 dL_law_33 (by decide) (by decide) rfl rfl ?_
        refine go_aload_n rfl 1 rfl dL_law_1001 ?_
        refine go_aload_n rfl 0 rfl dL_law_1002 ?_
        refine go_iload_n rfl 3 rfl dL_law_1003 ?_
        refine go_iconst kz_iconst_1 dL_law_1004 ?_
        refine go_iadd dL_law_1005 ?_
        obtain ⟨hg_217, h⟩ := q_g h
        refine go_sld (inb_in hg_217) dL_law_1006 ?_
        refine go_aload_n rfl 0 rfl dL_law_1007 ?_
        refine go_iload_n rfl 3 rfl dL_law_1008 ?_
        refine go_iconst kz_iconst_2 dL_law_1009 ?_
        refine go_iadd dL_law_1010 ?_
        obtain ⟨hg_218, h⟩ := q_g h
        refine go_sld (inb_in hg_218) dL_law_1011 ?_
        refine go_aload_n rfl 0 rfl dL_law_1012 ?_
        refine go_iload_n rfl 3 rfl dL_law_1013 ?_
        refine go_iconst kz_iconst_3 dL_law_1014 ?_
        refine go_iadd dL_law_1015 ?_
        obtain ⟨hg_219, h⟩ := q_g h
        refine go_sld (inb_in hg_219) dL_law_1016 ?_
        obtain ⟨r_220, h_221, h⟩ := q_b h
        refine h_callVi (st := []) [.int (X.2.2.2.2.2.2.2 (y3 + 1).toNatClampNeg), .int (X.2.2.2.2.2.2.2 (y3 + 2).toNatClampNeg), .int (X.2.2.2.2.2.2.2 (y3 + 3).toNatClampNeg)] (m_X8_wanting h_221) me_X8_wanting (g_recv cl6.1 rfl) tw_727 tw_728 tw_729 (by decide) ⟨by decide, by decide⟩ rfl rfl (Nat.le_of_ble_eq_true rfl) dL_law_1017 ?_
        refine go_aload_n rfl 2 rfl dL_law_1020 ?_
        refine go_aload_n rfl 0 rfl dL_law_1021 ?_
        refine go_iload_n rfl 3 rfl dL_law_1022 ?_
        refine go_iconst kz_iconst_1 dL_law_1023 ?_
        refine go_iadd dL_law_1024 ?_
        obtain ⟨hg_222, h⟩ := q_g h
        refine go_sld (inb_in hg_222) dL_law_1025 ?_
        refine go_aload_n rfl 0 rfl dL_law_1026 ?_
        refine go_iload_n rfl 3 rfl dL_law_1027 ?_
        refine go_iconst kz_iconst_2 dL_law_1028 ?_
        refine go_iadd dL_law_1029 ?_
        obtain ⟨hg_223, h⟩ := q_g h
        refine go_sld (inb_in hg_223) dL_law_1030 ?_
        refine go_aload_n rfl 0 rfl dL_law_1031 ?_
        refine go_iload_n rfl 3 rfl dL_law_1032 ?_
        refine go_iconst kz_iconst_3 dL_law_1033 ?_
        refine go_iadd dL_law_1034 ?_
        obtain ⟨hg_224, h⟩ := q_g h
        refine go_sld (inb_in hg_224) dL_law_1035 ?_
        obtain ⟨r_225, h_226, h⟩ := q_b h
        refine h_callVi (st := [.int r_220.1]) [.int (X.2.2.2.2.2.2.2 (y3 + 1).toNatClampNeg), .int (X.2.2.2.2.2.2.2 (y3 + 2).toNatClampNeg), .int (X.2.2.2.2.2.2.2 (y3 + 3).toNatClampNeg)] (m_X9_wanting h_226) me_X9_wanting (g_recv cl7.1 rfl) tw_1247 tw_1248 tw_1249 (by decide) ⟨by decide, by decide⟩ rfl rfl (Nat.le_of_ble_eq_true rfl) dL_law_1036 ?_
        refine go_icmp_eq (tgt := 1515) dL_law_1039 rfl (fun hc => ?_) (fun hc => ?_)
        · replace h := q_t h hc
          refine h_iinc (l' := [(3, .int (y3 + 6)), (0, .ref X.2.2.2.2.2.1), (1, .ref (ad 0)), (2, .ref (ad 53))]) dL_law_1515 3 rfl kz_iconst_6 (by decide) rfl ?_
          refine go_goto (tgt := 18) dL_law_1518 rfl ?_
          refine go_sub (l' := [(0, .ref X.2.2.2.2.2.1), (1, .ref (ad 0)), (2, .ref (ad 53)), (3, .int (y3 + 6))]) [1, 2, 3, 0] rfl ?_
          exact ih _ _ _ h h1
        · replace h := q_f h hc
          refine go_iconst kz_iconst_0 dL_law_1042 ?_
          exact l_ret h1 h dL_law_1043
      replace h := q_f h hk_216
      by_cases hk_227 : ((X.2.2.2.2.2.2.2 y3.toNatClampNeg) &&& 63) = 23
      · replace h := q_t h hk_227
        refine h_tbT (tgt := 1044) (off := 1011) hk_227 dL_law_33 (by decide) (by decide) rfl rfl ?_
        refine go_aload_n rfl 1 rfl dL_law_1044 ?_
        refine go_aload_n rfl 0 rfl dL_law_1045 ?_
        refine go_iload_n rfl 3 rfl dL_law_1046 ?_
        refine go_iconst kz_iconst_1 dL_law_1047 ?_
        refine go_iadd dL_law_1048 ?_
        obtain ⟨hg_228, h⟩ := q_g h
        refine go_sld (inb_in hg_228) dL_law_1049 ?_
        refine go_aload_n rfl 0 rfl dL_law_1050 ?_
        refine go_iload_n rfl 3 rfl dL_law_1051 ?_
        refine go_iconst kz_iconst_2 dL_law_1052 ?_
        refine go_iadd dL_law_1053 ?_
        obtain ⟨hg_229, h⟩ := q_g h
        refine go_sld (inb_in hg_229) dL_law_1054 ?_
        obtain ⟨r_230, h_231, h⟩ := q_b h
        refine h_callVi (st := []) [.int (X.2.2.2.2.2.2.2 (y3 + 1).toNatClampNeg), .int (X.2.2.2.2.2.2.2 (y3 + 2).toNatClampNeg)] (m_X8_without h_231) me_X8_without (g_recv cl6.1 rfl) tw_731 tw_732 tw_733 (by decide) ⟨by decide, by decide⟩ rfl rfl (Nat.le_of_ble_eq_true rfl) dL_law_1055 ?_
        refine go_aload_n rfl 2 rfl dL_law_1058 ?_
        refine go_aload_n rfl 0 rfl dL_law_1059 ?_
        refine go_iload_n rfl 3 rfl dL_law_1060 ?_
        refine go_iconst kz_iconst_1 dL_law_1061 ?_
        refine go_iadd dL_law_1062 ?_
        obtain ⟨hg_232, h⟩ := q_g h
        refine go_sld (inb_in hg_232) dL_law_1063 ?_
        refine go_aload_n rfl 0 rfl dL_law_1064 ?_
        refine go_iload_n rfl 3 rfl dL_law_1065 ?_
        refine go_iconst kz_iconst_2 dL_law_1066 ?_
        refine go_iadd dL_law_1067 ?_
        obtain ⟨hg_233, h⟩ := q_g h
        refine go_sld (inb_in hg_233) dL_law_1068 ?_
        obtain ⟨r_234, h_235, h⟩ := q_b h
        refine h_callVi (st := [.int r_230.1]) [.int (X.2.2.2.2.2.2.2 (y3 + 1).toNatClampNeg), .int (X.2.2.2.2.2.2.2 (y3 + 2).toNatClampNeg)] (m_X9_without h_235) me_X9_without (g_recv cl7.1 rfl) tw_1251 tw_1252 tw_1253 (by decide) ⟨by decide, by decide⟩ rfl rfl (Nat.le_of_ble_eq_true rfl) dL_law_1069 ?_
        refine go_icmp_eq (tgt := 1515) dL_law_1072 rfl (fun hc => ?_) (fun hc => ?_)
        · replace h := q_t h hc
          refine h_iinc (l' := [(3, .int (y3 + 6)), (0, .ref X.2.2.2.2.2.1), (1, .ref (ad 0)), (2, .ref (ad 53))]) dL_law_1515 3 rfl kz_iconst_6 (by decide) rfl ?_
          refine go_goto (tgt := 18) dL_law_1518 rfl ?_
          refine go_sub (l' := [(0, .ref X.2.2.2.2.2.1), (1, .ref (ad 0)), (2, .ref (ad 53)), (3, .int (y3 + 6))]) [1, 2, 3, 0] rfl ?_
          exact ih _ _ _ h h1
        · replace h := q_f h hc
          refine go_iconst kz_iconst_0 dL_law_1075 ?_
          exact l_ret h1 h dL_law_1076
      replace h := q_f h hk_227
      by_cases hk_236 : ((X.2.2.2.2.2.2.2 y3.toNatClampNeg) &&& 63) = 24
      · replace h := q_t h hk_236
        refine h_tbT (tgt := 1077) (off := 1044) hk_236 dL_law_33 (by decide) (by decide) rfl rfl ?_
        refine go_aload_n rfl 1 rfl dL_law_1077 ?_
        refine go_aload_n rfl 0 rfl dL_law_1078 ?_
        refine go_iload_n rfl 3 rfl dL_law_1079 ?_
        refine go_iconst kz_iconst_1 dL_law_1080 ?_
        refine go_iadd dL_law_1081 ?_
        obtain ⟨hg_237, h⟩ := q_g h
        refine go_sld (inb_in hg_237) dL_law_1082 ?_
        refine go_aload_n rfl 0 rfl dL_law_1083 ?_
        refine go_iload_n rfl 3 rfl dL_law_1084 ?_
        refine go_iconst kz_iconst_2 dL_law_1085 ?_
        refine go_iadd dL_law_1086 ?_
        obtain ⟨hg_238, h⟩ := q_g h
        refine go_sld (inb_in hg_238) dL_law_1087 ?_
        refine go_aload_n rfl 0 rfl dL_law_1088 ?_
        refine go_iload_n rfl 3 rfl dL_law_1089 ?_
        refine go_iconst kz_iconst_3 dL_law_1090 ?_
        refine go_iadd dL_law_1091 ?_
        obtain ⟨hg_239, h⟩ := q_g h
        refine go_sld (inb_in hg_239) dL_law_1092 ?_
        refine go_aload_n rfl 0 rfl dL_law_1093 ?_
        refine go_iload_n rfl 3 rfl dL_law_1094 ?_
        refine go_iconst kz_iconst_4 dL_law_1095 ?_
        refine go_iadd dL_law_1096 ?_
        obtain ⟨hg_240, h⟩ := q_g h
        refine go_sld (inb_in hg_240) dL_law_1097 ?_
        obtain ⟨r_241, h_242, h⟩ := q_b h
        refine h_callVi (st := []) [.int (X.2.2.2.2.2.2.2 (y3 + 1).toNatClampNeg), .int (X.2.2.2.2.2.2.2 (y3 + 2).toNatClampNeg), .int (X.2.2.2.2.2.2.2 (y3 + 3).toNatClampNeg), .int (X.2.2.2.2.2.2.2 (y3 + 4).toNatClampNeg)] (m_X8_fits h_242) me_X8_fits (g_recv cl6.1 rfl) tw_735 tw_736 tw_737 (by decide) ⟨by decide, by decide⟩ rfl rfl (Nat.le_of_ble_eq_true rfl) dL_law_1098 ?_
        refine go_aload_n rfl 2 rfl dL_law_1101 ?_
        refine go_aload_n rfl 0 rfl dL_law_1102 ?_
        refine go_iload_n rfl 3 rfl dL_law_1103 ?_
        refine go_iconst kz_iconst_1 dL_law_1104 ?_
        refine go_iadd dL_law_1105 ?_
        obtain ⟨hg_243, h⟩ := q_g h
        refine go_sld (inb_in hg_243) dL_law_1106 ?_
        refine go_aload_n rfl 0 rfl dL_law_1107 ?_
        refine go_iload_n rfl 3 rfl dL_law_1108 ?_
        refine go_iconst kz_iconst_2 dL_law_1109 ?_
        refine go_iadd dL_law_1110 ?_
        obtain ⟨hg_244, h⟩ := q_g h
        refine go_sld (inb_in hg_244) dL_law_1111 ?_
        refine go_aload_n rfl 0 rfl dL_law_1112 ?_
        refine go_iload_n rfl 3 rfl dL_law_1113 ?_
        refine go_iconst kz_iconst_3 dL_law_1114 ?_
        refine go_iadd dL_law_1115 ?_
        obtain ⟨hg_245, h⟩ := q_g h
        refine go_sld (inb_in hg_245) dL_law_1116 ?_
        refine go_aload_n rfl 0 rfl dL_law_1117 ?_
        refine go_iload_n rfl 3 rfl dL_law_1118 ?_
        refine go_iconst kz_iconst_4 dL_law_1119 ?_
        refine go_iadd dL_law_1120 ?_
        obtain ⟨hg_246, h⟩ := q_g h
        refine go_sld (inb_in hg_246) dL_law_1121 ?_
        obtain ⟨r_247, h_248, h⟩ := q_b h
        refine h_callVi (st := [.int r_241.1]) [.int (X.2.2.2.2.2.2.2 (y3 + 1).toNatClampNeg), .int (X.2.2.2.2.2.2.2 (y3 + 2).toNatClampNeg), .int (X.2.2.2.2.2.2.2 (y3 + 3).toNatClampNeg), .int (X.2.2.2.2.2.2.2 (y3 + 4).toNatClampNeg)] (m_X9_fits h_248) me_X9_fits (g_recv cl7.1 rfl) tw_1255 tw_1256 tw_1257 (by decide) ⟨by decide, by decide⟩ rfl rfl (Nat.le_of_ble_eq_true rfl) dL_law_1122 ?_
        refine go_icmp_eq (tgt := 1515) dL_law_1125 rfl (fun hc => ?_) (fun hc => ?_)
        · replace h := q_t h hc
          refine h_iinc (l' := [(3, .int (y3 + 6)), (0, .ref X.2.2.2.2.2.1), (1, .ref (ad 0)), (2, .ref (ad 53))]) dL_law_1515 3 rfl kz_iconst_6 (by decide) rfl ?_
          refine go_goto (tgt := 18) dL_law_1518 rfl ?_
          refine go_sub (l' := [(0, .ref X.2.2.2.2.2.1), (1, .ref (ad 0)), (2, .ref (ad 53)), (3, .int (y3 + 6))]) [1, 2, 3, 0] rfl ?_
          exact ih _ _ _ h h1
        · replace h := q_f h hc
          refine go_iconst kz_iconst_0 dL_law_1128 ?_
          exact l_ret h1 h dL_law_1129
      replace h := q_f h hk_236
      by_cases hk_249 : ((X.2.2.2.2.2.2.2 y3.toNatClampNeg) &&& 63) = 25
      · replace h := q_t h hk_249
        refine h_tbT (tgt := 1130) (off := 1097) hk_249 dL_law_33 (by decide) (by decide) rfl rfl ?_
        refine go_aload_n rfl 1 rfl dL_law_1130 ?_
        refine go_aload_n rfl 0 rfl dL_law_1131 ?_
        refine go_iload_n rfl 3 rfl dL_law_1132 ?_
        refine go_iconst kz_iconst_1 dL_law_1133 ?_
        refine go_iadd dL_law_1134 ?_
        obtain ⟨hg_250, h⟩ := q_g h
        refine go_sld (inb_in hg_250) dL_law_1135 ?_
        refine go_aload_n rfl 0 rfl dL_law_1136 ?_
        refine go_iload_n rfl 3 rfl dL_law_1137 ?_
        refine go_iconst kz_iconst_2 dL_law_1138 ?_
        refine go_iadd dL_law_1139 ?_
        obtain ⟨hg_251, h⟩ := q_g h
        refine go_sld (inb_in hg_251) dL_law_1140 ?_
        obtain ⟨r_252, h_253, h⟩ := q_b h
        refine h_callVi (st := []) [.int (X.2.2.2.2.2.2.2 (y3 + 1).toNatClampNeg), .int (X.2.2.2.2.2.2.2 (y3 + 2).toNatClampNeg)] (m_X8_tells h_253) me_X8_tells (g_recv cl6.1 rfl) tw_753 tw_754 tw_755 (by decide) ⟨by decide, by decide⟩ rfl rfl (Nat.le_of_ble_eq_true rfl) dL_law_1141 ?_
        refine go_aload_n rfl 2 rfl dL_law_1144 ?_
        refine go_aload_n rfl 0 rfl dL_law_1145 ?_
        refine go_iload_n rfl 3 rfl dL_law_1146 ?_
        refine go_iconst kz_iconst_1 dL_law_1147 ?_
        refine go_iadd dL_law_1148 ?_
        obtain ⟨hg_254, h⟩ := q_g h
        refine go_sld (inb_in hg_254) dL_law_1149 ?_
        refine go_aload_n rfl 0 rfl dL_law_1150 ?_
        refine go_iload_n rfl 3 rfl dL_law_1151 ?_
        refine go_iconst kz_iconst_2 dL_law_1152 ?_
        refine go_iadd dL_law_1153 ?_
        obtain ⟨hg_255, h⟩ := q_g h
        refine go_sld (inb_in hg_255) dL_law_1154 ?_
        obtain ⟨r_256, h_257, h⟩ := q_b h
        refine h_callVi (st := [.int r_252.1]) [.int (X.2.2.2.2.2.2.2 (y3 + 1).toNatClampNeg), .int (X.2.2.2.2.2.2.2 (y3 + 2).toNatClampNeg)] (m_X9_tells h_257) me_X9_tells (g_recv cl7.1 rfl) tw_1267 tw_1268 tw_1269 (by decide) ⟨by decide, by decide⟩ rfl rfl (Nat.le_of_ble_eq_true rfl) dL_law_1155 ?_
        refine go_icmp_eq (tgt := 1515) dL_law_1158 rfl (fun hc => ?_) (fun hc => ?_)
        · replace h := q_t h hc
          refine h_iinc (l' := [(3, .int (y3 + 6)), (0, .ref X.2.2.2.2.2.1), (1, .ref (ad 0)), (2, .ref (ad 53))]) dL_law_1515 3 rfl kz_iconst_6 (by decide) rfl ?_
          refine go_goto (tgt := 18) dL_law_1518 rfl ?_
          refine go_sub (l' := [(0, .ref X.2.2.2.2.2.1), (1, .ref (ad 0)), (2, .ref (ad 53)), (3, .int (y3 + 6))]) [1, 2, 3, 0] rfl ?_
          exact ih _ _ _ h h1
        · replace h := q_f h hc
          refine go_iconst kz_iconst_0 dL_law_1161 ?_
          exact l_ret h1 h dL_law_1162
      replace h := q_f h hk_249
      by_cases hk_258 : ((X.2.2.2.2.2.2.2 y3.toNatClampNeg) &&& 63) = 26
      · replace h := q_t h hk_258
        refine h_tbT (tgt := 1163) (off := 1130) hk_258 dL_law_33 (by decide) (by decide) rfl rfl ?_
        refine go_aload_n rfl 1 rfl dL_law_1163 ?_
        refine go_aload_n rfl 0 rfl dL_law_1164 ?_
        refine go_iload_n rfl 3 rfl dL_law_1165 ?_
        refine go_iconst kz_iconst_1 dL_law_1166 ?_
        refine go_iadd dL_law_1167 ?_
        obtain ⟨hg_259, h⟩ := q_g h
        refine go_sld (inb_in hg_259) dL_law_1168 ?_
        refine go_aload_n rfl 0 rfl dL_law_1169 ?_
        refine go_iload_n rfl 3 rfl dL_law_1170 ?_
        refine go_iconst kz_iconst_2 dL_law_1171 ?_
        refine go_iadd dL_law_1172 ?_
        obtain ⟨hg_260, h⟩ := q_g h
        refine go_sld (inb_in hg_260) dL_law_1173 ?_
        obtain ⟨r_261, h_262, h⟩ := q_b h
        refine h_callVi (st := []) [.int (X.2.2.2.2.2.2.2 (y3 + 1).toNatClampNeg), .int (X.2.2.2.2.2.2.2 (y3 + 2).toNatClampNeg)] (m_X8_power h_262) me_X8_power (g_recv cl6.1 rfl) tw_773 tw_774 tw_775 (by decide) ⟨by decide, by decide⟩ rfl rfl (Nat.le_of_ble_eq_true rfl) dL_law_1174 ?_
        refine go_aload_n rfl 2 rfl dL_law_1177 ?_
        refine go_aload_n rfl 0 rfl dL_law_1178 ?_
        refine go_iload_n rfl 3 rfl dL_law_1179 ?_
        refine go_iconst kz_iconst_1 dL_law_1180 ?_
        refine go_iadd dL_law_1181 ?_
        obtain ⟨hg_263, h⟩ := q_g h
        refine go_sld (inb_in hg_263) dL_law_1182 ?_
        refine go_aload_n rfl 0 rfl dL_law_1183 ?_
        refine go_iload_n rfl 3 rfl dL_law_1184 ?_
        refine go_iconst kz_iconst_2 dL_law_1185 ?_
        refine go_iadd dL_law_1186 ?_
        obtain ⟨hg_264, h⟩ := q_g h
        refine go_sld (inb_in hg_264) dL_law_1187 ?_
        obtain ⟨r_265, h_266, h⟩ := q_b h
        refine h_callVi (st := [.int r_261.1]) [.int (X.2.2.2.2.2.2.2 (y3 + 1).toNatClampNeg), .int (X.2.2.2.2.2.2.2 (y3 + 2).toNatClampNeg)] (m_X9_power h_266) me_X9_power (g_recv cl7.1 rfl) tw_1276 tw_1277 tw_1278 (by decide) ⟨by decide, by decide⟩ rfl rfl (Nat.le_of_ble_eq_true rfl) dL_law_1188 ?_
        refine go_icmp_eq (tgt := 1515) dL_law_1191 rfl (fun hc => ?_) (fun hc => ?_)
        · replace h := q_t h hc
          refine h_iinc (l' := [(3, .int (y3 + 6)), (0, .ref X.2.2.2.2.2.1), (1, .ref (ad 0)), (2, .ref (ad 53))]) dL_law_1515 3 rfl kz_iconst_6 (by decide) rfl ?_
          refine go_goto (tgt := 18) dL_law_1518 rfl ?_
          refine go_sub (l' := [(0, .ref X.2.2.2.2.2.1), (1, .ref (ad 0)), (2, .ref (ad 53)), (3, .int (y3 + 6))]) [1, 2, 3, 0] rfl ?_
          exact ih _ _ _ h h1
        · replace h := q_f h hc
          refine go_iconst kz_iconst_0 dL_law_1194 ?_
          exact l_ret h1 h dL_law_1195
      replace h := q_f h hk_258
      by_cases hk_267 : ((X.2.2.2.2.2.2.2 y3.toNatClampNeg) &&& 63) = 27
      · replace h := q_t h hk_267
        refine h_tbT (tgt := 1196) (off := 1163) hk_267 dL_law_33 (by decide) (by decide) rfl rfl ?_
        refine go_aload_n rfl 1 rfl dL_law_1196 ?_
        refine go_aload_n rfl 0 rfl dL_law_1197 ?_
        refine go_iload_n rfl 3 rfl dL_law_1198 ?_
        refine go_iconst kz_iconst_1 dL_law_1199 ?_
        refine go_iadd dL_law_1200 ?_
        obtain ⟨hg_268, h⟩ := q_g h
        refine go_sld (inb_in hg_268) dL_law_1201 ?_
        obtain ⟨r_269, h_270, h⟩ := q_b h
        refine h_callVi (st := []) [.int (X.2.2.2.2.2.2.2 (y3 + 1).toNatClampNeg)] (m_X8_carries h_270) me_X8_carries (g_recv cl6.1 rfl) tw_802 tw_803 tw_804 (by decide) ⟨by decide, by decide⟩ rfl rfl (Nat.le_of_ble_eq_true rfl) dL_law_1202 ?_
        refine go_aload_n rfl 2 rfl dL_law_1205 ?_
        refine go_aload_n rfl 0 rfl dL_law_1206 ?_
        refine go_iload_n rfl 3 rfl dL_law_1207 ?_
        refine go_iconst kz_iconst_1 dL_law_1208 ?_
        refine go_iadd dL_law_1209 ?_
        obtain ⟨hg_271, h⟩ := q_g h
        refine go_sld (inb_in hg_271) dL_law_1210 ?_
        obtain ⟨r_272, h_273, h⟩ := q_b h
        refine h_callVi (st := [.int r_269.1]) [.int (X.2.2.2.2.2.2.2 (y3 + 1).toNatClampNeg)] (m_X9_carries h_273) me_X9_carries (g_recv cl7.1 rfl) tw_1296 tw_1297 tw_1298 (by decide) ⟨by decide, by decide⟩ rfl rfl (Nat.le_of_ble_eq_true rfl) dL_law_1211 ?_
        refine go_icmp_eq (tgt := 1515) dL_law_1214 rfl (fun hc => ?_) (fun hc => ?_)
        · replace h := q_t h hc
          refine h_iinc (l' := [(3, .int (y3 + 6)), (0, .ref X.2.2.2.2.2.1), (1, .ref (ad 0)), (2, .ref (ad 53))]) dL_law_1515 3 rfl kz_iconst_6 (by decide) rfl ?_
          refine go_goto (tgt := 18) dL_law_1518 rfl ?_
          refine go_sub (l' := [(0, .ref X.2.2.2.2.2.1), (1, .ref (ad 0)), (2, .ref (ad 53)), (3, .int (y3 + 6))]) [1, 2, 3, 0] rfl ?_
          exact ih _ _ _ h h1
        · replace h := q_f h hc
          refine go_iconst kz_iconst_0 dL_law_1217 ?_
          exact l_ret h1 h dL_law_1218
      replace h := q_f h hk_267
      by_cases hk_274 : ((X.2.2.2.2.2.2.2 y3.toNatClampNeg) &&& 63) = 28
      · replace h := q_t h hk_274
        refine h_tbT (tgt := 1219) (off := 1186) hk_274 dL_law_33 (by decide) (by decide) rfl rfl ?_
        refine go_aload_n rfl 1 rfl dL_law_1219 ?_
        refine go_aload_n rfl 0 rfl dL_law_1220 ?_
        refine go_iload_n rfl 3 rfl dL_law_1221 ?_
        refine go_iconst kz_iconst_1 dL_law_1222 ?_
        refine go_iadd dL_law_1223 ?_
        obtain ⟨hg_275, h⟩ := q_g h
        refine go_sld (inb_in hg_275) dL_law_1224 ?_
        obtain ⟨r_276, h_277, h⟩ := q_b h
        refine h_callVi (st := []) [.int (X.2.2.2.2.2.2.2 (y3 + 1).toNatClampNeg)] (m_X8_bell h_277) me_X8_bell (g_recv cl6.1 rfl) tw_809 tw_810 tw_811 (by decide) ⟨by decide, by decide⟩ rfl rfl (Nat.le_of_ble_eq_true rfl) dL_law_1225 ?_
        refine go_aload_n rfl 2 rfl dL_law_1228 ?_
        refine go_aload_n rfl 0 rfl dL_law_1229 ?_
        refine go_iload_n rfl 3 rfl dL_law_1230 ?_
        refine go_iconst kz_iconst_1 dL_law_1231 ?_
        refine go_iadd dL_law_1232 ?_
        obtain ⟨hg_278, h⟩ := q_g h
        refine go_sld (inb_in hg_278) dL_law_1233 ?_
        obtain ⟨r_279, h_280, h⟩ := q_b h
        refine h_callVi (st := [.int r_276.1]) [.int (X.2.2.2.2.2.2.2 (y3 + 1).toNatClampNeg)] (m_X9_bell h_280) me_X9_bell (g_recv cl7.1 rfl) tw_1300 tw_1301 tw_1302 (by decide) ⟨by decide, by decide⟩ rfl rfl (Nat.le_of_ble_eq_true rfl) dL_law_1234 ?_
        refine go_icmp_eq (tgt := 1515) dL_law_1237 rfl (fun hc => ?_) (fun hc => ?_)
        · replace h := q_t h hc
          refine h_iinc (l' := [(3, .int (y3 + 6)), (0, .ref X.2.2.2.2.2.1), (1, .ref (ad 0)), (2, .ref (ad 53))]) dL_law_1515 3 rfl kz_iconst_6 (by decide) rfl ?_
          refine go_goto (tgt := 18) dL_law_1518 rfl ?_
          refine go_sub (l' := [(0, .ref X.2.2.2.2.2.1), (1, .ref (ad 0)), (2, .ref (ad 53)), (3, .int (y3 + 6))]) [1, 2, 3, 0] rfl ?_
          exact ih _ _ _ h h1
        · replace h := q_f h hc
          refine go_iconst kz_iconst_0 dL_law_1240 ?_
          exact l_ret h1 h dL_law_1241
      replace h := q_f h hk_274
      by_cases hk_281 : ((X.2.2.2.2.2.2.2 y3.toNatClampNeg) &&& 63) = 29
      · replace h := q_t h hk_281
        refine h_tbT (tgt := 1242) (off := 1209) hk_281 dL_law_33 (by decide) (by decide) rfl rfl ?_
        refine go_aload_n rfl 1 rfl dL_law_1242 ?_
        refine go_aload_n rfl 0 rfl dL_law_1243 ?_
        refine go_iload_n rfl 3 rfl dL_law_1244 ?_
        refine go_iconst kz_iconst_1 dL_law_1245 ?_
        refine go_iadd dL_law_1246 ?_
        obtain ⟨hg_282, h⟩ := q_g h
        refine go_sld (inb_in hg_282) dL_law_1247 ?_
        refine go_aload_n rfl 0 rfl dL_law_1248 ?_
        refine go_iload_n rfl 3 rfl dL_law_1249 ?_
        refine go_iconst kz_iconst_2 dL_law_1250 ?_
        refine go_iadd dL_law_1251 ?_
        obtain ⟨hg_283, h⟩ := q_g h
        refine go_sld (inb_in hg_283) dL_law_1252 ?_
        obtain ⟨r_284, h_285, h⟩ := q_b h
        refine h_callVi (st := []) [.int (X.2.2.2.2.2.2.2 (y3 + 1).toNatClampNeg), .int (X.2.2.2.2.2.2.2 (y3 + 2).toNatClampNeg)] (m_X8_crowd h_285) me_X8_crowd (g_recv cl6.1 rfl) tw_814 tw_815 tw_816 (by decide) ⟨by decide, by decide⟩ rfl rfl (Nat.le_of_ble_eq_true rfl) dL_law_1253 ?_
        refine go_aload_n rfl 2 rfl dL_law_1256 ?_
        refine go_aload_n rfl 0 rfl dL_law_1257 ?_
        refine go_iload_n rfl 3 rfl dL_law_1258 ?_
        refine go_iconst kz_iconst_1 dL_law_1259 ?_
        refine go_iadd dL_law_1260 ?_
        obtain ⟨hg_286, h⟩ := q_g h
        refine go_sld (inb_in hg_286) dL_law_1261 ?_
        refine go_aload_n rfl 0 rfl dL_law_1262 ?_
        refine go_iload_n rfl 3 rfl dL_law_1263 ?_
        refine go_iconst kz_iconst_2 dL_law_1264 ?_
        refine go_iadd dL_law_1265 ?_
        obtain ⟨hg_287, h⟩ := q_g h
        refine go_sld (inb_in hg_287) dL_law_1266 ?_
        obtain ⟨r_288, h_289, h⟩ := q_b h
        refine h_callVi (st := [.int r_284.1]) [.int (X.2.2.2.2.2.2.2 (y3 + 1).toNatClampNeg), .int (X.2.2.2.2.2.2.2 (y3 + 2).toNatClampNeg)] (m_X9_crowd h_289) me_X9_crowd (g_recv cl7.1 rfl) tw_1304 tw_1305 tw_1306 (by decide) ⟨by decide, by decide⟩ rfl rfl (Nat.le_of_ble_eq_true rfl) dL_law_1267 ?_
        refine go_icmp_eq (tgt := 1515) dL_law_1270 rfl (fun hc => ?_) (fun hc => ?_)
        · replace h := q_t h hc
          refine h_iinc (l' := [(3, .int (y3 + 6)), (0, .ref X.2.2.2.2.2.1), (1, .ref (ad 0)), (2, .ref (ad 53))]) dL_law_1515 3 rfl kz_iconst_6 (by decide) rfl ?_
          refine go_goto (tgt := 18) dL_law_1518 rfl ?_
          refine go_sub (l' := [(0, .ref X.2.2.2.2.2.1), (1, .ref (ad 0)), (2, .ref (ad 53)), (3, .int (y3 + 6))]) [1, 2, 3, 0] rfl ?_
          exact ih _ _ _ h h1
        · replace h := q_f h hc
          refine go_iconst kz_iconst_0 dL_law_1273 ?_
          exact l_ret h1 h dL_law_1274
      replace h := q_f h hk_281
      by_cases hk_290 : ((X.2.2.2.2.2.2.2 y3.toNatClampNeg) &&& 63) = 30
      · replace h := q_t h hk_290
        refine h_tbT (tgt := 1275) (off := 1242) hk_290 dL_law_33 (by decide) (by decide) rfl rfl ?_
        refine go_aload_n rfl 1 rfl dL_law_1275 ?_
        refine go_aload_n rfl 0 rfl dL_law_1276 ?_
        refine go_iload_n rfl 3 rfl dL_law_1277 ?_
        refine go_iconst kz_iconst_1 dL_law_1278 ?_
        refine go_iadd dL_law_1279 ?_
        obtain ⟨hg_291, h⟩ := q_g h
        refine go_sld (inb_in hg_291) dL_law_1280 ?_
        refine go_aload_n rfl 0 rfl dL_law_1281 ?_
        refine go_iload_n rfl 3 rfl dL_law_1282 ?_
        refine go_iconst kz_iconst_2 dL_law_1283 ?_
        refine go_iadd dL_law_1284 ?_
        obtain ⟨hg_292, h⟩ := q_g h
        refine go_sld (inb_in hg_292) dL_law_1285 ?_
        refine go_aload_n rfl 0 rfl dL_law_1286 ?_
        refine go_iload_n rfl 3 rfl dL_law_1287 ?_
        refine go_iconst kz_iconst_3 dL_law_1288 ?_
        refine go_iadd dL_law_1289 ?_
        obtain ⟨hg_293, h⟩ := q_g h
        refine go_sld (inb_in hg_293) dL_law_1290 ?_
        obtain ⟨r_294, h_295, h⟩ := q_b h
        refine h_callVi (st := []) [.int (X.2.2.2.2.2.2.2 (y3 + 1).toNatClampNeg), .int (X.2.2.2.2.2.2.2 (y3 + 2).toNatClampNeg), .int (X.2.2.2.2.2.2.2 (y3 + 3).toNatClampNeg)] (m_X8_judge h_295) me_X8_judge (g_recv cl6.1 rfl) tw_823 tw_824 tw_825 (by decide) ⟨by decide, by decide⟩ rfl rfl (Nat.le_of_ble_eq_true rfl) dL_law_1291 ?_
        refine go_aload_n rfl 2 rfl dL_law_1294 ?_
        refine go_aload_n rfl 0 rfl dL_law_1295 ?_
        refine go_iload_n rfl 3 rfl dL_law_1296 ?_
        refine go_iconst kz_iconst_1 dL_law_1297 ?_
        refine go_iadd dL_law_1298 ?_
        obtain ⟨hg_296, h⟩ := q_g h
        refine go_sld (inb_in hg_296) dL_law_1299 ?_
        refine go_aload_n rfl 0 rfl dL_law_1300 ?_
        refine go_iload_n rfl 3 rfl dL_law_1301 ?_
        refine go_iconst kz_iconst_2 dL_law_1302 ?_
        refine go_iadd dL_law_1303 ?_
        obtain ⟨hg_297, h⟩ := q_g h
        refine go_sld (inb_in hg_297) dL_law_1304 ?_
        refine go_aload_n rfl 0 rfl dL_law_1305 ?_
        refine go_iload_n rfl 3 rfl dL_law_1306 ?_
        refine go_iconst kz_iconst_3 dL_law_1307 ?_
        refine go_iadd dL_law_1308 ?_
        obtain ⟨hg_298, h⟩ := q_g h
        refine go_sld (inb_in hg_298) dL_law_1309 ?_
        obtain ⟨r_299, h_300, h⟩ := q_b h
        refine h_callVi (st := [.int r_294.1]) [.int (X.2.2.2.2.2.2.2 (y3 + 1).toNatClampNeg), .int (X.2.2.2.2.2.2.2 (y3 + 2).toNatClampNeg), .int (X.2.2.2.2.2.2.2 (y3 + 3).toNatClampNeg)] (m_X9_judge h_300) me_X9_judge (g_recv cl7.1 rfl) tw_1316 tw_1317 tw_1318 (by decide) ⟨by decide, by decide⟩ rfl rfl (Nat.le_of_ble_eq_true rfl) dL_law_1310 ?_
        refine go_icmp_eq (tgt := 1515) dL_law_1313 rfl (fun hc => ?_) (fun hc => ?_)
        · replace h := q_t h hc
          refine h_iinc (l' := [(3, .int (y3 + 6)), (0, .ref X.2.2.2.2.2.1), (1, .ref (ad 0)), (2, .ref (ad 53))]) dL_law_1515 3 rfl kz_iconst_6 (by decide) rfl ?_
          refine go_goto (tgt := 18) dL_law_1518 rfl ?_
          refine go_sub (l' := [(0, .ref X.2.2.2.2.2.1), (1, .ref (ad 0)), (2, .ref (ad 53)), (3, .int (y3 + 6))]) [1, 2, 3, 0] rfl ?_
          exact ih _ _ _ h h1
        · replace h := q_f h hc
          refine go_iconst kz_iconst_0 dL_law_1316 ?_
          exact l_ret h1 h dL_law_1317
      replace h := q_f h hk_290
      by_cases hk_301 : ((X.2.2.2.2.2.2.2 y3.toNatClampNeg) &&& 63) = 31
      · replace h := q_t h hk_301
        refine h_tbT (tgt := 1318) (off := 1285) hk_301 dL_law_33 (by decide) (by decide) rfl rfl ?_
        refine go_aload_n rfl 1 rfl dL_law_1318 ?_
        refine go_aload_n rfl 0 rfl dL_law_1319 ?_
        refine go_iload_n rfl 3 rfl dL_law_1320 ?_
        refine go_iconst kz_iconst_1 dL_law_1321 ?_
        refine go_iadd dL_law_1322 ?_
        obtain ⟨hg_302, h⟩ := q_g h
        refine go_sld (inb_in hg_302) dL_law_1323 ?_
        obtain ⟨r_303, h_304, h⟩ := q_b h
        refine h_callVi (st := []) [.int (X.2.2.2.2.2.2.2 (y3 + 1).toNatClampNeg)] (m_X8_run h_304) me_X8_run (g_recv cl6.1 rfl) tw_827 tw_828 tw_829 (by decide) ⟨by decide, by decide⟩ rfl rfl (Nat.le_of_ble_eq_true rfl) dL_law_1324 ?_
        refine go_aload_n rfl 2 rfl dL_law_1327 ?_
        refine go_aload_n rfl 0 rfl dL_law_1328 ?_
        refine go_iload_n rfl 3 rfl dL_law_1329 ?_
        refine go_iconst kz_iconst_1 dL_law_1330 ?_
        refine go_iadd dL_law_1331 ?_
        obtain ⟨hg_305, h⟩ := q_g h
        refine go_sld (inb_in hg_305) dL_law_1332 ?_
        obtain ⟨r_306, h_307, h⟩ := q_b h
        refine h_callVi (st := [.int r_303.1]) [.int (X.2.2.2.2.2.2.2 (y3 + 1).toNatClampNeg)] (m_X9_run h_307) me_X9_run (g_recv cl7.1 rfl) tw_1320 tw_1321 tw_1322 (by decide) ⟨by decide, by decide⟩ rfl rfl (Nat.le_of_ble_eq_true rfl) dL_law_1333 ?_
        refine go_icmp_eq (tgt := 1515) dL_law_1336 rfl (fun hc => ?_) (fun hc => ?_)
        · replace h := q_t h hc
          refine h_iinc (l' := [(3, .int (y3 + 6)), (0, .ref X.2.2.2.2.2.1), (1, .ref (ad 0)), (2, .ref (ad 53))]) dL_law_1515 3 rfl kz_iconst_6 (by decide) rfl ?_
          refine go_goto (tgt := 18) dL_law_1518 rfl ?_
          refine go_sub (l' := [(0, .ref X.2.2.2.2.2.1), (1, .ref (ad 0)), (2, .ref (ad 53)), (3, .int (y3 + 6))]) [1, 2, 3, 0] rfl ?_
          exact ih _ _ _ h h1
        · replace h := q_f h hc
          refine go_iconst kz_iconst_0 dL_law_1339 ?_
          exact l_ret h1 h dL_law_1340
      replace h := q_f h hk_301
      by_cases hk_308 : ((X.2.2.2.2.2.2.2 y3.toNatClampNeg) &&& 63) = 32
      · replace h := q_t h hk_308
        refine h_tbT (tgt := 1341) (off := 1308) hk_308 dL_law_33 (by decide) (by decide) rfl rfl ?_
        refine go_aload_n rfl 1 rfl dL_law_1341 ?_
        obtain ⟨r_309, h_310, h⟩ := q_b h
        refine h_callVi (st := []) [] (m_X8_vote h_310) me_X8_vote (g_recv cl6.1 rfl) tw_835 tw_836 tw_837 (by decide) ⟨by decide, by decide⟩ rfl rfl (Nat.le_of_ble_eq_true rfl) dL_law_1342 ?_
        refine go_aload_n rfl 2 rfl dL_law_1345 ?_
        obtain ⟨r_311, h_312, h⟩ := q_b h
        refine h_callVi (st := [.int r_309.1]) [] (m_X9_vote h_312) me_X9_vote (g_recv cl7.1 rfl) tw_1324 tw_1325 tw_1326 (by decide) ⟨by decide, by decide⟩ rfl rfl (Nat.le_of_ble_eq_true rfl) dL_law_1346 ?_
        refine go_icmp_eq (tgt := 1515) dL_law_1349 rfl (fun hc => ?_) (fun hc => ?_)
        · replace h := q_t h hc
          refine h_iinc (l' := [(3, .int (y3 + 6)), (0, .ref X.2.2.2.2.2.1), (1, .ref (ad 0)), (2, .ref (ad 53))]) dL_law_1515 3 rfl kz_iconst_6 (by decide) rfl ?_
          refine go_goto (tgt := 18) dL_law_1518 rfl ?_
          refine go_sub (l' := [(0, .ref X.2.2.2.2.2.1), (1, .ref (ad 0)), (2, .ref (ad 53)), (3, .int (y3 + 6))]) [1, 2, 3, 0] rfl ?_
          exact ih _ _ _ h h1
        · replace h := q_f h hc
          refine go_iconst kz_iconst_0 dL_law_1352 ?_
          exact l_ret h1 h dL_law_1353
      replace h := q_f h hk_308
      by_cases hk_313 : ((X.2.2.2.2.2.2.2 y3.toNatClampNeg) &&& 63) = 33
      · replace h := q_t h hk_313
        refine h_tbT (tgt := 1354) (off := 1321) hk_313 dL_law_33 (by decide) (by decide) rfl rfl ?_
        refine go_aload_n rfl 1 rfl dL_law_1354 ?_
        refine go_aload_n rfl 0 rfl dL_law_1355 ?_
        refine go_iload_n rfl 3 rfl dL_law_1356 ?_
        refine go_iconst kz_iconst_1 dL_law_1357 ?_
        refine go_iadd dL_law_1358 ?_
        obtain ⟨hg_314, h⟩ := q_g h
        refine go_sld (inb_in hg_314) dL_law_1359 ?_
        obtain ⟨r_315, h_316, h⟩ := q_b h
        refine h_callVi (st := []) [.int (X.2.2.2.2.2.2.2 (y3 + 1).toNatClampNeg)] (m_X8_years h_316) me_X8_years (g_recv cl6.1 rfl) tw_843 tw_844 tw_845 (by decide) ⟨by decide, by decide⟩ rfl rfl (Nat.le_of_ble_eq_true rfl) dL_law_1360 ?_
        refine go_aload_n rfl 2 rfl dL_law_1363 ?_
        refine go_aload_n rfl 0 rfl dL_law_1364 ?_
        refine go_iload_n rfl 3 rfl dL_law_1365 ?_
        refine go_iconst kz_iconst_1 dL_law_1366 ?_
        refine go_iadd dL_law_1367 ?_
        obtain ⟨hg_317, h⟩ := q_g h
        refine go_sld (inb_in hg_317) dL_law_1368 ?_
        obtain ⟨r_318, h_319, h⟩ := q_b h
        refine h_callVi (st := [.int r_315.1]) [.int (X.2.2.2.2.2.2.2 (y3 + 1).toNatClampNeg)] (m_X9_years h_319) me_X9_years (g_recv cl7.1 rfl) tw_1332 tw_1333 tw_1334 (by decide) ⟨by decide, by decide⟩ rfl rfl (Nat.le_of_ble_eq_true rfl) dL_law_1369 ?_
        refine go_icmp_eq (tgt := 1515) dL_law_1372 rfl (fun hc => ?_) (fun hc => ?_)
        · replace h := q_t h hc
          refine h_iinc (l' := [(3, .int (y3 + 6)), (0, .ref X.2.2.2.2.2.1), (1, .ref (ad 0)), (2, .ref (ad 53))]) dL_law_1515 3 rfl kz_iconst_6 (by decide) rfl ?_
          refine go_goto (tgt := 18) dL_law_1518 rfl ?_
          refine go_sub (l' := [(0, .ref X.2.2.2.2.2.1), (1, .ref (ad 0)), (2, .ref (ad 53)), (3, .int (y3 + 6))]) [1, 2, 3, 0] rfl ?_
          exact ih _ _ _ h h1
        · replace h := q_f h hc
          refine go_iconst kz_iconst_0 dL_law_1375 ?_
          exact l_ret h1 h dL_law_1376
      replace h := q_f h hk_313
      by_cases hk_320 : ((X.2.2.2.2.2.2.2 y3.toNatClampNeg) &&& 63) = 34
      · replace h := q_t h hk_320
        refine h_tbT (tgt := 1377) (off := 1344) hk_320 dL_law_33 (by decide) (by decide) rfl rfl ?_
        refine go_aload_n rfl 1 rfl dL_law_1377 ?_
        refine go_aload_n rfl 0 rfl dL_law_1378 ?_
        refine go_iload_n rfl 3 rfl dL_law_1379 ?_
        refine go_iconst kz_iconst_1 dL_law_1380 ?_
        refine go_iadd dL_law_1381 ?_
        obtain ⟨hg_321, h⟩ := q_g h
        refine go_sld (inb_in hg_321) dL_law_1382 ?_
        obtain ⟨r_322, h_323, h⟩ := q_b h
        refine h_callVi (st := []) [.int (X.2.2.2.2.2.2.2 (y3 + 1).toNatClampNeg)] (m_X8_seed h_323) me_X8_seed (g_recv cl6.1 rfl) tw_852 tw_853 tw_854 (by decide) ⟨by decide, by decide⟩ rfl rfl (Nat.le_of_ble_eq_true rfl) dL_law_1383 ?_
        refine go_aload_n rfl 2 rfl dL_law_1386 ?_
        refine go_aload_n rfl 0 rfl dL_law_1387 ?_
        refine go_iload_n rfl 3 rfl dL_law_1388 ?_
        refine go_iconst kz_iconst_1 dL_law_1389 ?_
        refine go_iadd dL_law_1390 ?_
        obtain ⟨hg_324, h⟩ := q_g h
        refine go_sld (inb_in hg_324) dL_law_1391 ?_
        obtain ⟨r_325, h_326, h⟩ := q_b h
        refine h_callVi (st := [.int r_322.1]) [.int (X.2.2.2.2.2.2.2 (y3 + 1).toNatClampNeg)] (m_X9_seed h_326) me_X9_seed (g_recv cl7.1 rfl) tw_1341 tw_1342 tw_1343 (by decide) ⟨by decide, by decide⟩ rfl rfl (Nat.le_of_ble_eq_true rfl) dL_law_1392 ?_
        refine go_icmp_eq (tgt := 1515) dL_law_1395 rfl (fun hc => ?_) (fun hc => ?_)
        · replace h := q_t h hc
          refine h_iinc (l' := [(3, .int (y3 + 6)), (0, .ref X.2.2.2.2.2.1), (1, .ref (ad 0)), (2, .ref (ad 53))]) dL_law_1515 3 rfl kz_iconst_6 (by decide) rfl ?_
          refine go_goto (tgt := 18) dL_law_1518 rfl ?_
          refine go_sub (l' := [(0, .ref X.2.2.2.2.2.1), (1, .ref (ad 0)), (2, .ref (ad 53)), (3, .int (y3 + 6))]) [1, 2, 3, 0] rfl ?_
          exact ih _ _ _ h h1
        · replace h := q_f h hc
          refine go_iconst kz_iconst_0 dL_law_1398 ?_
          exact l_ret h1 h dL_law_1399
      replace h := q_f h hk_320
      by_cases hk_327 : ((X.2.2.2.2.2.2.2 y3.toNatClampNeg) &&& 63) = 35
      · replace h := q_t h hk_327
        refine h_tbT (tgt := 1400) (off := 1367) hk_327 dL_law_33 (by decide) (by decide) rfl rfl ?_
        refine go_aload_n rfl 1 rfl dL_law_1400 ?_
        refine go_aload_n rfl 0 rfl dL_law_1401 ?_
        refine go_iload_n rfl 3 rfl dL_law_1402 ?_
        refine go_iconst kz_iconst_1 dL_law_1403 ?_
        refine go_iadd dL_law_1404 ?_
        obtain ⟨hg_328, h⟩ := q_g h
        refine go_sld (inb_in hg_328) dL_law_1405 ?_
        refine go_aload_n rfl 0 rfl dL_law_1406 ?_
        refine go_iload_n rfl 3 rfl dL_law_1407 ?_
        refine go_iconst kz_iconst_2 dL_law_1408 ?_
        refine go_iadd dL_law_1409 ?_
        obtain ⟨hg_329, h⟩ := q_g h
        refine go_sld (inb_in hg_329) dL_law_1410 ?_
        refine go_aload_n rfl 0 rfl dL_law_1411 ?_
        refine go_iload_n rfl 3 rfl dL_law_1412 ?_
        refine go_iconst kz_iconst_3 dL_law_1413 ?_
        refine go_iadd dL_law_1414 ?_
        obtain ⟨hg_330, h⟩ := q_g h
        refine go_sld (inb_in hg_330) dL_law_1415 ?_
        obtain ⟨r_331, h_332, h⟩ := q_b h
        refine h_callVi (st := []) [.int (X.2.2.2.2.2.2.2 (y3 + 1).toNatClampNeg), .int (X.2.2.2.2.2.2.2 (y3 + 2).toNatClampNeg), .int (X.2.2.2.2.2.2.2 (y3 + 3).toNatClampNeg)] (m_X8_act h_332) me_X8_act (g_recv cl6.1 rfl) tw_856 tw_857 tw_858 (by decide) ⟨by decide, by decide⟩ rfl rfl (Nat.le_of_ble_eq_true rfl) dL_law_1416 ?_
        refine go_aload_n rfl 2 rfl dL_law_1419 ?_
        refine go_aload_n rfl 0 rfl dL_law_1420 ?_
        refine go_iload_n rfl 3 rfl dL_law_1421 ?_
        refine go_iconst kz_iconst_1 dL_law_1422 ?_
        refine go_iadd dL_law_1423 ?_
        obtain ⟨hg_333, h⟩ := q_g h
        refine go_sld (inb_in hg_333) dL_law_1424 ?_
        refine go_aload_n rfl 0 rfl dL_law_1425 ?_
        refine go_iload_n rfl 3 rfl dL_law_1426 ?_
        refine go_iconst kz_iconst_2 dL_law_1427 ?_
        refine go_iadd dL_law_1428 ?_
        obtain ⟨hg_334, h⟩ := q_g h
        refine go_sld (inb_in hg_334) dL_law_1429 ?_
        refine go_aload_n rfl 0 rfl dL_law_1430 ?_
        refine go_iload_n rfl 3 rfl dL_law_1431 ?_
        refine go_iconst kz_iconst_3 dL_law_1432 ?_
        refine go_iadd dL_law_1433 ?_
        obtain ⟨hg_335, h⟩ := q_g h
        refine go_sld (inb_in hg_335) dL_law_1434 ?_
        obtain ⟨r_336, h_337, h⟩ := q_b h
        refine h_callVi (st := [.int r_331.1]) [.int (X.2.2.2.2.2.2.2 (y3 + 1).toNatClampNeg), .int (X.2.2.2.2.2.2.2 (y3 + 2).toNatClampNeg), .int (X.2.2.2.2.2.2.2 (y3 + 3).toNatClampNeg)] (m_X9_act h_337) me_X9_act (g_recv cl7.1 rfl) tw_1345 tw_1346 tw_1347 (by decide) ⟨by decide, by decide⟩ rfl rfl (Nat.le_of_ble_eq_true rfl) dL_law_1435 ?_
        refine go_icmp_eq (tgt := 1515) dL_law_1438 rfl (fun hc => ?_) (fun hc => ?_)
        · replace h := q_t h hc
          refine h_iinc (l' := [(3, .int (y3 + 6)), (0, .ref X.2.2.2.2.2.1), (1, .ref (ad 0)), (2, .ref (ad 53))]) dL_law_1515 3 rfl kz_iconst_6 (by decide) rfl ?_
          refine go_goto (tgt := 18) dL_law_1518 rfl ?_
          refine go_sub (l' := [(0, .ref X.2.2.2.2.2.1), (1, .ref (ad 0)), (2, .ref (ad 53)), (3, .int (y3 + 6))]) [1, 2, 3, 0] rfl ?_
          exact ih _ _ _ h h1
        · replace h := q_f h hc
          refine go_iconst kz_iconst_0 dL_law_1441 ?_
          exact l_ret h1 h dL_law_1442
      replace h := q_f h hk_327
      by_cases hk_338 : ((X.2.2.2.2.2.2.2 y3.toNatClampNeg) &&& 63) = 36
      · replace h := q_t h hk_338
        refine h_tbT (tgt := 1443) (off := 1410) hk_338 dL_law_33 (by decide) (by decide) rfl rfl ?_
        refine go_aload_n rfl 1 rfl dL_law_1443 ?_
        refine go_aload_n rfl 0 rfl dL_law_1444 ?_
        refine go_iload_n rfl 3 rfl dL_law_1445 ?_
        refine go_iconst kz_iconst_1 dL_law_1446 ?_
        refine go_iadd dL_law_1447 ?_
        obtain ⟨hg_339, h⟩ := q_g h
        refine go_sld (inb_in hg_339) dL_law_1448 ?_
        obtain ⟨r_340, h_341, h⟩ := q_b h
        refine h_callVi (st := []) [.int (X.2.2.2.2.2.2.2 (y3 + 1).toNatClampNeg)] (m_X8_trace h_341) me_X8_trace (g_recv cl6.1 rfl) tw_882 tw_883 tw_884 (by decide) ⟨by decide, by decide⟩ rfl rfl (Nat.le_of_ble_eq_true rfl) dL_law_1449 ?_
        refine go_aload_n rfl 2 rfl dL_law_1452 ?_
        refine go_aload_n rfl 0 rfl dL_law_1453 ?_
        refine go_iload_n rfl 3 rfl dL_law_1454 ?_
        refine go_iconst kz_iconst_1 dL_law_1455 ?_
        refine go_iadd dL_law_1456 ?_
        obtain ⟨hg_342, h⟩ := q_g h
        refine go_sld (inb_in hg_342) dL_law_1457 ?_
        obtain ⟨r_343, h_344, h⟩ := q_b h
        refine h_callVi (st := [.int r_340.1]) [.int (X.2.2.2.2.2.2.2 (y3 + 1).toNatClampNeg)] (m_X9_trace h_344) me_X9_trace (g_recv cl7.1 rfl) tw_1365 tw_1366 tw_1367 (by decide) ⟨by decide, by decide⟩ rfl rfl (Nat.le_of_ble_eq_true rfl) dL_law_1458 ?_
        refine go_icmp_eq (tgt := 1515) dL_law_1461 rfl (fun hc => ?_) (fun hc => ?_)
        · replace h := q_t h hc
          refine h_iinc (l' := [(3, .int (y3 + 6)), (0, .ref X.2.2.2.2.2.1), (1, .ref (ad 0)), (2, .ref (ad 53))]) dL_law_1515 3 rfl kz_iconst_6 (by decide) rfl ?_
          refine go_goto (tgt := 18) dL_law_1518 rfl ?_
          refine go_sub (l' := [(0, .ref X.2.2.2.2.2.1), (1, .ref (ad 0)), (2, .ref (ad 53)), (3, .int (y3 + 6))]) [1, 2, 3, 0] rfl ?_
          exact ih _ _ _ h h1
        · replace h := q_f h hc
          refine go_iconst kz_iconst_0 dL_law_1464 ?_
          exact l_ret h1 h dL_law_1465
      replace h := q_f h hk_338
      by_cases hk_345 : ((X.2.2.2.2.2.2.2 y3.toNatClampNeg) &&& 63) = 37
      · replace h := q_t h hk_345
        refine h_tbT (tgt := 1466) (off := 1433) hk_345 dL_law_33 (by decide) (by decide) rfl rfl ?_
        refine go_aload_n rfl 1 rfl dL_law_1466 ?_
        obtain ⟨r_346, h_347, h⟩ := q_b h
        refine h_callVi (st := []) [] (m_X8_image h_347) me_X8_image (g_recv cl6.1 rfl) tw_890 tw_891 tw_892 (by decide) ⟨by decide, by decide⟩ rfl rfl (Nat.le_of_ble_eq_true rfl) dL_law_1467 ?_
        refine go_aload_n rfl 2 rfl dL_law_1470 ?_
        obtain ⟨r_348, h_349, h⟩ := q_b h
        refine h_callVi (st := [.int r_346.1]) [] (m_X9_image h_349) me_X9_image (g_recv cl7.1 rfl) tw_1369 tw_1370 tw_1371 (by decide) ⟨by decide, by decide⟩ rfl rfl (Nat.le_of_ble_eq_true rfl) dL_law_1471 ?_
        refine go_icmp_eq (tgt := 1515) dL_law_1474 rfl (fun hc => ?_) (fun hc => ?_)
        · replace h := q_t h hc
          refine h_iinc (l' := [(3, .int (y3 + 6)), (0, .ref X.2.2.2.2.2.1), (1, .ref (ad 0)), (2, .ref (ad 53))]) dL_law_1515 3 rfl kz_iconst_6 (by decide) rfl ?_
          refine go_goto (tgt := 18) dL_law_1518 rfl ?_
          refine go_sub (l' := [(0, .ref X.2.2.2.2.2.1), (1, .ref (ad 0)), (2, .ref (ad 53)), (3, .int (y3 + 6))]) [1, 2, 3, 0] rfl ?_
          exact ih _ _ _ h h1
        · replace h := q_f h hc
          refine go_iconst kz_iconst_0 dL_law_1477 ?_
          exact l_ret h1 h dL_law_1478
      replace h := q_f h hk_345
      by_cases hk_350 : ((X.2.2.2.2.2.2.2 y3.toNatClampNeg) &&& 63) = 38
      · replace h := q_t h hk_350
        refine h_tbT (tgt := 1479) (off := 1446) hk_350 dL_law_33 (by decide) (by decide) rfl rfl ?_
        refine go_aload_n rfl 1 rfl dL_law_1479 ?_
        obtain ⟨r_351, h_352, h⟩ := q_b h
        refine h_callVi (st := []) [] (m_X8_restore h_352) me_X8_restore (g_recv cl6.1 rfl) tw_894 tw_895 tw_896 (by decide) ⟨by decide, by decide⟩ rfl rfl (Nat.le_of_ble_eq_true rfl) dL_law_1480 ?_
        refine go_aload_n rfl 2 rfl dL_law_1483 ?_
        obtain ⟨r_353, h_354, h⟩ := q_b h
        refine h_callVi (st := [.int r_351.1]) [] (m_X9_restore h_354) me_X9_restore (g_recv cl7.1 rfl) tw_1373 tw_1374 tw_1375 (by decide) ⟨by decide, by decide⟩ rfl rfl (Nat.le_of_ble_eq_true rfl) dL_law_1484 ?_
        refine go_icmp_eq (tgt := 1515) dL_law_1487 rfl (fun hc => ?_) (fun hc => ?_)
        · replace h := q_t h hc
          refine h_iinc (l' := [(3, .int (y3 + 6)), (0, .ref X.2.2.2.2.2.1), (1, .ref (ad 0)), (2, .ref (ad 53))]) dL_law_1515 3 rfl kz_iconst_6 (by decide) rfl ?_
          refine go_goto (tgt := 18) dL_law_1518 rfl ?_
          refine go_sub (l' := [(0, .ref X.2.2.2.2.2.1), (1, .ref (ad 0)), (2, .ref (ad 53)), (3, .int (y3 + 6))]) [1, 2, 3, 0] rfl ?_
          exact ih _ _ _ h h1
        · replace h := q_f h hc
          refine go_iconst kz_iconst_0 dL_law_1490 ?_
          exact l_ret h1 h dL_law_1491
      replace h := q_f h hk_350
      by_cases hk_355 : ((X.2.2.2.2.2.2.2 y3.toNatClampNeg) &&& 63) = 39
      · replace h := q_t h hk_355
        refine h_tbT (tgt := 1492) (off := 1459) hk_355 dL_law_33 (by decide) (by decide) rfl rfl ?_
        refine go_aload_n rfl 1 rfl dL_law_1492 ?_
        refine go_aload_n rfl 0 rfl dL_law_1493 ?_
        refine go_iload_n rfl 3 rfl dL_law_1494 ?_
        refine go_iconst kz_iconst_1 dL_law_1495 ?_
        refine go_iadd dL_law_1496 ?_
        obtain ⟨hg_356, h⟩ := q_g h
        refine go_sld (inb_in hg_356) dL_law_1497 ?_
        obtain ⟨r_357, h_358, h⟩ := q_b h
        refine h_callVi (st := []) [.int (X.2.2.2.2.2.2.2 (y3 + 1).toNatClampNeg)] (m_X8_status h_358) me_X8_status (g_recv cl6.1 rfl) tw_898 tw_899 tw_900 (by decide) ⟨by decide, by decide⟩ rfl rfl (Nat.le_of_ble_eq_true rfl) dL_law_1498 ?_
        refine go_aload_n rfl 2 rfl dL_law_1501 ?_
        refine go_aload_n rfl 0 rfl dL_law_1502 ?_
        refine go_iload_n rfl 3 rfl dL_law_1503 ?_
        refine go_iconst kz_iconst_1 dL_law_1504 ?_
        refine go_iadd dL_law_1505 ?_
        obtain ⟨hg_359, h⟩ := q_g h
        refine go_sld (inb_in hg_359) dL_law_1506 ?_
        obtain ⟨r_360, h_361, h⟩ := q_b h
        refine h_callVi (st := [.int r_357.1]) [.int (X.2.2.2.2.2.2.2 (y3 + 1).toNatClampNeg)] (m_X9_status h_361) me_X9_status (g_recv cl7.1 rfl) tw_1377 tw_1378 tw_1379 (by decide) ⟨by decide, by decide⟩ rfl rfl (Nat.le_of_ble_eq_true rfl) dL_law_1507 ?_
        refine go_icmp_eq (tgt := 1515) dL_law_1510 rfl (fun hc => ?_) (fun hc => ?_)
        · replace h := q_t h hc
          refine h_iinc (l' := [(3, .int (y3 + 6)), (0, .ref X.2.2.2.2.2.1), (1, .ref (ad 0)), (2, .ref (ad 53))]) dL_law_1515 3 rfl kz_iconst_6 (by decide) rfl ?_
          refine go_goto (tgt := 18) dL_law_1518 rfl ?_
          refine go_sub (l' := [(0, .ref X.2.2.2.2.2.1), (1, .ref (ad 0)), (2, .ref (ad 53)), (3, .int (y3 + 6))]) [1, 2, 3, 0] rfl ?_
          exact ih _ _ _ h h1
        · replace h := q_f h hc
          refine go_iconst kz_iconst_0 dL_law_1513 ?_
          exact l_ret h1 h dL_law_1514
      replace h := q_f h hk_355
      have hk_2 := h_nT hk_2 (a := 0) (by decide)
      have hk_13 := h_nT hk_13 (a := 1) (by decide)
      have hk_26 := h_nT hk_26 (a := 2) (by decide)
      have hk_41 := h_nT hk_41 (a := 3) (by decide)
      have hk_50 := h_nT hk_50 (a := 4) (by decide)
      have hk_59 := h_nT hk_59 (a := 5) (by decide)
      have hk_66 := h_nT hk_66 (a := 6) (by decide)
      have hk_75 := h_nT hk_75 (a := 7) (by decide)
      have hk_90 := h_nT hk_90 (a := 8) (by decide)
      have hk_109 := h_nT hk_109 (a := 9) (by decide)
      have hk_120 := h_nT hk_120 (a := 10) (by decide)
      have hk_129 := h_nT hk_129 (a := 11) (by decide)
      have hk_138 := h_nT hk_138 (a := 12) (by decide)
      have hk_147 := h_nT hk_147 (a := 13) (by decide)
      have hk_154 := h_nT hk_154 (a := 14) (by decide)
      have hk_159 := h_nT hk_159 (a := 15) (by decide)
      have hk_166 := h_nT hk_166 (a := 16) (by decide)
      have hk_173 := h_nT hk_173 (a := 17) (by decide)
      have hk_182 := h_nT hk_182 (a := 18) (by decide)
      have hk_189 := h_nT hk_189 (a := 19) (by decide)
      have hk_198 := h_nT hk_198 (a := 20) (by decide)
      have hk_207 := h_nT hk_207 (a := 21) (by decide)
      have hk_216 := h_nT hk_216 (a := 22) (by decide)
      have hk_227 := h_nT hk_227 (a := 23) (by decide)
      have hk_236 := h_nT hk_236 (a := 24) (by decide)
      have hk_249 := h_nT hk_249 (a := 25) (by decide)
      have hk_258 := h_nT hk_258 (a := 26) (by decide)
      have hk_267 := h_nT hk_267 (a := 27) (by decide)
      have hk_274 := h_nT hk_274 (a := 28) (by decide)
      have hk_281 := h_nT hk_281 (a := 29) (by decide)
      have hk_290 := h_nT hk_290 (a := 30) (by decide)
      have hk_301 := h_nT hk_301 (a := 31) (by decide)
      have hk_308 := h_nT hk_308 (a := 32) (by decide)
      have hk_313 := h_nT hk_313 (a := 33) (by decide)
      have hk_320 := h_nT hk_320 (a := 34) (by decide)
      have hk_327 := h_nT hk_327 (a := 35) (by decide)
      have hk_338 := h_nT hk_338 (a := 36) (by decide)
      have hk_345 := h_nT hk_345 (a := 37) (by decide)
      have hk_350 := h_nT hk_350 (a := 38) (by decide)
      have hk_355 := h_nT hk_355 (a := 39) (by decide)
      refine go_tableOut (tgt := 1515) dL_law_33 (by omega) rfl ?_
      refine h_iinc (l' := [(3, .int (y3 + 6)), (0, .ref X.2.2.2.2.2.1), (1, .ref (ad 0)), (2, .ref (ad 53))]) dL_law_1515 3 rfl kz_iconst_6 (by decide) rfl ?_
      refine go_goto (tgt := 18) dL_law_1518 rfl ?_
      refine go_sub (l' := [(0, .ref X.2.2.2.2.2.1), (1, .ref (ad 0)), (2, .ref (ad 53)), (3, .int (y3 + 6))]) [1, 2, 3, 0] rfl ?_
      exact ih _ _ _ h h1
