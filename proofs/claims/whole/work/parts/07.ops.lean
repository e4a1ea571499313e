theorem kz_bipush_10 : (Int8.ofInt 10).toInt32 = 10 := by decide
theorem kz_bipush_100 : (Int8.ofInt 100).toInt32 = 100 := by decide
theorem kz_bipush_11 : (Int8.ofInt 11).toInt32 = 11 := by decide
theorem kz_bipush_12 : (Int8.ofInt 12).toInt32 = 12 := by decide
theorem kz_bipush_127 : (Int8.ofInt 127).toInt32 = 127 := by decide
theorem kz_bipush_14 : (Int8.ofInt 14).toInt32 = 14 := by decide
theorem kz_bipush_16 : (Int8.ofInt 16).toInt32 = 16 := by decide
theorem kz_bipush_17 : (Int8.ofInt 17).toInt32 = 17 := by decide
theorem kz_bipush_20 : (Int8.ofInt 20).toInt32 = 20 := by decide
theorem kz_bipush_21 : (Int8.ofInt 21).toInt32 = 21 := by decide
theorem kz_bipush_24 : (Int8.ofInt 24).toInt32 = 24 := by decide
theorem kz_bipush_28 : (Int8.ofInt 28).toInt32 = 28 := by decide
theorem kz_bipush_30 : (Int8.ofInt 30).toInt32 = 30 := by decide
theorem kz_bipush_32 : (Int8.ofInt 32).toInt32 = 32 := by decide
theorem kz_bipush_35 : (Int8.ofInt 35).toInt32 = 35 := by decide
theorem kz_bipush_40 : (Int8.ofInt 40).toInt32 = 40 := by decide
theorem kz_bipush_42 : (Int8.ofInt 42).toInt32 = 42 := by decide
theorem kz_bipush_48 : (Int8.ofInt 48).toInt32 = 48 := by decide
theorem kz_bipush_49 : (Int8.ofInt 49).toInt32 = 49 := by decide
theorem kz_bipush_50 : (Int8.ofInt 50).toInt32 = 50 := by decide
theorem kz_bipush_51 : (Int8.ofInt 51).toInt32 = 51 := by decide
theorem kz_bipush_57 : (Int8.ofInt 57).toInt32 = 57 := by decide
theorem kz_bipush_59 : (Int8.ofInt 59).toInt32 = 59 := by decide
theorem kz_bipush_6 : (Int8.ofInt 6).toInt32 = 6 := by decide
theorem kz_bipush_60 : (Int8.ofInt 60).toInt32 = 60 := by decide
theorem kz_bipush_63 : (Int8.ofInt 63).toInt32 = 63 := by decide
theorem kz_bipush_7 : (Int8.ofInt 7).toInt32 = 7 := by decide
theorem kz_bipush_70 : (Int8.ofInt 70).toInt32 = 70 := by decide
theorem kz_bipush_71 : (Int8.ofInt 71).toInt32 = 71 := by decide
theorem kz_bipush_8 : (Int8.ofInt 8).toInt32 = 8 := by decide
theorem kz_bipush_9 : (Int8.ofInt 9).toInt32 = 9 := by decide
theorem kz_bipush_91 : (Int8.ofInt 91).toInt32 = 91 := by decide
theorem kz_bipush_95 : (Int8.ofInt 95).toInt32 = 95 := by decide
theorem kz_bipush_99 : (Int8.ofInt 99).toInt32 = 99 := by decide
theorem kz_bipush_m10 : (Int8.ofInt (-10)).toInt32 = (-10) := by decide
theorem kz_bipush_m2 : (Int8.ofInt (-2)).toInt32 = (-2) := by decide
theorem kz_bipush_m3 : (Int8.ofInt (-3)).toInt32 = (-3) := by decide
theorem kz_bipush_m4 : (Int8.ofInt (-4)).toInt32 = (-4) := by decide
theorem kz_bipush_m5 : (Int8.ofInt (-5)).toInt32 = (-5) := by decide
theorem kz_bipush_m6 : (Int8.ofInt (-6)).toInt32 = (-6) := by decide
theorem kz_bipush_m7 : (Int8.ofInt (-7)).toInt32 = (-7) := by decide
theorem kz_iconst_0 : Int32.ofInt 0 = 0 := by decide
theorem kz_iconst_1 : Int32.ofInt 1 = 1 := by decide
theorem kz_iconst_2 : Int32.ofInt 2 = 2 := by decide
theorem kz_iconst_3 : Int32.ofInt 3 = 3 := by decide
theorem kz_iconst_4 : Int32.ofInt 4 = 4 := by decide
theorem kz_iconst_5 : Int32.ofInt 5 = 5 := by decide
theorem kz_iconst_m1 : Int32.ofInt (-1) = (-1) := by decide
theorem kz_sipush_12345 : (Int16.ofInt 12345).toInt32 = 12345 := by decide
theorem kz_sipush_160 : (Int16.ofInt 160).toInt32 = 160 := by decide
theorem kz_sipush_255 : (Int16.ofInt 255).toInt32 = 255 := by decide

theorem h_iinc {X : gX} {own nm : String} {cc : ByteArray} {nL : Nat} {ret : Option FieldType} {R : Room} {Z : List Frame → Array Value → State → State → Prop} {k n : Nat} {pc : Nat} {l : List (Nat × Value)} {st : List Value} {ad : Nat → Nat} {ν : gN} {i : Nat} {z : Int} {w x : Int32} {l' : List (Nat × Value)} (hd : decode cc pc = .ok (.iinc i z, 3)) (j : Nat) (hj : l[j]? = some (i, .int x)) (hz : Int32.ofInt z = w) (hn : i < nL) (hl : (i, Value.int (x + w)) :: l.filter (fun q => !(q.1 == i) && !(q.1 + 1 == i && q.2.category == 2)) = l') (kk : j_go X ad own nm cc nL ret R Z k n (pc + 3) l' st ν) : j_go X ad own nm cc nL ret R Z k n pc l st ν := go_iinc hd j hj (by rw [hz]) hn hl kk
theorem h_ldcSRX5106 {X : gX} {nm : String} {cc : ByteArray} {nL : Nat} {ret : Option FieldType} {R : Room} {Z : List Frame → Array Value → State → State → Prop} {k n : Nat} {pc : Nat} {l : List (Nat × Value)} {st : List Value} {ad : Nat → Nat} {ν : gN} (hd : decode cc pc = .ok (.ldc 106, 2)) (kk : j_go X ad RX5 nm cc nL ret R Z k n (pc + 2) l (.ref (X.2.2.2.1 (10 + 0)) :: st) ν) : j_go X ad RX5 nm cc nL ret R Z k n pc l st ν := by
  intro p la e s m args below meth c H locs ls hx hb hml hown hts hr hlk hnm hE hS hR hlv
  exact va_ldcS hx hb hown hE.2.2.2.1.1 hd (kk _ _ _ _ _ _ _ _ _ _ _ _ hx hb hml hown hts hr hlk hnm hE hS hR hlv)
theorem h_ldcSRX5108 {X : gX} {nm : String} {cc : ByteArray} {nL : Nat} {ret : Option FieldType} {R : Room} {Z : List Frame → Array Value → State → State → Prop} {k n : Nat} {pc : Nat} {l : List (Nat × Value)} {st : List Value} {ad : Nat → Nat} {ν : gN} (hd : decode cc pc = .ok (.ldc 108, 2)) (kk : j_go X ad RX5 nm cc nL ret R Z k n (pc + 2) l (.ref (X.2.2.2.1 (10 + 1)) :: st) ν) : j_go X ad RX5 nm cc nL ret R Z k n pc l st ν := by
  intro p la e s m args below meth c H locs ls hx hb hml hown hts hr hlk hnm hE hS hR hlv
  exact va_ldcS hx hb hown hE.2.2.2.1.2.1 hd (kk _ _ _ _ _ _ _ _ _ _ _ _ hx hb hml hown hts hr hlk hnm hE hS hR hlv)
theorem h_ldcSRX5110 {X : gX} {nm : String} {cc : ByteArray} {nL : Nat} {ret : Option FieldType} {R : Room} {Z : List Frame → Array Value → State → State → Prop} {k n : Nat} {pc : Nat} {l : List (Nat × Value)} {st : List Value} {ad : Nat → Nat} {ν : gN} (hd : decode cc pc = .ok (.ldc 110, 2)) (kk : j_go X ad RX5 nm cc nL ret R Z k n (pc + 2) l (.ref (X.2.2.2.1 (10 + 2)) :: st) ν) : j_go X ad RX5 nm cc nL ret R Z k n pc l st ν := by
  intro p la e s m args below meth c H locs ls hx hb hml hown hts hr hlk hnm hE hS hR hlv
  exact va_ldcS hx hb hown hE.2.2.2.1.2.2.1 hd (kk _ _ _ _ _ _ _ _ _ _ _ _ hx hb hml hown hts hr hlk hnm hE hS hR hlv)
theorem h_ldcSRX5112 {X : gX} {nm : String} {cc : ByteArray} {nL : Nat} {ret : Option FieldType} {R : Room} {Z : List Frame → Array Value → State → State → Prop} {k n : Nat} {pc : Nat} {l : List (Nat × Value)} {st : List Value} {ad : Nat → Nat} {ν : gN} (hd : decode cc pc = .ok (.ldc 112, 2)) (kk : j_go X ad RX5 nm cc nL ret R Z k n (pc + 2) l (.ref (X.2.2.2.1 (10 + 3)) :: st) ν) : j_go X ad RX5 nm cc nL ret R Z k n pc l st ν := by
  intro p la e s m args below meth c H locs ls hx hb hml hown hts hr hlk hnm hE hS hR hlv
  exact va_ldcS hx hb hown hE.2.2.2.1.2.2.2.1 hd (kk _ _ _ _ _ _ _ _ _ _ _ _ hx hb hml hown hts hr hlk hnm hE hS hR hlv)
theorem h_ldcSRX5113 {X : gX} {nm : String} {cc : ByteArray} {nL : Nat} {ret : Option FieldType} {R : Room} {Z : List Frame → Array Value → State → State → Prop} {k n : Nat} {pc : Nat} {l : List (Nat × Value)} {st : List Value} {ad : Nat → Nat} {ν : gN} (hd : decode cc pc = .ok (.ldc 113, 2)) (kk : j_go X ad RX5 nm cc nL ret R Z k n (pc + 2) l (.ref (X.2.2.2.1 (10 + 4)) :: st) ν) : j_go X ad RX5 nm cc nL ret R Z k n pc l st ν := by
  intro p la e s m args below meth c H locs ls hx hb hml hown hts hr hlk hnm hE hS hR hlv
  exact va_ldcS hx hb hown hE.2.2.2.1.2.2.2.2.1 hd (kk _ _ _ _ _ _ _ _ _ _ _ _ hx hb hml hown hts hr hlk hnm hE hS hR hlv)
theorem h_ldcSRX9167 {X : gX} {nm : String} {cc : ByteArray} {nL : Nat} {ret : Option FieldType} {R : Room} {Z : List Frame → Array Value → State → State → Prop} {k n : Nat} {pc : Nat} {l : List (Nat × Value)} {st : List Value} {ad : Nat → Nat} {ν : gN} (hd : decode cc pc = .ok (.ldc 167, 2)) (kk : j_go X ad RX9 nm cc nL ret R Z k n (pc + 2) l (.ref (X.2.2.2.1 (10 + 0)) :: st) ν) : j_go X ad RX9 nm cc nL ret R Z k n pc l st ν := by
  intro p la e s m args below meth c H locs ls hx hb hml hown hts hr hlk hnm hE hS hR hlv
  exact va_ldcS hx hb hown hE.2.2.2.1.2.2.2.2.2.1 hd (kk _ _ _ _ _ _ _ _ _ _ _ _ hx hb hml hown hts hr hlk hnm hE hS hR hlv)
theorem h_ldcSRX9176 {X : gX} {nm : String} {cc : ByteArray} {nL : Nat} {ret : Option FieldType} {R : Room} {Z : List Frame → Array Value → State → State → Prop} {k n : Nat} {pc : Nat} {l : List (Nat × Value)} {st : List Value} {ad : Nat → Nat} {ν : gN} (hd : decode cc pc = .ok (.ldc 176, 2)) (kk : j_go X ad RX9 nm cc nL ret R Z k n (pc + 2) l (.ref (X.2.2.2.1 (10 + 1)) :: st) ν) : j_go X ad RX9 nm cc nL ret R Z k n pc l st ν := by
  intro p la e s m args below meth c H locs ls hx hb hml hown hts hr hlk hnm hE hS hR hlv
  exact va_ldcS hx hb hown hE.2.2.2.1.2.2.2.2.2.2.1 hd (kk _ _ _ _ _ _ _ _ _ _ _ _ hx hb hml hown hts hr hlk hnm hE hS hR hlv)
theorem h_ldcSRX9178 {X : gX} {nm : String} {cc : ByteArray} {nL : Nat} {ret : Option FieldType} {R : Room} {Z : List Frame → Array Value → State → State → Prop} {k n : Nat} {pc : Nat} {l : List (Nat × Value)} {st : List Value} {ad : Nat → Nat} {ν : gN} (hd : decode cc pc = .ok (.ldc 178, 2)) (kk : j_go X ad RX9 nm cc nL ret R Z k n (pc + 2) l (.ref (X.2.2.2.1 (10 + 2)) :: st) ν) : j_go X ad RX9 nm cc nL ret R Z k n pc l st ν := by
  intro p la e s m args below meth c H locs ls hx hb hml hown hts hr hlk hnm hE hS hR hlv
  exact va_ldcS hx hb hown hE.2.2.2.1.2.2.2.2.2.2.2.1 hd (kk _ _ _ _ _ _ _ _ _ _ _ _ hx hb hml hown hts hr hlk hnm hE hS hR hlv)
theorem h_ldcSRX9183 {X : gX} {nm : String} {cc : ByteArray} {nL : Nat} {ret : Option FieldType} {R : Room} {Z : List Frame → Array Value → State → State → Prop} {k n : Nat} {pc : Nat} {l : List (Nat × Value)} {st : List Value} {ad : Nat → Nat} {ν : gN} (hd : decode cc pc = .ok (.ldc 183, 2)) (kk : j_go X ad RX9 nm cc nL ret R Z k n (pc + 2) l (.ref (X.2.2.2.1 (10 + 5)) :: st) ν) : j_go X ad RX9 nm cc nL ret R Z k n pc l st ν := by
  intro p la e s m args below meth c H locs ls hx hb hml hown hts hr hlk hnm hE hS hR hlv
  exact va_ldcS hx hb hown hE.2.2.2.1.2.2.2.2.2.2.2.2.1 hd (kk _ _ _ _ _ _ _ _ _ _ _ _ hx hb hml hown hts hr hlk hnm hE hS hR hlv)
theorem h_ldcSRX9185 {X : gX} {nm : String} {cc : ByteArray} {nL : Nat} {ret : Option FieldType} {R : Room} {Z : List Frame → Array Value → State → State → Prop} {k n : Nat} {pc : Nat} {l : List (Nat × Value)} {st : List Value} {ad : Nat → Nat} {ν : gN} (hd : decode cc pc = .ok (.ldc 185, 2)) (kk : j_go X ad RX9 nm cc nL ret R Z k n (pc + 2) l (.ref (X.2.2.2.1 (10 + 6)) :: st) ν) : j_go X ad RX9 nm cc nL ret R Z k n pc l st ν := by
  intro p la e s m args below meth c H locs ls hx hb hml hown hts hr hlk hnm hE hS hR hlv
  exact va_ldcS hx hb hown hE.2.2.2.1.2.2.2.2.2.2.2.2.2 hd (kk _ _ _ _ _ _ _ _ _ _ _ _ hx hb hml hown hts hr hlk hnm hE hS hR hlv)
theorem h_sval {X : gX} {nm : String} {cc : ByteArray} {nL : Nat} {ret : Option FieldType} {R : Room} {Z : List Frame → Array Value → State → State → Prop} {k n : Nat} {pc : Nat} {l : List (Nat × Value)} {st : List Value} {ad : Nat → Nat} {ν : gN} {w : Nat} (hw : w < 7) (hd : decode cc pc = .ok (.getfield 9, 3)) (kk : j_go X ad RJ0 nm cc nL ret R Z k n (pc + 3) l (.ref (X.2.2.2.1 (20 + w)) :: st) ν) : j_go X ad RJ0 nm cc nL ret R Z k n pc l (.ref (X.2.2.2.1 (10 + w)) :: st) ν := by
  intro p la e s m args below meth c H locs ls hx hb hml hown hts hr hlk hnm hE hS hR hlv
  exact vk_getf hx hb (hE.2.2.1.2.2.2.2.2.1 w hw).2.2.1 hS hown (hts _ (g_in tw_1382 rfl)) (fun _ h => h) hd (kk _ _ _ _ _ _ _ _ _ _ _ _ hx hb hml hown hts hr hlk hnm hE hS hR hlv)
theorem h_scod {X : gX} {nm : String} {cc : ByteArray} {nL : Nat} {ret : Option FieldType} {R : Room} {Z : List Frame → Array Value → State → State → Prop} {k n : Nat} {pc : Nat} {l : List (Nat × Value)} {st : List Value} {ad : Nat → Nat} {ν : gN} {w : Nat} (hw : w < 7) (hd : decode cc pc = .ok (.getfield 15, 3)) (kk : j_go X ad RJ0 nm cc nL ret R Z k n (pc + 3) l (.int 0 :: st) ν) : j_go X ad RJ0 nm cc nL ret R Z k n pc l (.ref (X.2.2.2.1 (10 + w)) :: st) ν := by
  intro p la e s m args below meth c H locs ls hx hb hml hown hts hr hlk hnm hE hS hR hlv
  exact vk_getf hx hb (hE.2.2.1.2.2.2.2.2.1 w hw).2.1 hS hown (hts _ (g_in tw_1383 rfl)) (fun _ h => h) hd (kk _ _ _ _ _ _ _ _ _ _ _ _ hx hb hml hown hts hr hlk hnm hE hS hR hlv)
theorem h_blen {X : gX} {own nm : String} {cc : ByteArray} {nL : Nat} {ret : Option FieldType} {R : Room} {Z : List Frame → Array Value → State → State → Prop} {k n : Nat} {pc : Nat} {l : List (Nat × Value)} {st : List Value} {ad : Nat → Nat} {ν : gN} {w : Nat} (hw : w < 7) (hd : decode cc pc = .ok (.arraylength, 1)) (kk : j_go X ad own nm cc nL ret R Z k n (pc + 1) l (.int (nI (g_len.getD w 0)) :: st) ν) : j_go X ad own nm cc nL ret R Z k n pc l (.ref (X.2.2.2.1 (20 + w)) :: st) ν := by
  intro p la e s m args below meth c H locs ls hx hb hml hown hts hr hlk hnm hE hS hR hlv
  exact va_tlen hx hb (hE.2.2.1.2.2.2.2.2.1 w hw).2.2.2 hS rfl hd (kk _ _ _ _ _ _ _ _ _ _ _ _ hx hb hml hown hts hr hlk hnm hE hS hR hlv)
theorem h_bald {X : gX} {own nm : String} {cc : ByteArray} {nL : Nat} {ret : Option FieldType} {R : Room} {Z : List Frame → Array Value → State → State → Prop} {k n : Nat} {pc : Nat} {l : List (Nat × Value)} {st : List Value} {ad : Nat → Nat} {ν : gN} {w : Nat} {x : Int32} (hw : w < 7) (hin : inb x (g_len.getD w 0) = true) (hd : decode cc pc = .ok (.baload, 1)) (kk : j_go X ad own nm cc nL ret R Z k n (pc + 1) l (.int ((g_byt.getD w []).getD x.toNatClampNeg 0) :: st) ν) : j_go X ad own nm cc nL ret R Z k n pc l (.int x :: .ref (X.2.2.2.1 (20 + w)) :: st) ν := by
  intro p la e s m args below meth c H locs ls hx hb hml hown hts hr hlk hnm hE hS hR hlv
  exact va_tb hx hb (hE.2.2.1.2.2.2.2.2.1 w hw).2.2.2 hS (inb_in hin) rfl hd (kk _ _ _ _ _ _ _ _ _ _ _ _ hx hb hml hown hts hr hlk hnm hE hS hR hlv)
def cb (x : Int32) : Bool := x == x &&& 65535
theorem cb_n {x : Int32} (h : cb x = true) : narrow .char (.int x) = .int x := by
  simp only [cb, beq_iff_eq] at h
  obtain ⟨k, hk, e⟩ := pk_andE x (m := 65535) 16 (by decide)
  rw [h, e]
  exact (pk_charN hk).1
theorem h_xret {X : gX} {own nm : String} {cc : ByteArray} {nL : Nat} {ret : Option FieldType} {d : Nat} {pc : Nat} {l : List (Nat × Value)} {ad : Nat → Nat} {ν : gN} {v : Int32} {r : Int32 × gN} {ty : FieldType} (hz : narrow ty (.int v) = .int v) (h : some (v, ν) = some r) (hd : decode cc pc = .ok (.ireturn, 1)) (hr0 : ret = some ty) : h_go X ad own nm cc nL ret d (some (.int r.1), r.2) pc l [.int v] ν := by
  cases h
  exact go_zret hd hr0 hz ⟨rfl, rfl, rfl, rfl⟩
theorem h_sret {X : gX} {own nm : String} {cc : ByteArray} {nL : Nat} {ret : Option FieldType} {d : Nat} {pc : Nat} {l : List (Nat × Value)} {ad : Nat → Nat} {ν : gN} {q : Nat} {r : Nat × gN} {o : String} (h : some (q, ν) = some r) (hd : decode cc pc = .ok (.areturn, 1)) (hr0 : ret = some (.object o)) : h_go X ad own nm cc nL ret d (some (.ref (X.2.2.2.1 (10 + r.1))), r.2) pc l [.ref (X.2.2.2.1 (10 + q))] ν := by
  cases h
  exact go_aret hd hr0 ⟨rfl, rfl, rfl, rfl⟩
theorem h_callSs {X : gX} {own nm : String} {cc : ByteArray} {nL : Nat} {ret : Option FieldType} {R : Room} {Z : List Frame → Array Value → State → State → Prop} {k n : Nat} {pc : Nat} {l : List (Nat × Value)} {st : List Value} {ad : Nat → Nat} {ν : gN} {y : MethodName} {cy : ByteArray} {nLy idx np d' : Nat} {rety : Option FieldType} {stk : List Value} (As : List Value) {r : Nat × gN} (hcal : h_ct X ad y cy nLy rety d' (As) ν (some (.ref (X.2.2.2.1 (10 + r.1))), r.2)) (hme : g_me y cy nLy rety np) (hw : Cond.methodLink own idx y ∈ lw_tbl) (hst : Cond.static y ∈ lw_tbl) (hdd : d' + 1 ≤ R.frames ∧ 60 * d' + 60 ≤ R.locals) (hroom : k ≤ R.cells ∧ n ≤ R.slots) (hnp : As.length = np) (hstk : stk = As.reverse ++ st) (hW : (st.map fun v => v.category).sum ≤ 8) (hd : decode cc pc = .ok (.invokestatic idx, 3)) (kk : j_go X ad own nm cc nL ret R Z k n (pc + 3) l (.ref (X.2.2.2.1 (10 + r.1)) :: st) r.2) : j_go X ad own nm cc nL ret R Z k n pc l stk ν := by
  subst hstk
  refine go_callS hcal hw hst hme.1 hme.2.1 hme.2.2.1 hme.2.2.2 hdd hnp hW hroom hd (fun v ad' sh' μ' h => ?_)
  obtain ⟨rfl, rfl, rfl, rfl⟩ := h
  exact kk
def j_max (x y : Int32) : Int32 := if x < y then y else x
theorem h_mmax {X : gX} {nm : String} {cc : ByteArray} {nL : Nat} {ret : Option FieldType} {R : Room} {Z : List Frame → Array Value → State → State → Prop} {k n : Nat} {pc : Nat} {l : List (Nat × Value)} {st : List Value} {ad : Nat → Nat} {ν : gN} {x y : Int32} (hdep : 1 ≤ R.frames ∧ 60 ≤ R.locals) (hroom : k ≤ R.cells ∧ n ≤ R.slots) (hst : (st.map fun v => v.category).sum + 13 ≤ 60) (hd : decode cc pc = .ok (.invokestatic 101, 3)) (kk : j_go X ad RX5 nm cc nL ret R Z k n (pc + 3) l (.int (j_max x y) :: st) ν) : j_go X ad RX5 nm cc nL ret R Z k n pc l (.int y :: .int x :: st) ν := by
  intro p la e s m args below meth c H locs ls hx hb hml hown hts hr hlk hnm hE hS hR hlv
  refine va_mmax hx hb (hml.trans hlv.1.symm) hown (hts _ (g_in tw_591 rfl)) (hts _ (g_in tw_592 rfl)) (hts _ (g_in tw_87 rfl)) (hts _ (g_in tw_593 rfl)) hdep.1 ?_ hroom.1 hroom.2 hd (kk _ _ _ _ _ _ _ _ _ _ _ _ hx hb hml hown hts hr hlk hnm hE hS hR hlv)
  have := hdep.2
  omega
