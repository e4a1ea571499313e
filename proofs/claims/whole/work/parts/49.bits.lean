/-! THE BIT COUNT OF A LONG: bytes in a list, step by step -/
def bR : List Nat → Nat
  | [] => 0
  | b :: l => b + 256 * bR l
def dig : Nat → Nat → List Nat
  | 0, _ => []
  | n + 1, N => N % 256 :: dig n (N / 256)
theorem bR_dig : ∀ n N, N < 256 ^ n → bR (dig n N) = N
  | 0, N, h => by
    have : N = 0 := by rw [Nat.pow_zero] at h; omega
    rw [this]; rfl
  | n + 1, N, h => by
    have ih := bR_dig n (N / 256) (by rw [Nat.pow_succ] at h; exact Nat.div_lt_of_lt_mul (by rw [Nat.mul_comm]; exact h))
    show N % 256 + 256 * bR (dig n (N / 256)) = N
    rw [ih]; omega
theorem dig_lt : ∀ n N, ∀ b, b ∈ dig n N → b < 256
  | 0, _, b, h => by cases h
  | n + 1, N, b, h => by
    rcases List.mem_cons.mp h with e | e
    · rw [e]; exact Nat.mod_lt _ (by decide)
    · exact dig_lt n (N / 256) b e
theorem and256 {b m r M : Nat} (hb : b < 256) (hm : m < 256) : (b + 256 * r) &&& (m + 256 * M) = (b &&& m) + 256 * (r &&& M) := by
  have h1 : ((b + 256 * r) &&& (m + 256 * M)) % 2 ^ 8 = b &&& m := by
    rw [Nat.and_mod_two_pow, show (b + 256 * r) % 2 ^ 8 = b by omega, show (m + 256 * M) % 2 ^ 8 = m by omega]
  have h2 : ((b + 256 * r) &&& (m + 256 * M)) / 2 ^ 8 = r &&& M := by
    rw [Nat.and_div_two_pow, show (b + 256 * r) / 2 ^ 8 = r by omega, show (m + 256 * M) / 2 ^ 8 = M by omega]
  generalize (b + 256 * r) &&& (m + 256 * M) = t at h1 h2
  omega
theorem bR_and {m : Nat} (hm : m < 256) : ∀ l : List Nat, (∀ b, b ∈ l → b < 256) → bR l &&& bR (l.map fun _ => m) = bR (l.map fun b => b &&& m)
  | [], _ => Nat.zero_and _
  | b :: l, h => by
    have ih := bR_and hm l (fun c hc => h c (List.mem_cons_of_mem _ hc))
    show (b + 256 * bR l) &&& (m + 256 * bR (l.map fun _ => m)) = (b &&& m) + 256 * bR (l.map fun b => b &&& m)
    rw [and256 (h b List.mem_cons_self) hm, ih]
theorem bR_add (f g : Nat → Nat) : ∀ l : List Nat, bR (l.map f) + bR (l.map g) = bR (l.map fun b => f b + g b)
  | [] => rfl
  | b :: l => by
    have ih := bR_add f g l
    show (f b + 256 * bR (l.map f)) + (g b + 256 * bR (l.map g)) = (f b + g b) + 256 * bR (l.map fun b => f b + g b)
    rw [← ih]; omega
theorem d_s1 : ∀ b, b < 256 → ∀ q, q < 2 → (b / 2 + 128 * q) &&& 85 = (b / 2) &&& 85 := by decide +kernel
theorem d_s2 : ∀ b, b < 256 → ∀ q, q < 4 → (b / 4 + 64 * q) &&& 51 = (b / 4) &&& 51 := by decide +kernel
theorem d_s3 : ∀ b, b < 256 → ∀ q, q < 5 → (b + b / 16 + 16 * q) &&& 15 = (b + b / 16) &&& 15 := by decide +kernel
theorem bR_s1 : ∀ l : List Nat, (∀ b, b ∈ l → b < 256) → (bR l / 2) &&& bR (l.map fun _ => 85) = bR (l.map fun b => (b / 2) &&& 85)
  | [], _ => rfl
  | b :: l, h => by
    have ih := bR_s1 l (fun c hc => h c (List.mem_cons_of_mem _ hc))
    have hb := h b List.mem_cons_self
    show ((b + 256 * bR l) / 2) &&& (85 + 256 * bR (l.map fun _ => 85)) = ((b / 2) &&& 85) + 256 * bR (l.map fun b => (b / 2) &&& 85)
    rw [← ih, show (b + 256 * bR l) / 2 = (b / 2 + 128 * (bR l % 2)) + 256 * (bR l / 2) by omega, and256 (by omega) (by decide), d_s1 b hb _ (Nat.mod_lt _ (by decide))]
theorem bR_s2 : ∀ l : List Nat, (∀ b, b ∈ l → b < 256) → (bR l / 4) &&& bR (l.map fun _ => 51) = bR (l.map fun b => (b / 4) &&& 51)
  | [], _ => rfl
  | b :: l, h => by
    have ih := bR_s2 l (fun c hc => h c (List.mem_cons_of_mem _ hc))
    have hb := h b List.mem_cons_self
    show ((b + 256 * bR l) / 4) &&& (51 + 256 * bR (l.map fun _ => 51)) = ((b / 4) &&& 51) + 256 * bR (l.map fun b => (b / 4) &&& 51)
    rw [← ih, show (b + 256 * bR l) / 4 = (b / 4 + 64 * (bR l % 4)) + 256 * (bR l / 4) by omega, and256 (by omega) (by decide), d_s2 b hb _ (Nat.mod_lt _ (by decide))]
theorem bR_m16 : ∀ l : List Nat, (∀ b, b ∈ l → b % 16 ≤ 4 ∧ b / 16 ≤ 4) → bR l % 16 ≤ 4
  | [], _ => by decide
  | b :: l, h => by
    have := (h b List.mem_cons_self).1
    show (b + 256 * bR l) % 16 ≤ 4
    omega
theorem bR_s3 : ∀ l : List Nat, (∀ b, b ∈ l → b % 16 ≤ 4 ∧ b / 16 ≤ 4) → (bR l + bR l / 16) &&& bR (l.map fun _ => 15) = bR (l.map fun b => (b + b / 16) &&& 15)
  | [], _ => rfl
  | b :: l, h => by
    have ih := bR_s3 l (fun c hc => h c (List.mem_cons_of_mem _ hc))
    have hb := h b List.mem_cons_self
    have hq := bR_m16 l (fun c hc => h c (List.mem_cons_of_mem _ hc))
    show ((b + 256 * bR l) + (b + 256 * bR l) / 16) &&& (15 + 256 * bR (l.map fun _ => 15)) = ((b + b / 16) &&& 15) + 256 * bR (l.map fun b => (b + b / 16) &&& 15)
    rw [← ih, show (b + 256 * bR l) + (b + 256 * bR l) / 16 = (b + b / 16 + 16 * (bR l % 16)) + 256 * (bR l + bR l / 16) by omega, and256 (by omega) (by decide), d_s3 b (by omega) _ (by omega)]
/-! longs as numbers -/
def nL (x : Int64) : Nat := x.toBitVec.toNat
theorem nL_lt (x : Int64) : nL x < 18446744073709551616 := x.toBitVec.isLt
theorem nL_sh (x : Int64) {j : Nat} (hj : j < 64) : nL (j_lushr x (nI j)) = nL x / 2 ^ j := by
  show (x.toUInt64 >>> ((nI j).toInt64.toUInt64 &&& Int64.toUInt64 63)).toNat = _
  rw [UInt64.toNat_shiftRight, sh_u j hj, Nat.mod_eq_of_lt hj, Nat.shiftRight_eq_div_pow]
  rfl
theorem nL_and (x y : Int64) : nL (x &&& y) = nL x &&& nL y := by
  unfold nL
  rw [Int64.toBitVec_and, BitVec.toNat_and]
theorem nL_add (x y : Int64) : nL (x + y) = (nL x + nL y) % 18446744073709551616 := by
  unfold nL
  rw [Int64.toBitVec_add, BitVec.toNat_add]
theorem nL_sub (x y : Int64) (h : nL y ≤ nL x) : nL (x - y) = nL x - nL y := by
  have hx := nL_lt x
  have hy := nL_lt y
  unfold nL at h hx hy ⊢
  rw [Int64.toBitVec_sub, BitVec.toNat_sub]
  generalize x.toBitVec.toNat = a at h hx ⊢
  generalize y.toBitVec.toNat = b at h hy ⊢
  show (18446744073709551616 - b + a) % 18446744073709551616 = a - b
  omega
theorem nL_m1 : nL 6148914691236517205 = bR [85, 85, 85, 85, 85, 85, 85, 85] := by decide +kernel
theorem nL_m2 : nL 3689348814741910323 = bR [51, 51, 51, 51, 51, 51, 51, 51] := by decide +kernel
theorem nL_m3 : nL 1085102592571150095 = bR [15, 15, 15, 15, 15, 15, 15, 15] := by decide +kernel
theorem dig_8 (N : Nat) : ∃ b0 b1 b2 b3 b4 b5 b6 b7, dig 8 N = [b0, b1, b2, b3, b4, b5, b6, b7] := ⟨_, _, _, _, _, _, _, _, rfl⟩
theorem map_8 (f : Nat → Nat) (b0 b1 b2 b3 b4 b5 b6 b7 : Nat) : [b0, b1, b2, b3, b4, b5, b6, b7].map f = [f b0, f b1, f b2, f b3, f b4, f b5, f b6, f b7] := rfl
theorem len_8 {l : List Nat} (h : ∃ b0 b1 b2 b3 b4 b5 b6 b7, l = [b0, b1, b2, b3, b4, b5, b6, b7]) (m : Nat) : bR (l.map fun _ => m) = bR [m, m, m, m, m, m, m, m] := by
  obtain ⟨b0, b1, b2, b3, b4, b5, b6, b7, rfl⟩ := h
  rw [map_8]
theorem map_x {l : List Nat} (f : Nat → Nat) (h : ∃ b0 b1 b2 b3 b4 b5 b6 b7, l = [b0, b1, b2, b3, b4, b5, b6, b7]) : ∃ b0 b1 b2 b3 b4 b5 b6 b7, l.map f = [b0, b1, b2, b3, b4, b5, b6, b7] := by
  obtain ⟨b0, b1, b2, b3, b4, b5, b6, b7, rfl⟩ := h
  exact ⟨_, _, _, _, _, _, _, _, map_8 f _ _ _ _ _ _ _ _⟩
theorem b127 : ∀ i, i < 32 → (Int32.toBitVec 127).getLsbD i = decide (i < 7) := by decide +kernel
theorem nL_127 (x : Int64) : x.toInt32 &&& 127 = nI (nL x % 128) := by
  apply Int32.toBitVec_inj.mp
  apply BitVec.eq_of_getLsbD_eq
  intro i hi
  show (x.toInt32 &&& 127).toBitVec.getLsbD i = (BitVec.ofNat 32 (nL x % 2 ^ 7)).getLsbD i
  rw [Int32.toBitVec_and, BitVec.getLsbD_and, b127 i hi, Int64.toBitVec_toInt32, BitVec.getLsbD_signExtend, BitVec.getLsbD_ofNat, Nat.testBit_mod_two_pow]
  have e : (nL x).testBit i = x.toBitVec.getLsbD i := rfl
  rw [e]
  by_cases h7 : i < 7
  · simp [h7, hi, show i < 64 by omega]
  · simp [h7]
/-! the six steps -/
def bq1 (x : Int64) : Int64 := x - ((j_lushr x 1) &&& 6148914691236517205)
def bq2 (x : Int64) : Int64 := (x &&& 3689348814741910323) + ((j_lushr x 2) &&& 3689348814741910323)
def bq3 (x : Int64) : Int64 := (x + (j_lushr x 4)) &&& 1085102592571150095
def bq4 (x : Int64) : Int64 := x + (j_lushr x 8)
def bq5 (x : Int64) : Int64 := x + (j_lushr x 16)
def bq6 (x : Int64) : Int64 := x + (j_lushr x 32)
theorem bc_f (x : Int64) (ν : gN) : f_J13_bitCount_95d88 x ν = some ((bq6 (bq5 (bq4 (bq3 (bq2 (bq1 x)))))).toInt32 &&& 127, ν) := by
  rw [f_J13_bitCount_95d88]
  simp only [ql]
  rw [bq6, bq5, bq4, bq3, bq2, bq1]
def g1 (b : Nat) : Nat := b - ((b / 2) &&& 85)
def g2 (b : Nat) : Nat := (b &&& 51) + ((b / 4) &&& 51)
def g3 (b : Nat) : Nat := (b + b / 16) &&& 15
theorem g1_t : ∀ b, b < 256 → ((b / 2) &&& 85) ≤ b ∧ g1 b < 256 := by decide +kernel
theorem g2_t : ∀ b, b < 256 → g2 (g1 b) % 16 ≤ 4 ∧ g2 (g1 b) / 16 ≤ 4 := by decide +kernel
theorem g3_t : ∀ b, b < 256 → g3 (g2 (g1 b)) = cnt (fun i => b.testBit i) 8 := by decide +kernel
theorem mp8 {f : Nat → Nat} {N : Nat} {P : Nat → Prop} (h : ∀ b, b < 256 → P (f b)) : ∀ c, c ∈ (dig 8 N).map f → P c := fun c hc => by
  obtain ⟨b, hb, rfl⟩ := List.mem_map.mp hc
  exact h b (dig_lt 8 N b hb)
theorem bR_g1 : ∀ l : List Nat, (∀ b, b ∈ l → b < 256) → bR (l.map fun b => (b / 2) &&& 85) ≤ bR l ∧ bR l - bR (l.map fun b => (b / 2) &&& 85) = bR (l.map g1)
  | [], _ => ⟨Nat.le_refl _, rfl⟩
  | b :: l, h => by
    obtain ⟨i1, i2⟩ := bR_g1 l (fun c hc => h c (List.mem_cons_of_mem _ hc))
    have hb := (g1_t b (h b List.mem_cons_self)).1
    have e1 : bR ((b :: l).map fun b => (b / 2) &&& 85) = ((b / 2) &&& 85) + 256 * bR (l.map fun b => (b / 2) &&& 85) := rfl
    have e2 : bR ((b :: l).map g1) = (b - ((b / 2) &&& 85)) + 256 * bR (l.map g1) := rfl
    have e3 : bR (b :: l) = b + 256 * bR l := rfl
    rw [e1, e2, e3, ← i2]
    omega
theorem st_1 {x : Int64} {N : Nat} (h : nL x = bR (dig 8 N)) : nL (bq1 x) = bR ((dig 8 N).map g1) := by
  have hl := dig_lt 8 N
  have e1 : nL ((j_lushr x 1) &&& 6148914691236517205) = bR ((dig 8 N).map fun b => (b / 2) &&& 85) := by
    rw [nL_and, show (1 : Int32) = nI 1 from rfl, nL_sh x (by decide), h, nL_m1, ← len_8 (dig_8 N)]
    exact bR_s1 (dig 8 N) hl
  obtain ⟨k1, k2⟩ := bR_g1 (dig 8 N) hl
  rw [bq1, nL_sub _ _ (by rw [e1, h]; exact k1), e1, h, k2]
theorem bR_lt : ∀ l : List Nat, (∀ b, b ∈ l → b < 256) → bR l < 256 ^ l.length
  | [], _ => by decide
  | b :: l, h => by
    have ih := bR_lt l (fun c hc => h c (List.mem_cons_of_mem _ hc))
    have hb := h b List.mem_cons_self
    show b + 256 * bR l < 256 ^ (l.length + 1)
    rw [Nat.pow_succ]
    omega
theorem bR_68 : ∀ l : List Nat, (∀ b, b ∈ l → b ≤ 68) → bR l * 3 < 256 ^ l.length
  | [], _ => by decide
  | b :: l, h => by
    have ih := bR_68 l (fun c hc => h c (List.mem_cons_of_mem _ hc))
    have hb := h b List.mem_cons_self
    show (b + 256 * bR l) * 3 < 256 ^ (l.length + 1)
    rw [Nat.pow_succ]
    omega
theorem p256 : 256 ^ 8 = 18446744073709551616 := by decide
theorem ln_8 {l : List Nat} (h : ∃ b0 b1 b2 b3 b4 b5 b6 b7, l = [b0, b1, b2, b3, b4, b5, b6, b7]) : l.length = 8 := by
  obtain ⟨b0, b1, b2, b3, b4, b5, b6, b7, rfl⟩ := h
  rfl
theorem g2_b : ∀ b, b < 256 → g2 b < 256 := by decide +kernel
theorem st_2 {x : Int64} {N : Nat} (h : nL x = bR ((dig 8 N).map g1)) : nL (bq2 x) = bR (((dig 8 N).map g1).map g2) := by
  have hl : ∀ c, c ∈ (dig 8 N).map g1 → c < 256 := mp8 (fun b hb => (g1_t b hb).2)
  have e1 : nL (x &&& 3689348814741910323) = bR (((dig 8 N).map g1).map fun b => b &&& 51) := by
    rw [nL_and, h, nL_m2, ← len_8 (map_x g1 (dig_8 N))]
    exact bR_and (by decide) _ hl
  have e2 : nL ((j_lushr x 2) &&& 3689348814741910323) = bR (((dig 8 N).map g1).map fun b => (b / 4) &&& 51) := by
    rw [nL_and, show (2 : Int32) = nI 2 from rfl, nL_sh x (by decide), h, nL_m2, ← len_8 (map_x g1 (dig_8 N))]
    exact bR_s2 _ hl
  have e3 := bR_add (fun b => b &&& 51) (fun b => (b / 4) &&& 51) ((dig 8 N).map g1)
  have l2 : bR (((dig 8 N).map g1).map g2) < 18446744073709551616 := by
    have l3 := bR_lt (((dig 8 N).map g1).map g2) (fun c hc => by
      obtain ⟨b, hb, rfl⟩ := List.mem_map.mp hc
      exact g2_b b (hl b hb))
    rw [ln_8 (map_x g2 (map_x g1 (dig_8 N))), p256] at l3
    exact l3
  have e4 : bR (((dig 8 N).map g1).map fun b => (b &&& 51) + ((b / 4) &&& 51)) = bR (((dig 8 N).map g1).map g2) := congrArg (fun f => bR (((dig 8 N).map g1).map f)) (show (fun b => (b &&& 51) + ((b / 4) &&& 51)) = g2 from rfl)
  rw [bq2, nL_add, e1, e2, e3, e4, Nat.mod_eq_of_lt l2]
theorem st_3 {x : Int64} {N : Nat} (h : nL x = bR (((dig 8 N).map g1).map g2)) : nL (bq3 x) = bR ((((dig 8 N).map g1).map g2).map g3) := by
  have hl : ∀ c, c ∈ ((dig 8 N).map g1).map g2 → c % 16 ≤ 4 ∧ c / 16 ≤ 4 := fun c hc => by
    obtain ⟨b, hb, rfl⟩ := List.mem_map.mp hc
    obtain ⟨a, ha, rfl⟩ := List.mem_map.mp hb
    exact g2_t a (dig_lt 8 N a ha)
  have l1 : bR (((dig 8 N).map g1).map g2) * 3 < 18446744073709551616 := by
    have l3 := bR_68 (((dig 8 N).map g1).map g2) (fun c hc => by have := hl c hc; omega)
    rw [ln_8 (map_x g2 (map_x g1 (dig_8 N))), p256] at l3
    exact l3
  have e0 : nL (x + (j_lushr x 4)) = bR (((dig 8 N).map g1).map g2) + bR (((dig 8 N).map g1).map g2) / 16 := by
    rw [nL_add, show (4 : Int32) = nI 4 from rfl, nL_sh x (by decide), h]
    generalize bR (((dig 8 N).map g1).map g2) = t at l1 ⊢
    exact Nat.mod_eq_of_lt (by show t + t / 16 < _; omega)
  rw [bq3, nL_and, e0, nL_m3, ← len_8 (map_x g2 (map_x g1 (dig_8 N)))]
  exact bR_s3 _ hl
theorem f_8 {a r : Nat} (ha : a < 256) : (a + 256 * r) / 256 = r := by omega
theorem f_16 {a b r : Nat} (ha : a < 256) (hb : b < 256) : (a + 256 * (b + 256 * r)) / 65536 = r := by omega
theorem f_32 {a b c d r : Nat} (ha : a < 256) (hb : b < 256) (hc : c < 256) (hd : d < 256) : (a + 256 * (b + 256 * (c + 256 * (d + 256 * r)))) / 4294967296 = r := by omega
theorem f_m {a b : Nat} (h : a * 16 < 18446744073709551616) (hb : b ≤ a * 8) : b % 18446744073709551616 = b := Nat.mod_eq_of_lt (by omega)
theorem f_2 {a d : Nat} : a + a / d ≤ a * 2 := by
  have := Nat.div_le_self a d
  omega
theorem lin2 {c0 c1 r1 r2 : Nat} (e1 : r1 = c1 + 256 * r2) : c0 + 256 * r1 + r1 = (c0 + c1) + 256 * (r1 + r2) := by omega
theorem fold8 {n5 n7 n9 n11 c0 c1 c2 c3 c4 c5 c6 c7 r1 r2 r3 r4 r5 r6 : Nat} (h0 : n5 = c0 + 256 * r1) (e1 : r1 = c1 + 256 * r2) (e2 : r2 = c2 + 256 * r3) (e3 : r3 = c3 + 256 * r4) (e4 : r4 = c4 + 256 * r5) (e5 : r5 = c5 + 256 * r6) (e6 : r6 = c6 + 256 * c7) (hb : n5 * 16 < 18446744073709551616) (k0 : c0 ≤ 8) (k1 : c1 ≤ 8) (k2 : c2 ≤ 8) (k3 : c3 ≤ 8) (k4 : c4 ≤ 8) (k5 : c5 ≤ 8) (k6 : c6 ≤ 8) (k7 : c7 ≤ 8) (h7 : n7 = (n5 + n5 / 256) % 18446744073709551616) (h9 : n9 = (n7 + n7 / 65536) % 18446744073709551616) (h11 : n11 = (n9 + n9 / 4294967296) % 18446744073709551616) : n11 % 128 = c0 + (c1 + (c2 + (c3 + (c4 + (c5 + (c6 + (c7 + 0))))))) := by
  have q7 : n5 + n5 / 256 ≤ n5 * 2 := f_2
  rw [f_m hb (by omega)] at h7
  have q9 : n7 + n7 / 65536 ≤ n7 * 2 := f_2
  rw [f_m hb (by omega)] at h9
  have q11 : n9 + n9 / 4294967296 ≤ n9 * 2 := f_2
  rw [f_m hb (by omega)] at h11
  clear q7 q9 q11 hb
  have d5 : n5 / 256 = r1 := by rw [h0]; exact f_8 (by omega)
  rw [d5, h0, lin2 e1] at h7
  have s1 : r1 + r2 = (c1 + c2) + 256 * (r2 + r3) := by clear h7 h9 h11 d5; omega
  have s2 : r2 + r3 = (c2 + c3) + 256 * (r3 + r4) := by clear h7 h9 h11 d5 s1; omega
  have s3 : r3 + r4 = (c3 + c4) + 256 * (r4 + r5) := by clear h7 h9 h11 d5 s1 s2; omega
  have s4 : r4 + r5 = (c4 + c5) + 256 * (r5 + r6) := by clear h7 h9 h11 d5 s1 s2 s3; omega
  have s5 : r5 + r6 = (c5 + c6) + 256 * (r6 + c7) := by clear h7 h9 h11 d5 s1 s2 s3 s4; omega
  have s6 : r6 + c7 = (c6 + c7) + 256 * c7 := by clear h7 h9 h11 d5 s1 s2 s3 s4 s5; omega
  clear d5 h0 e1 e2 e3 e4 e5 e6
  generalize r1 + r2 = t1 at *
  generalize r2 + r3 = t2 at *
  generalize r3 + r4 = t3 at *
  generalize r4 + r5 = t4 at *
  generalize r5 + r6 = t5 at *
  generalize r6 + c7 = t6 at *
  have d7 : n7 / 65536 = t2 := by rw [h7, s1]; exact f_16 (by omega) (by omega)
  have g0 : n9 = (c0 + c1 + (c2 + c3)) + 256 * (t1 + t3) := by rw [h9, d7, h7]; clear h9 d7 h7 h11; omega
  have g1 : t1 + t3 = (c1 + c2 + (c3 + c4)) + 256 * (t2 + t4) := by clear h9 d7 h7 h11 g0; omega
  have g2 : t2 + t4 = (c2 + c3 + (c4 + c5)) + 256 * (t3 + t5) := by clear h9 d7 h7 h11 g0 g1; omega
  have g3 : t3 + t5 = (c3 + c4 + (c5 + c6)) + 256 * (t4 + t6) := by clear h9 d7 h7 h11 g0 g1 g2; omega
  have g4 : t4 + t6 = (c4 + c5 + (c6 + c7)) + 256 * (t5 + c7) := by clear h9 d7 h7 h11 g0 g1 g2 g3; omega
  clear h9 d7 h7 s1 s2 s3 s4 s5 s6
  generalize t1 + t3 = u1 at *
  generalize t2 + t4 = u2 at *
  generalize t3 + t5 = u3 at *
  generalize t4 + t6 = u4 at *
  have d9 : n9 / 4294967296 = u4 := by rw [g0, g1, g2, g3]; exact f_32 (by omega) (by omega) (by omega) (by omega)
  rw [d9, g0] at h11
  clear d9 g0 g1 g2 g3
  omega
theorem bR_16 : ∀ l : List Nat, (∀ b, b ∈ l → b ≤ 8) → bR l * 16 < 256 ^ l.length
  | [], _ => by decide
  | b :: l, h => by
    have ih := bR_16 l (fun c hc => h c (List.mem_cons_of_mem _ hc))
    have hb := h b List.mem_cons_self
    show (b + 256 * bR l) * 16 < 256 ^ (l.length + 1)
    rw [Nat.pow_succ]
    omega
theorem bR_8 (c0 c1 c2 c3 c4 c5 c6 c7 : Nat) : bR [c0, c1, c2, c3, c4, c5, c6, c7] = c0 + 256 * (c1 + 256 * (c2 + 256 * (c3 + 256 * (c4 + 256 * (c5 + 256 * (c6 + 256 * (c7 + 256 * 0))))))) := rfl
theorem cnt_add {P : Nat → Bool} (a : Nat) : ∀ b, cnt P (a + b) = cnt P a + cnt (fun i => P (a + i)) b
  | 0 => rfl
  | b + 1 => by
    show cnt P (a + b + 1) = _
    rw [cnt, cnt, cnt_add a b]
    by_cases hp : P (a + b) = true
    · rw [if_pos hp, if_pos hp, Nat.add_assoc]
    · rw [if_neg hp, if_neg hp]
def sb8 : Nat → Nat → Nat
  | 0, _ => 0
  | n + 1, N => cnt (fun i => (N % 256).testBit i) 8 + sb8 n (N / 256)
theorem sb8_e : ∀ n N, sb8 n N = cnt (fun i => N.testBit i) (8 * n)
  | 0, _ => rfl
  | n + 1, N => by
    rw [sb8, sb8_e n (N / 256), show 8 * (n + 1) = 8 + 8 * n by omega, cnt_add 8 (8 * n)]
    congr 1
    · refine cnt_cong 8 (fun i hi => ?_)
      show (N % 2 ^ 8).testBit i = _
      rw [Nat.testBit_mod_two_pow, decide_eq_true hi, Bool.true_and]
    · refine cnt_cong _ (fun i _ => ?_)
      show (N / 2 ^ 8).testBit i = _
      rw [Nat.testBit_div_two_pow, Nat.add_comm]
theorem bc_64 {m : Int64} {F : Nat → Bool} (ν : gN) (h : MK F m) : f_J13_bitCount_95d88 m ν = some (nI (cnt F 64), ν) := by
  rw [bc_f, nL_127]
  have hN : nL m = bR (dig 8 (nL m)) := (bR_dig 8 _ (by rw [p256]; exact nL_lt m)).symm
  have s3 := st_3 (st_2 (st_1 hN))
  generalize hx5 : bq3 (bq2 (bq1 m)) = x5 at s3 ⊢
  have h7 : nL (bq4 x5) = (nL x5 + nL x5 / 256) % 18446744073709551616 := by
    rw [bq4, nL_add, show (8 : Int32) = nI 8 from rfl, nL_sh x5 (by decide)]
  have h9 : nL (bq5 (bq4 x5)) = (nL (bq4 x5) + nL (bq4 x5) / 65536) % 18446744073709551616 := by
    rw [bq5, nL_add, show (16 : Int32) = nI 16 from rfl, nL_sh (bq4 x5) (by decide)]
  have h11 : nL (bq6 (bq5 (bq4 x5))) = (nL (bq5 (bq4 x5)) + nL (bq5 (bq4 x5)) / 4294967296) % 18446744073709551616 := by
    rw [bq6, nL_add, show (32 : Int32) = nI 32 from rfl, nL_sh (bq5 (bq4 x5)) (by decide)]
  have kb : ∀ N, g3 (g2 (g1 (N % 256))) = cnt (fun i => (N % 256).testBit i) 8 := fun N => g3_t _ (Nat.mod_lt _ (by decide))
  have kc : ∀ N, g3 (g2 (g1 (N % 256))) ≤ 8 := fun N => by rw [kb]; exact cnt_le _ 8
  have e8 : sb8 8 (nL m) = cnt F 64 := by
    rw [sb8_e]
    exact cnt_cong 64 (fun i hi => h i hi)
  have hb : nL x5 * 16 < 18446744073709551616 := by
    have l3 := bR_16 ((((dig 8 (nL m)).map g1).map g2).map g3) (fun c hc => by
      obtain ⟨b, hb, rfl⟩ := List.mem_map.mp hc
      obtain ⟨a, ha, rfl⟩ := List.mem_map.mp hb
      obtain ⟨d, hd, rfl⟩ := List.mem_map.mp ha
      rw [g3_t d (dig_lt 8 _ d hd)]
      exact cnt_le _ 8)
    rw [ln_8 (map_x g3 (map_x g2 (map_x g1 (dig_8 (nL m))))), p256] at l3
    rw [s3]
    exact l3
  have hl : ∀ N, (((dig 8 N).map g1).map g2).map g3 = [g3 (g2 (g1 (N % 256))), g3 (g2 (g1 (N / 256 % 256))), g3 (g2 (g1 (N / 256 / 256 % 256))), g3 (g2 (g1 (N / 256 / 256 / 256 % 256))), g3 (g2 (g1 (N / 256 / 256 / 256 / 256 % 256))), g3 (g2 (g1 (N / 256 / 256 / 256 / 256 / 256 % 256))), g3 (g2 (g1 (N / 256 / 256 / 256 / 256 / 256 / 256 % 256))), g3 (g2 (g1 (N / 256 / 256 / 256 / 256 / 256 / 256 / 256 % 256)))] := fun N => rfl
  have hs : ∀ N, sb8 8 N = cnt (fun i => (N % 256).testBit i) 8 + (cnt (fun i => (N / 256 % 256).testBit i) 8 + (cnt (fun i => (N / 256 / 256 % 256).testBit i) 8 + (cnt (fun i => (N / 256 / 256 / 256 % 256).testBit i) 8 + (cnt (fun i => (N / 256 / 256 / 256 / 256 % 256).testBit i) 8 + (cnt (fun i => (N / 256 / 256 / 256 / 256 / 256 % 256).testBit i) 8 + (cnt (fun i => (N / 256 / 256 / 256 / 256 / 256 / 256 % 256).testBit i) 8 + (cnt (fun i => (N / 256 / 256 / 256 / 256 / 256 / 256 / 256 % 256).testBit i) 8 + 0))))))) := fun N => by simp only [sb8]
  rw [hl, bR_8, Nat.mul_zero, Nat.add_zero] at s3
  rw [← e8, hs, ← kb, ← kb, ← kb, ← kb, ← kb, ← kb, ← kb, ← kb]
  have k0 := kc (nL m)
  have k1 := kc (nL m / 256)
  have k2 := kc (nL m / 256 / 256)
  have k3 := kc (nL m / 256 / 256 / 256)
  have k4 := kc (nL m / 256 / 256 / 256 / 256)
  have k5 := kc (nL m / 256 / 256 / 256 / 256 / 256)
  have k6 := kc (nL m / 256 / 256 / 256 / 256 / 256 / 256)
  have k7 := kc (nL m / 256 / 256 / 256 / 256 / 256 / 256 / 256)
  generalize g3 (g2 (g1 (nL m % 256))) = c0 at *
  generalize g3 (g2 (g1 (nL m / 256 % 256))) = c1 at *
  generalize g3 (g2 (g1 (nL m / 256 / 256 % 256))) = c2 at *
  generalize g3 (g2 (g1 (nL m / 256 / 256 / 256 % 256))) = c3 at *
  generalize g3 (g2 (g1 (nL m / 256 / 256 / 256 / 256 % 256))) = c4 at *
  generalize g3 (g2 (g1 (nL m / 256 / 256 / 256 / 256 / 256 % 256))) = c5 at *
  generalize g3 (g2 (g1 (nL m / 256 / 256 / 256 / 256 / 256 / 256 % 256))) = c6 at *
  generalize g3 (g2 (g1 (nL m / 256 / 256 / 256 / 256 / 256 / 256 / 256 % 256))) = c7 at *
  rw [fold8 s3 rfl rfl rfl rfl rfl rfl hb k0 k1 k2 k3 k4 k5 k6 k7 h7 h9 h11]
theorem cnt_49 {F : Nat → Bool} (h : ∀ i, 49 ≤ i → F i = false) : cnt F 64 = cnt F 49 := by
  have e := cnt_add (P := F) 49 15
  have e2 : cnt (fun i => F (49 + i)) 15 = cnt (fun _ => false) 15 := cnt_cong 15 (fun i _ => h _ (by omega))
  have e3 : cnt (fun _ => false) 15 = 0 := by decide
  rw [show (64 : Nat) = 49 + 15 from rfl, e, e2, e3]
  rfl
theorem hB (m : Int64) (F : Nat → Bool) (ν : gN) (h : MK F m) (h49 : ∀ i, 49 ≤ i → F i = false) : f_J13_bitCount_95d88 m ν = some (nI (cnt F 49), ν) := by
  rw [bc_64 ν h, cnt_49 h49]
