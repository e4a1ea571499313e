/-! THE LAW'S OWN MEMORY: the cells of the class (0 to 52) and of the reference (53 to 72), as both constructors make them; from there on nothing is made, and no reference changes. -/
def SH : gSh := [(10, 11), (6, 13), (0, 7), (0, 7), (0, 7), (0, 7), (0, 7), (0, 7), (6, 13), (0, 7), (0, 7), (0, 7), (0, 7), (0, 7), (0, 7), (6, 13), (0, 7), (0, 7), (0, 7), (0, 7), (0, 7), (0, 7), (3, 8), (0, 8), (9, 5), (0, 49), (0, 49), (0, 49), (0, 49), (0, 49), (5, 2), (0, 7), (1, 31), (7, 5), (0, 160), (4, 5), (0, 20), (8, 3), (1, 160), (8, 3), (1, 160), (8, 3), (1, 160), (8, 3), (1, 160), (8, 3), (1, 160), (8, 3), (1, 160), (8, 3), (1, 160), (8, 3), (1, 160), (11, 29), (0, 7), (0, 7), (0, 7), (0, 7), (0, 7), (0, 7), (2, 49), (0, 4), (0, 8), (0, 8), (1, 1280), (0, 5), (0, 96), (0, 20), (0, 8), (0, 96), (0, 49), (0, 49), (0, 96)]
def RHT : List (List (Option Nat)) := [[some 1, some 8, some 15, some 22, some 23, some 24, some 30, some 33, some 35], [some 2, some 3, some 4, some 5, some 6, some 7], [], [], [], [], [], [], [some 9, some 10, some 11, some 12, some 13, some 14], [], [], [], [], [], [], [some 16, some 17, some 18, some 19, some 20, some 21], [], [], [], [], [], [], [some 37, some 39, some 41, some 43, some 45, some 47, some 49, some 51], [], [some 25, some 26, some 27, some 28, some 29], [], [], [], [], [], [some 31, some 32], [], [], [some 34], [], [some 36], [], [some 38], [], [some 40], [], [some 42], [], [some 44], [], [some 46], [], [some 48], [], [some 50], [], [some 52], [], [none, some 54, some 55, some 56, some 57, some 58, some 59, some 60, some 61, none, some 62, some 63, some 64, none, none, some 65, none, some 66, none, some 67, some 68, none, some 69, none, none, some 70, some 71, some 72], [], [], [], [], [], [], [], [], [], [], [], [], [], [], [], [], [], [], []]
def RHO (i k : Nat) : Option Nat := (RHT.getD i []).getD k none
abbrev gN : Type := (Nat → Nat → Int32) × (Nat → Nat → Int64)
def gF (ν : gN) : gM := (ν.1, ν.2, RHO)
def nWI (ν : gN) (i k : Nat) (x : Int32) : gN := (fun a b => if a = i ∧ b = k then x else ν.1 a b, ν.2)
def nWL (ν : gN) (i k : Nat) (x : Int64) : gN := (ν.1, fun a b => if a = i ∧ b = k then x else ν.2 a b)
def nCI (ν : gN) (i j sp dp n : Nat) : gN := (fun a b => if a = j ∧ (dp ≤ b ∧ b < dp + n) then ν.1 i (sp + (b - dp)) else ν.1 a b, ν.2)
def nCJ (ν : gN) (i j sp dp n : Nat) : gN := (ν.1, fun a b => if a = j ∧ (dp ≤ b ∧ b < dp + n) then ν.2 i (sp + (b - dp)) else ν.2 a b)
def isP (p : Nat) : Prop := p = 1 ∨ p = 8 ∨ p = 15
def isS (s : Nat) : Prop := ∃ j, j < 8 ∧ s = 37 + 2 * j
theorem isP_1 : isP 1 := Or.inl rfl
theorem isP_8 : isP 8 := Or.inr (Or.inl rfl)
theorem isP_15 : isP 15 := Or.inr (Or.inr rfl)
theorem shP {p : Nat} (h : isP p) : SH[p]? = some (2 + 4, 13) := by rcases h with rfl | rfl | rfl <;> rfl
theorem shS {s : Nat} (h : isS s) : SH[s]? = some (4 + 4, 3) := by
  obtain ⟨j, hj, rfl⟩ := h
  match j, hj with
  | 0, _ => rfl
  | 1, _ => rfl
  | 2, _ => rfl
  | 3, _ => rfl
  | 4, _ => rfl
  | 5, _ => rfl
  | 6, _ => rfl
  | 7, _ => rfl
theorem shS1 {s : Nat} (h : isS s) : SH[s + 1]? = some (1, 160) := by
  obtain ⟨j, hj, rfl⟩ := h
  match j, hj with
  | 0, _ => rfl
  | 1, _ => rfl
  | 2, _ => rfl
  | 3, _ => rfl
  | 4, _ => rfl
  | 5, _ => rfl
  | 6, _ => rfl
  | 7, _ => rfl
theorem fvS {s : Nat} {ad : Nat → Nat} {ν : gN} (h : isS s) : g_fv ad (gF ν) s 0 (g_ty 4 0) = .ref (ad (s + 1)) := by
  obtain ⟨j, hj, rfl⟩ := h
  match j, hj with
  | 0, _ => rfl
  | 1, _ => rfl
  | 2, _ => rfl
  | 3, _ => rfl
  | 4, _ => rfl
  | 5, _ => rfl
  | 6, _ => rfl
  | 7, _ => rfl
theorem shP1 {p : Nat} (h : isP p) : SH[p + 1]? = some (0, 7) := by rcases h with rfl | rfl | rfl <;> rfl
theorem fvP0 {p : Nat} {ad : Nat → Nat} {ν : gN} (h : isP p) : g_fv ad (gF ν) p 0 (g_ty 2 0) = .ref (ad (p + 1)) := by rcases h with rfl | rfl | rfl <;> rfl
theorem shP2 {p : Nat} (h : isP p) : SH[p + 2]? = some (0, 7) := by rcases h with rfl | rfl | rfl <;> rfl
theorem fvP1 {p : Nat} {ad : Nat → Nat} {ν : gN} (h : isP p) : g_fv ad (gF ν) p 1 (g_ty 2 1) = .ref (ad (p + 2)) := by rcases h with rfl | rfl | rfl <;> rfl
theorem shP3 {p : Nat} (h : isP p) : SH[p + 3]? = some (0, 7) := by rcases h with rfl | rfl | rfl <;> rfl
theorem fvP2 {p : Nat} {ad : Nat → Nat} {ν : gN} (h : isP p) : g_fv ad (gF ν) p 2 (g_ty 2 2) = .ref (ad (p + 3)) := by rcases h with rfl | rfl | rfl <;> rfl
theorem shP4 {p : Nat} (h : isP p) : SH[p + 4]? = some (0, 7) := by rcases h with rfl | rfl | rfl <;> rfl
theorem fvP3 {p : Nat} {ad : Nat → Nat} {ν : gN} (h : isP p) : g_fv ad (gF ν) p 3 (g_ty 2 3) = .ref (ad (p + 4)) := by rcases h with rfl | rfl | rfl <;> rfl
theorem shP5 {p : Nat} (h : isP p) : SH[p + 5]? = some (0, 7) := by rcases h with rfl | rfl | rfl <;> rfl
theorem fvP4 {p : Nat} {ad : Nat → Nat} {ν : gN} (h : isP p) : g_fv ad (gF ν) p 4 (g_ty 2 4) = .ref (ad (p + 5)) := by rcases h with rfl | rfl | rfl <;> rfl
theorem shP6 {p : Nat} (h : isP p) : SH[p + 6]? = some (0, 7) := by rcases h with rfl | rfl | rfl <;> rfl
theorem fvP5 {p : Nat} {ad : Nat → Nat} {ν : gN} (h : isP p) : g_fv ad (gF ν) p 5 (g_ty 2 5) = .ref (ad (p + 6)) := by rcases h with rfl | rfl | rfl <;> rfl
def inb (x : Int32) (N : Nat) : Bool := decide (¬ x < 0) && decide (x.toNatClampNeg < N)
theorem inb_in {x : Int32} {N : Nat} (h : inb x N = true) : vp_in x N := by
  simp only [inb, Bool.and_eq_true, decide_eq_true_eq] at h
  intro q
  rcases q with q | q
  · exact h.1 q
  · omega
theorem inb_lt {x : Int32} {N : Nat} (h : inb x N = true) : x.toNatClampNeg < N := by
  simp only [inb, Bool.and_eq_true, decide_eq_true_eq] at h
  exact h.2
theorem isS_in {x : Int32} (h : inb x 8 = true) : isS (37 + 2 * x.toNatClampNeg) := ⟨_, inb_lt h, rfl⟩
theorem rho22 {x : Int32} (h : inb x 8 = true) : RHO 22 x.toNatClampNeg = some (37 + 2 * x.toNatClampNeg) := by
  have h2 := inb_lt h
  generalize x.toNatClampNeg = j at h2
  match j, h2 with
  | 0, _ => rfl
  | 1, _ => rfl
  | 2, _ => rfl
  | 3, _ => rfl
  | 4, _ => rfl
  | 5, _ => rfl
  | 6, _ => rfl
  | 7, _ => rfl
def zb (x : Int32) : Bool := x == 0 || x == 1
theorem zb_n {x : Int32} (h : zb x = true) : narrow .boolean (.int x) = .int x := by
  simp only [zb, Bool.or_eq_true, beq_iff_eq] at h
  rcases h with rfl | rfl <;> rfl
theorem zb_f {x : Int32} (h : zb x = true) : fits .boolean (.int x) = true := by
  simp only [zb, Bool.or_eq_true, beq_iff_eq] at h
  rcases h with rfl | rfl <;> rfl
theorem zb_v {x : Int32} (h : zb x = true) : vp_nar .boolean x = x := by
  simp only [zb, Bool.or_eq_true, beq_iff_eq] at h
  rcases h with rfl | rfl <;> rfl
def cpk (sp dp z : Int32) (N N' : Nat) : Bool := decide (¬ sp < 0) && (decide (¬ dp < 0) && (decide (¬ z < 0) && (decide (sp.toNatClampNeg + z.toNatClampNeg ≤ N) && decide (dp.toNatClampNeg + z.toNatClampNeg ≤ N'))))
def j_shl (x y : Int32) : Int32 := x <<< (y &&& 31)
def j_shr (x y : Int32) : Int32 := x >>> (y &&& 31)
def j_ushr (x y : Int32) : Int32 := (x.toUInt32 >>> (y.toUInt32 &&& Int32.toUInt32 31)).toInt32
def j_rem (x y : Int32) : Int32 := x - x / y * y
def j_lshl (x : Int64) (y : Int32) : Int64 := x <<< (y.toInt64 &&& 63)
def j_lushr (x : Int64) (y : Int32) : Int64 := (x.toUInt64 >>> (y.toInt64.toUInt64 &&& Int64.toUInt64 63)).toInt64
def j_i2b (x : Int32) : Int32 := x.toInt8.toInt32
def j_i2s (x : Int32) : Int32 := x.toInt16.toInt32
def j_i2c (x : Int32) : Int32 := (x.toUInt32 % 65536).toInt32
/-- a loop's fuel: more than any loop here turns -/
def FU : Nat := 100000
def qL {α β : Type} (a : α) (f : α → β) : β := f a
theorem q_l {α β : Type} {a : α} {f : α → β} {x : β} (h : qL a f = x) : ∃ y, y = a ∧ f y = x := ⟨a, rfl, h⟩
theorem q_t {α : Type} {c : Prop} {i : Decidable c} {a b x : α} (h : @ite α c i a b = x) (hc : c) : a = x := by rw [if_pos hc] at h; exact h
theorem q_f {α : Type} {c : Prop} {i : Decidable c} {a b x : α} (h : @ite α c i a b = x) (hc : ¬ c) : b = x := by rw [if_neg hc] at h; exact h
theorem q_g {α : Type} {c : Prop} {i : Decidable c} {a : Option α} {x : α} (h : @ite (Option α) c i a none = some x) : c ∧ a = some x := by
  by_cases hc : c
  · rw [if_pos hc] at h; exact ⟨hc, h⟩
  · rw [if_neg hc] at h; cases h
theorem q_b {α β : Type} {o : Option α} {f : α → Option β} {x : β} (h : o.bind f = some x) : ∃ a, o = some a ∧ f a = some x := by
  cases o with
  | none => cases h
  | some a => exact ⟨a, rfl, h⟩
theorem q_n {α : Type} {x : α} {P : Prop} (h : (none : Option α) = some x) : P := by cases h
def g_cl (ci N : Nat) (C : String) (T : u_T) : Prop := vwCl[ci]? = some (C, T, N) ∧ (∀ w ∈ u_ws C T N, w ∈ lw_tbl) ∧ (∀ q, q < N → parseFieldDescriptor (T q).2.2.1 = some (g_ty ci q)) ∧ ∀ a, a < N → ∀ b, b < N → a ≠ b → (T a).2.1 ≠ (T b).2.1
theorem cl0 : g_cl 0 5 RX1 TX1 := ⟨rfl, inX1, tyX1_ok, nmX1⟩
theorem cl1 : g_cl 1 2 RX2 TX2 := ⟨rfl, inX2, tyX2_ok, nmX2⟩
theorem cl2 : g_cl 2 13 RX4 TX4 := ⟨rfl, inX4, tyX4_ok, nmX4⟩
theorem cl3 : g_cl 3 5 RX5 TX5 := ⟨rfl, inX5, tyX5_ok, nmX5⟩
theorem cl4 : g_cl 4 3 RX6 TX6 := ⟨rfl, inX6, tyX6_ok, nmX6⟩
theorem cl5 : g_cl 5 5 RX7 TX7 := ⟨rfl, inX7, tyX7_ok, nmX7⟩
theorem cl6 : g_cl 6 11 RX8 TX8 := ⟨rfl, inX8, tyX8_ok, nmX8⟩
theorem cl7 : g_cl 7 29 RX9 TX9 := ⟨rfl, inX9, tyX9_ok, nmX9⟩
def g_me (y : MethodName) (cy : ByteArray) (nLy : Nat) (rety : Option FieldType) (np : Nat) : Prop := Cond.code y cy nLy rety ∈ lw_tbl ∧ Cond.initialized y.cls ∈ lw_tbl ∧ (y.cls ≠ "java/lang/invoke/MethodHandle" ∧ y.cls ≠ "java/lang/invoke/VarHandle" ∧ (parseMethodDescriptor y.desc).map (fun d => d.parameters.length) = some np) ∧ nLy ≤ 41
def h_Φ (ad : Nat → Nat) (R : Option Value × gN) : Option Value → (Nat → Nat) → gSh → gM → Prop := fun v ad' sh' μ' => v = R.1 ∧ ad' = ad ∧ sh' = SH ∧ μ' = gF R.2
abbrev h_go (X : gX) (ad : Nat → Nat) (own nm : String) (cc : ByteArray) (nL : Nat) (ret : Option FieldType) (d : Nat) (R : Option Value × gN) (pc : Nat) (l : List (Nat × Value)) (st : List Value) (ν : gN) : Prop := g_go X own nm cc nL ret (g_room d 0 0) (g_Z X 0 0 (h_Φ ad R)) pc l st ad SH (gF ν) 0 0
abbrev j_go (X : gX) (ad : Nat → Nat) (own nm : String) (cc : ByteArray) (nL : Nat) (ret : Option FieldType) (R : Room) (Z : List Frame → Array Value → State → State → Prop) (k n : Nat) (pc : Nat) (l : List (Nat × Value)) (st : List Value) (ν : gN) : Prop := g_go X own nm cc nL ret R Z pc l st ad SH (gF ν) k n
abbrev h_ct (X : gX) (ad : Nat → Nat) (y : MethodName) (cy : ByteArray) (nLy : Nat) (rety : Option FieldType) (d : Nat) (av : List Value) (ν : gN) (R : Option Value × gN) : Prop := g_ct X y cy nLy rety d 0 0 av ad SH (gF ν) (h_Φ ad R)
section HGO
variable {X : gX} {own nm : String} {cc : ByteArray} {nL : Nat} {ret : Option FieldType} {d : Nat} {R : Room} {Z : List Frame → Array Value → State → State → Prop} {k n : Nat} {Rv : Option Value × gN} {pc : Nat} {l : List (Nat × Value)} {st : List Value} {ad : Nat → Nat} {ν : gN}
theorem h_ishl {x y : Int32} (hd : decode cc pc = .ok (.ishl, 1)) (kk : j_go X ad own nm cc nL ret R Z k n (pc + 1) l (.int (j_shl x y) :: st) ν) : j_go X ad own nm cc nL ret R Z k n pc l (.int y :: .int x :: st) ν := go_ishl hd kk
theorem h_ishr {x y : Int32} (hd : decode cc pc = .ok (.ishr, 1)) (kk : j_go X ad own nm cc nL ret R Z k n (pc + 1) l (.int (j_shr x y) :: st) ν) : j_go X ad own nm cc nL ret R Z k n pc l (.int y :: .int x :: st) ν := go_ishr hd kk
theorem h_iushr {x y : Int32} (hd : decode cc pc = .ok (.iushr, 1)) (kk : j_go X ad own nm cc nL ret R Z k n (pc + 1) l (.int (j_ushr x y) :: st) ν) : j_go X ad own nm cc nL ret R Z k n pc l (.int y :: .int x :: st) ν := go_iushr hd kk
theorem h_irem {x y : Int32} (hne : ¬ y = 0) (hd : decode cc pc = .ok (.irem, 1)) (kk : j_go X ad own nm cc nL ret R Z k n (pc + 1) l (.int (j_rem x y) :: st) ν) : j_go X ad own nm cc nL ret R Z k n pc l (.int y :: .int x :: st) ν := go_irem hne hd kk
theorem h_lshl {x : Int64} {y : Int32} (hd : decode cc pc = .ok (.lshl, 1)) (kk : j_go X ad own nm cc nL ret R Z k n (pc + 1) l (.long (j_lshl x y) :: st) ν) : j_go X ad own nm cc nL ret R Z k n pc l (.int y :: .long x :: st) ν := go_lshl hd kk
theorem h_lushr {x : Int64} {y : Int32} (hd : decode cc pc = .ok (.lushr, 1)) (kk : j_go X ad own nm cc nL ret R Z k n (pc + 1) l (.long (j_lushr x y) :: st) ν) : j_go X ad own nm cc nL ret R Z k n pc l (.int y :: .long x :: st) ν := go_lushr hd kk
theorem h_i2b {x : Int32} (hd : decode cc pc = .ok (.i2b, 1)) (kk : j_go X ad own nm cc nL ret R Z k n (pc + 1) l (.int (j_i2b x) :: st) ν) : j_go X ad own nm cc nL ret R Z k n pc l (.int x :: st) ν := go_i2b hd kk
theorem h_i2s {x : Int32} (hd : decode cc pc = .ok (.i2s, 1)) (kk : j_go X ad own nm cc nL ret R Z k n (pc + 1) l (.int (j_i2s x) :: st) ν) : j_go X ad own nm cc nL ret R Z k n pc l (.int x :: st) ν := go_i2s hd kk
theorem h_i2c {x : Int32} (hd : decode cc pc = .ok (.i2c, 1)) (kk : j_go X ad own nm cc nL ret R Z k n (pc + 1) l (.int (j_i2c x) :: st) ν) : j_go X ad own nm cc nL ret R Z k n pc l (.int x :: st) ν := go_i2c hd kk
theorem h_geti {ci N idx i : Nat} {C : String} {T : u_T} (f : Nat) (hC : g_cl ci N C T) (hsh : SH[i]? = some (ci + 4, N)) (hf : f < N) (hw : Cond.fieldLink own idx (T f).1 (T f).2.1 (T f).2.2.1 ∈ lw_tbl) (hv : g_fv ad (gF ν) i f (g_ty ci f) = .int (ν.1 i f)) (hd : decode cc pc = .ok (.getfield idx, 3)) (kk : j_go X ad own nm cc nL ret R Z k n (pc + 3) l (.int (ν.1 i f) :: st) ν) : j_go X ad own nm cc nL ret R Z k n pc l (.ref (ad i) :: st) ν := go_get hC.1 hC.2.1 hsh hf hw hv hd kk
theorem h_getl {ci N idx i : Nat} {C : String} {T : u_T} (f : Nat) (hC : g_cl ci N C T) (hsh : SH[i]? = some (ci + 4, N)) (hf : f < N) (hw : Cond.fieldLink own idx (T f).1 (T f).2.1 (T f).2.2.1 ∈ lw_tbl) (hv : g_fv ad (gF ν) i f (g_ty ci f) = .long (ν.2 i f)) (hd : decode cc pc = .ok (.getfield idx, 3)) (kk : j_go X ad own nm cc nL ret R Z k n (pc + 3) l (.long (ν.2 i f) :: st) ν) : j_go X ad own nm cc nL ret R Z k n pc l (.ref (ad i) :: st) ν := go_get hC.1 hC.2.1 hsh hf hw hv hd kk
theorem h_getr {ci N idx i : Nat} {C : String} {T : u_T} (f : Nat) (hC : g_cl ci N C T) (hsh : SH[i]? = some (ci + 4, N)) (hf : f < N) (hw : Cond.fieldLink own idx (T f).1 (T f).2.1 (T f).2.2.1 ∈ lw_tbl) (j : Nat) (hv : g_fv ad (gF ν) i f (g_ty ci f) = .ref (ad j)) (hd : decode cc pc = .ok (.getfield idx, 3)) (kk : j_go X ad own nm cc nL ret R Z k n (pc + 3) l (.ref (ad j) :: st) ν) : j_go X ad own nm cc nL ret R Z k n pc l (.ref (ad i) :: st) ν := go_get hC.1 hC.2.1 hsh hf hw hv hd kk
theorem h_puti {ν' : gN} {x : Int32} {ci N idx i : Nat} {C : String} {T : u_T} (f : Nat) (hC : g_cl ci N C T) (hsh : SH[i]? = some (ci + 4, N)) (hf : f < N) (hw : Cond.fieldLink own idx (T f).1 (T f).2.1 (T f).2.2.1 ∈ lw_tbl) (hfin : (T f).2.2.2 = false) (ht : g_ty ci f = .int) (e : ν' = nWI ν i f x) (hd : decode cc pc = .ok (.putfield idx, 3)) (kk : j_go X ad own nm cc nL ret R Z k n (pc + 3) l (st) ν') : j_go X ad own nm cc nL ret R Z k n pc l (.int x :: .ref (ad i) :: st) ν := by subst e; exact go_puti hC.2.2.1 hC.2.2.2 hC.1 hC.2.1 hsh hf hw hfin ht hd kk
theorem h_putz {ν' : gN} {x : Int32} {ci N idx i : Nat} {C : String} {T : u_T} (f : Nat) (hC : g_cl ci N C T) (hsh : SH[i]? = some (ci + 4, N)) (hf : f < N) (hw : Cond.fieldLink own idx (T f).1 (T f).2.1 (T f).2.2.1 ∈ lw_tbl) (hfin : (T f).2.2.2 = false) (ht : g_ty ci f = .boolean) (hz : zb x = true) (e : ν' = nWI ν i f x) (hd : decode cc pc = .ok (.putfield idx, 3)) (kk : j_go X ad own nm cc nL ret R Z k n (pc + 3) l (st) ν') : j_go X ad own nm cc nL ret R Z k n pc l (.int x :: .ref (ad i) :: st) ν := by subst e; exact go_putz hC.2.2.1 hC.2.2.2 hC.1 hC.2.1 hsh hf hw hfin ht (zb_n hz) (zb_f hz) hd kk
theorem h_putl {ν' : gN} {x : Int64} {ci N idx i : Nat} {C : String} {T : u_T} (f : Nat) (hC : g_cl ci N C T) (hsh : SH[i]? = some (ci + 4, N)) (hf : f < N) (hw : Cond.fieldLink own idx (T f).1 (T f).2.1 (T f).2.2.1 ∈ lw_tbl) (hfin : (T f).2.2.2 = false) (ht : g_ty ci f = .long) (e : ν' = nWL ν i f x) (hd : decode cc pc = .ok (.putfield idx, 3)) (kk : j_go X ad own nm cc nL ret R Z k n (pc + 3) l (st) ν') : j_go X ad own nm cc nL ret R Z k n pc l (.long x :: .ref (ad i) :: st) ν := by subst e; exact go_putl hC.2.2.1 hC.2.2.2 hC.1 hC.2.1 hsh hf hw hfin ht hd kk
theorem h_getiN {ci N idx i : Nat} {C : String} {T : u_T} (f : Nat) (hC : g_cl ci N C T) (hsh : SH[i]? = some (ci + 4, N)) (hf : f < N) (hw : Cond.fieldLinkNest own idx (T f).1 (T f).2.1 (T f).2.2.1 RX8 ∈ lw_tbl) (hv : g_fv ad (gF ν) i f (g_ty ci f) = .int (ν.1 i f)) (hd : decode cc pc = .ok (.getfield idx, 3)) (kk : j_go X ad own nm cc nL ret R Z k n (pc + 3) l (.int (ν.1 i f) :: st) ν) : j_go X ad own nm cc nL ret R Z k n pc l (.ref (ad i) :: st) ν := go_getN hC.1 hC.2.1 hsh hf hw hv hd kk
theorem h_getlN {ci N idx i : Nat} {C : String} {T : u_T} (f : Nat) (hC : g_cl ci N C T) (hsh : SH[i]? = some (ci + 4, N)) (hf : f < N) (hw : Cond.fieldLinkNest own idx (T f).1 (T f).2.1 (T f).2.2.1 RX8 ∈ lw_tbl) (hv : g_fv ad (gF ν) i f (g_ty ci f) = .long (ν.2 i f)) (hd : decode cc pc = .ok (.getfield idx, 3)) (kk : j_go X ad own nm cc nL ret R Z k n (pc + 3) l (.long (ν.2 i f) :: st) ν) : j_go X ad own nm cc nL ret R Z k n pc l (.ref (ad i) :: st) ν := go_getN hC.1 hC.2.1 hsh hf hw hv hd kk
theorem h_getrN {ci N idx i : Nat} {C : String} {T : u_T} (f : Nat) (hC : g_cl ci N C T) (hsh : SH[i]? = some (ci + 4, N)) (hf : f < N) (hw : Cond.fieldLinkNest own idx (T f).1 (T f).2.1 (T f).2.2.1 RX8 ∈ lw_tbl) (j : Nat) (hv : g_fv ad (gF ν) i f (g_ty ci f) = .ref (ad j)) (hd : decode cc pc = .ok (.getfield idx, 3)) (kk : j_go X ad own nm cc nL ret R Z k n (pc + 3) l (.ref (ad j) :: st) ν) : j_go X ad own nm cc nL ret R Z k n pc l (.ref (ad i) :: st) ν := go_getN hC.1 hC.2.1 hsh hf hw hv hd kk
theorem h_putiN {ν' : gN} {x : Int32} {ci N idx i : Nat} {C : String} {T : u_T} (f : Nat) (hC : g_cl ci N C T) (hsh : SH[i]? = some (ci + 4, N)) (hf : f < N) (hw : Cond.fieldLinkNest own idx (T f).1 (T f).2.1 (T f).2.2.1 RX8 ∈ lw_tbl) (hfin : (T f).2.2.2 = false) (ht : g_ty ci f = .int) (e : ν' = nWI ν i f x) (hd : decode cc pc = .ok (.putfield idx, 3)) (kk : j_go X ad own nm cc nL ret R Z k n (pc + 3) l (st) ν') : j_go X ad own nm cc nL ret R Z k n pc l (.int x :: .ref (ad i) :: st) ν := by subst e; exact go_putNi hC.2.2.1 hC.2.2.2 hC.1 hC.2.1 hsh hf hw hfin ht hd kk
theorem h_putzN {ν' : gN} {x : Int32} {ci N idx i : Nat} {C : String} {T : u_T} (f : Nat) (hC : g_cl ci N C T) (hsh : SH[i]? = some (ci + 4, N)) (hf : f < N) (hw : Cond.fieldLinkNest own idx (T f).1 (T f).2.1 (T f).2.2.1 RX8 ∈ lw_tbl) (hfin : (T f).2.2.2 = false) (ht : g_ty ci f = .boolean) (hz : zb x = true) (e : ν' = nWI ν i f x) (hd : decode cc pc = .ok (.putfield idx, 3)) (kk : j_go X ad own nm cc nL ret R Z k n (pc + 3) l (st) ν') : j_go X ad own nm cc nL ret R Z k n pc l (.int x :: .ref (ad i) :: st) ν := by subst e; exact go_putNz hC.2.2.1 hC.2.2.2 hC.1 hC.2.1 hsh hf hw hfin ht (zb_n hz) (zb_f hz) hd kk
theorem h_putlN {ν' : gN} {x : Int64} {ci N idx i : Nat} {C : String} {T : u_T} (f : Nat) (hC : g_cl ci N C T) (hsh : SH[i]? = some (ci + 4, N)) (hf : f < N) (hw : Cond.fieldLinkNest own idx (T f).1 (T f).2.1 (T f).2.2.1 RX8 ∈ lw_tbl) (hfin : (T f).2.2.2 = false) (ht : g_ty ci f = .long) (e : ν' = nWL ν i f x) (hd : decode cc pc = .ok (.putfield idx, 3)) (kk : j_go X ad own nm cc nL ret R Z k n (pc + 3) l (st) ν') : j_go X ad own nm cc nL ret R Z k n pc l (.long x :: .ref (ad i) :: st) ν := by subst e; exact go_putNl hC.2.2.1 hC.2.2.2 hC.1 hC.2.1 hsh hf hw hfin ht hd kk
theorem h_iald {i : Nat} {x : Int32} (N : Nat) (hsh : SH[i]? = some (0, N)) (hin : inb x N = true) (hd : decode cc pc = .ok (.iaload, 1)) (kk : j_go X ad own nm cc nL ret R Z k n (pc + 1) l (.int (ν.1 i x.toNatClampNeg) :: st) ν) : j_go X ad own nm cc nL ret R Z k n pc l (.int x :: .ref (ad i) :: st) ν := go_iald hsh (inb_in hin) hd kk
theorem h_lald {i : Nat} {x : Int32} (N : Nat) (hsh : SH[i]? = some (1, N)) (hin : inb x N = true) (hd : decode cc pc = .ok (.laload, 1)) (kk : j_go X ad own nm cc nL ret R Z k n (pc + 1) l (.long (ν.2 i x.toNatClampNeg) :: st) ν) : j_go X ad own nm cc nL ret R Z k n pc l (.int x :: .ref (ad i) :: st) ν := go_lald hsh (inb_in hin) hd kk
theorem h_zald {i : Nat} {x : Int32} (N : Nat) (hsh : SH[i]? = some (2, N)) (hin : inb x N = true) (hd : decode cc pc = .ok (.baload, 1)) (kk : j_go X ad own nm cc nL ret R Z k n (pc + 1) l (.int (ν.1 i x.toNatClampNeg) :: st) ν) : j_go X ad own nm cc nL ret R Z k n pc l (.int x :: .ref (ad i) :: st) ν := go_zald hsh (inb_in hin) hd kk
theorem h_aald {x : Int32} (hin : inb x 8 = true) (hd : decode cc pc = .ok (.aaload, 1)) (kk : j_go X ad own nm cc nL ret R Z k n (pc + 1) l (.ref (ad (37 + 2 * x.toNatClampNeg)) :: st) ν) : j_go X ad own nm cc nL ret R Z k n pc l (.int x :: .ref (ad 22) :: st) ν := go_aald (N := 8) rfl (inb_in hin) (rho22 hin) hd kk
theorem h_iast {ν' : gN} {i : Nat} {j : Int32} {x : Int32} (N : Nat) (hsh : SH[i]? = some (0, N)) (hin : inb j N = true) (e : ν' = nWI ν i j.toNatClampNeg x) (hd : decode cc pc = .ok (.iastore, 1)) (kk : j_go X ad own nm cc nL ret R Z k n (pc + 1) l (st) ν') : j_go X ad own nm cc nL ret R Z k n pc l (.int x :: .int j :: .ref (ad i) :: st) ν := by subst e; exact go_iast hsh (inb_in hin) hd kk
theorem h_last {ν' : gN} {i : Nat} {j : Int32} {x : Int64} (N : Nat) (hsh : SH[i]? = some (1, N)) (hin : inb j N = true) (e : ν' = nWL ν i j.toNatClampNeg x) (hd : decode cc pc = .ok (.lastore, 1)) (kk : j_go X ad own nm cc nL ret R Z k n (pc + 1) l (st) ν') : j_go X ad own nm cc nL ret R Z k n pc l (.long x :: .int j :: .ref (ad i) :: st) ν := by subst e; exact go_last hsh (inb_in hin) hd kk
theorem h_zast {ν' : gN} {i : Nat} {j x : Int32} (N : Nat) (hsh : SH[i]? = some (2, N)) (hin : inb j N = true) (hz : zb x = true) (e : ν' = nWI ν i j.toNatClampNeg x) (hd : decode cc pc = .ok (.bastore, 1)) (kk : j_go X ad own nm cc nL ret R Z k n (pc + 1) l (st) ν') : j_go X ad own nm cc nL ret R Z k n pc l (.int x :: .int j :: .ref (ad i) :: st) ν := by subst e; exact go_zast hsh (inb_in hin) hd (by rw [zb_v hz]; exact kk)
theorem h_copyi {ν' : gN} {i j idx : Nat} {sp dp z : Int32} (N N' : Nat) (hi : SH[i]? = some (0, N)) (hj : SH[j]? = some (0, N')) (hw : Cond.methodLink own idx ⟨RJ10, "arraycopy", "(Ljava/lang/Object;ILjava/lang/Object;II)V"⟩ ∈ lw_tbl) (hk : cpk sp dp z N N' = true) (hdep : 1 ≤ R.frames ∧ 60 ≤ R.locals) (e : ν' = nCI ν i j sp.toNatClampNeg dp.toNatClampNeg z.toNatClampNeg) (hd : decode cc pc = .ok (.invokestatic idx, 3)) (kk : j_go X ad own nm cc nL ret R Z k n (pc + 3) l [] ν') : j_go X ad own nm cc nL ret R Z k n pc l [.int z, .int dp, .ref (ad j), .int sp, .ref (ad i)] ν := by
  subst e
  simp only [cpk, Bool.and_eq_true, decide_eq_true_eq] at hk
  exact go_copyi hi hj hw hk.1 hk.2.1 hk.2.2.1 hk.2.2.2.1 hk.2.2.2.2 hdep rfl hd kk
theorem h_copyl {ν' : gN} {i j idx : Nat} {sp dp z : Int32} (N N' : Nat) (hi : SH[i]? = some (1, N)) (hj : SH[j]? = some (1, N')) (hw : Cond.methodLink own idx ⟨RJ10, "arraycopy", "(Ljava/lang/Object;ILjava/lang/Object;II)V"⟩ ∈ lw_tbl) (hk : cpk sp dp z N N' = true) (hdep : 1 ≤ R.frames ∧ 60 ≤ R.locals) (e : ν' = nCJ ν i j sp.toNatClampNeg dp.toNatClampNeg z.toNatClampNeg) (hd : decode cc pc = .ok (.invokestatic idx, 3)) (kk : j_go X ad own nm cc nL ret R Z k n (pc + 3) l [] ν') : j_go X ad own nm cc nL ret R Z k n pc l [.int z, .int dp, .ref (ad j), .int sp, .ref (ad i)] ν := by
  subst e
  simp only [cpk, Bool.and_eq_true, decide_eq_true_eq] at hk
  exact go_copyl hi hj hw hk.1 hk.2.1 hk.2.2.1 hk.2.2.2.1 hk.2.2.2.2 hdep rfl hd kk
theorem h_taldA {x : Int32} (hin : inb x 7 = true) (hd : decode cc pc = .ok (.iaload, 1)) (kk : j_go X ad own nm cc nL ret R Z k n (pc + 1) l (.int (g_tA x.toNatClampNeg) :: st) ν) : j_go X ad own nm cc nL ret R Z k n pc l (.int x :: .ref (X.2.2.2.1 0) :: st) ν := go_taldA (inb_in hin) hd kk
theorem h_taldO {x : Int32} (hin : inb x 7 = true) (hd : decode cc pc = .ok (.iaload, 1)) (kk : j_go X ad own nm cc nL ret R Z k n (pc + 1) l (.int (g_tO x.toNatClampNeg) :: st) ν) : j_go X ad own nm cc nL ret R Z k n pc l (.int x :: .ref (X.2.2.2.1 1) :: st) ν := go_taldO (inb_in hin) hd kk
theorem h_taldB {x : Int32} (hin : inb x 21 = true) (hd : decode cc pc = .ok (.iaload, 1)) (kk : j_go X ad own nm cc nL ret R Z k n (pc + 1) l (.int (g_tB x.toNatClampNeg) :: st) ν) : j_go X ad own nm cc nL ret R Z k n pc l (.int x :: .ref (X.2.2.2.1 2) :: st) ν := go_taldB (inb_in hin) hd kk
theorem h_name {x : Int32} {y : Int32} (e : y = x) (kk : j_go X ad own nm cc nL ret R Z k n pc l (.int y :: st) ν) : j_go X ad own nm cc nL ret R Z k n pc l (.int x :: st) ν := by subst e; exact kk
theorem h_nameL {x : Int64} {y : Int64} (e : y = x) (kk : j_go X ad own nm cc nL ret R Z k n pc l (.long y :: st) ν) : j_go X ad own nm cc nL ret R Z k n pc l (.long x :: st) ν := by subst e; exact kk
theorem h_iret {v : Int32} {r : Int32 × gN} {l : List (Nat × Value)} (h : some (v, ν) = some r) (hd : decode cc pc = .ok (.ireturn, 1)) (hr0 : ret = some .int) : h_go X ad own nm cc nL ret d (some (.int r.1), r.2) pc l [.int v] ν := by
  cases h
  exact go_iret hd hr0 ⟨rfl, rfl, rfl, rfl⟩
theorem h_zret {v : Int32} {r : Int32 × gN} {l : List (Nat × Value)} (hz : zb v = true) (h : some (v, ν) = some r) (hd : decode cc pc = .ok (.ireturn, 1)) (hr0 : ret = some .boolean) : h_go X ad own nm cc nL ret d (some (.int r.1), r.2) pc l [.int v] ν := by
  cases h
  exact go_zret hd hr0 (zb_n hz) ⟨rfl, rfl, rfl, rfl⟩
theorem h_lret {v : Int64} {r : Int64 × gN} {l : List (Nat × Value)} (h : some (v, ν) = some r) (hd : decode cc pc = .ok (.lreturn, 1)) (hr0 : ret = some .long) : h_go X ad own nm cc nL ret d (some (.long r.1), r.2) pc l [.long v] ν := by
  cases h
  exact go_lret hd hr0 ⟨rfl, rfl, rfl, rfl⟩
theorem h_vret {r : gN} {l : List (Nat × Value)} (h : some ν = some r) (hd : decode cc pc = .ok (.return_, 1)) (hr0 : ret = none) : h_go X ad own nm cc nL ret d (none, r) pc l [] ν := by
  cases h
  exact go_vret hd hr0 ⟨rfl, rfl, rfl, rfl⟩
theorem h_callSi {y : MethodName} {cy : ByteArray} {nLy idx np d' : Nat} {rety : Option FieldType} {stk : List Value} (As : List Value) {r : Int32 × gN} (hcal : h_ct X ad y cy nLy rety d' (As) ν (some (.int r.1), r.2)) (hme : g_me y cy nLy rety np) (hw : Cond.methodLink own idx y ∈ lw_tbl) (hst : Cond.static y ∈ lw_tbl) (hdd : d' + 1 ≤ R.frames ∧ 60 * d' + 60 ≤ R.locals) (hroom : k ≤ R.cells ∧ n ≤ R.slots) (hnp : As.length = np) (hstk : stk = As.reverse ++ st) (hW : (st.map fun v => v.category).sum ≤ 8) (hd : decode cc pc = .ok (.invokestatic idx, 3)) (kk : j_go X ad own nm cc nL ret R Z k n (pc + 3) l (.int r.1 :: st) r.2) : j_go X ad own nm cc nL ret R Z k n pc l stk ν := by
  subst hstk
  refine go_callS hcal hw hst hme.1 hme.2.1 hme.2.2.1 hme.2.2.2 hdd hnp hW hroom hd (fun v ad' sh' μ' h => ?_)
  obtain ⟨rfl, rfl, rfl, rfl⟩ := h
  exact kk
theorem h_callSl {y : MethodName} {cy : ByteArray} {nLy idx np d' : Nat} {rety : Option FieldType} {stk : List Value} (As : List Value) {r : Int64 × gN} (hcal : h_ct X ad y cy nLy rety d' (As) ν (some (.long r.1), r.2)) (hme : g_me y cy nLy rety np) (hw : Cond.methodLink own idx y ∈ lw_tbl) (hst : Cond.static y ∈ lw_tbl) (hdd : d' + 1 ≤ R.frames ∧ 60 * d' + 60 ≤ R.locals) (hroom : k ≤ R.cells ∧ n ≤ R.slots) (hnp : As.length = np) (hstk : stk = As.reverse ++ st) (hW : (st.map fun v => v.category).sum ≤ 8) (hd : decode cc pc = .ok (.invokestatic idx, 3)) (kk : j_go X ad own nm cc nL ret R Z k n (pc + 3) l (.long r.1 :: st) r.2) : j_go X ad own nm cc nL ret R Z k n pc l stk ν := by
  subst hstk
  refine go_callS hcal hw hst hme.1 hme.2.1 hme.2.2.1 hme.2.2.2 hdd hnp hW hroom hd (fun v ad' sh' μ' h => ?_)
  obtain ⟨rfl, rfl, rfl, rfl⟩ := h
  exact kk
theorem h_callSv {y : MethodName} {cy : ByteArray} {nLy idx np d' : Nat} {rety : Option FieldType} {stk : List Value} (As : List Value) {r : gN} (hcal : h_ct X ad y cy nLy rety d' (As) ν (none, r)) (hme : g_me y cy nLy rety np) (hw : Cond.methodLink own idx y ∈ lw_tbl) (hst : Cond.static y ∈ lw_tbl) (hdd : d' + 1 ≤ R.frames ∧ 60 * d' + 60 ≤ R.locals) (hroom : k ≤ R.cells ∧ n ≤ R.slots) (hnp : As.length = np) (hstk : stk = As.reverse ++ st) (hW : (st.map fun v => v.category).sum ≤ 8) (hd : decode cc pc = .ok (.invokestatic idx, 3)) (kk : j_go X ad own nm cc nL ret R Z k n (pc + 3) l (st) r) : j_go X ad own nm cc nL ret R Z k n pc l stk ν := by
  subst hstk
  refine go_callS hcal hw hst hme.1 hme.2.1 hme.2.2.1 hme.2.2.2 hdd hnp hW hroom hd (fun v ad' sh' μ' h => ?_)
  obtain ⟨rfl, rfl, rfl, rfl⟩ := h
  exact kk
theorem h_callSNi {y : MethodName} {cy : ByteArray} {nLy idx np d' : Nat} {rety : Option FieldType} {stk : List Value} (As : List Value) {r : Int32 × gN} (hcal : h_ct X ad y cy nLy rety d' (As) ν (some (.int r.1), r.2)) (hme : g_me y cy nLy rety np) (hw : Cond.methodLinkNest own idx y RX8 ∈ lw_tbl) (hst : Cond.static y ∈ lw_tbl) (hdd : d' + 1 ≤ R.frames ∧ 60 * d' + 60 ≤ R.locals) (hroom : k ≤ R.cells ∧ n ≤ R.slots) (hnp : As.length = np) (hstk : stk = As.reverse ++ st) (hW : (st.map fun v => v.category).sum ≤ 8) (hd : decode cc pc = .ok (.invokestatic idx, 3)) (kk : j_go X ad own nm cc nL ret R Z k n (pc + 3) l (.int r.1 :: st) r.2) : j_go X ad own nm cc nL ret R Z k n pc l stk ν := by
  subst hstk
  refine go_callSN hcal hw hst hme.1 hme.2.1 hme.2.2.1 hme.2.2.2 hdd hnp hW hroom hd (fun v ad' sh' μ' h => ?_)
  obtain ⟨rfl, rfl, rfl, rfl⟩ := h
  exact kk
theorem h_callVi {y : MethodName} {cy : ByteArray} {nLy idx np d' : Nat} {rety : Option FieldType} {b : Nat} {C : String} {stk : List Value} (As : List Value) {r : Int32 × gN} (hcal : h_ct X ad y cy nLy rety d' (.ref b :: As) ν (some (.int r.1), r.2)) (hme : g_me y cy nLy rety np) (hrecv : ∀ {s : State} {H : Heap} {locs : List Loc}, g_env X s s.heap → va_S (g_A X) s.heap H locs → g_rep X ad SH (gF ν) H → ∃ cell : Cell, H[b]? = some cell ∧ cell.vm.isStatics = false ∧ s.vm.findClass C = some cell.cls) (hw : Cond.methodLink own idx y ∈ lw_tbl) (hst : Cond.instanceMethod y ∈ lw_tbl) (hse : Cond.selects C y y ∈ lw_tbl) (hdd : d' + 1 ≤ R.frames ∧ 60 * d' + 60 ≤ R.locals) (hroom : k ≤ R.cells ∧ n ≤ R.slots) (hnp : As.length = np) (hstk : stk = As.reverse ++ .ref b :: st) (hW : (st.map fun v => v.category).sum ≤ 8) (hd : decode cc pc = .ok (.invokevirtual idx, 3)) (kk : j_go X ad own nm cc nL ret R Z k n (pc + 3) l (.int r.1 :: st) r.2) : j_go X ad own nm cc nL ret R Z k n pc l stk ν := by
  subst hstk
  refine go_callV hrecv hcal hw hst hse hme.1 hme.2.1 hme.2.2.1 hme.2.2.2 hdd hnp hW hroom hd (fun v ad' sh' μ' h => ?_)
  obtain ⟨rfl, rfl, rfl, rfl⟩ := h
  exact kk
theorem h_callVl {y : MethodName} {cy : ByteArray} {nLy idx np d' : Nat} {rety : Option FieldType} {b : Nat} {C : String} {stk : List Value} (As : List Value) {r : Int64 × gN} (hcal : h_ct X ad y cy nLy rety d' (.ref b :: As) ν (some (.long r.1), r.2)) (hme : g_me y cy nLy rety np) (hrecv : ∀ {s : State} {H : Heap} {locs : List Loc}, g_env X s s.heap → va_S (g_A X) s.heap H locs → g_rep X ad SH (gF ν) H → ∃ cell : Cell, H[b]? = some cell ∧ cell.vm.isStatics = false ∧ s.vm.findClass C = some cell.cls) (hw : Cond.methodLink own idx y ∈ lw_tbl) (hst : Cond.instanceMethod y ∈ lw_tbl) (hse : Cond.selects C y y ∈ lw_tbl) (hdd : d' + 1 ≤ R.frames ∧ 60 * d' + 60 ≤ R.locals) (hroom : k ≤ R.cells ∧ n ≤ R.slots) (hnp : As.length = np) (hstk : stk = As.reverse ++ .ref b :: st) (hW : (st.map fun v => v.category).sum ≤ 8) (hd : decode cc pc = .ok (.invokevirtual idx, 3)) (kk : j_go X ad own nm cc nL ret R Z k n (pc + 3) l (.long r.1 :: st) r.2) : j_go X ad own nm cc nL ret R Z k n pc l stk ν := by
  subst hstk
  refine go_callV hrecv hcal hw hst hse hme.1 hme.2.1 hme.2.2.1 hme.2.2.2 hdd hnp hW hroom hd (fun v ad' sh' μ' h => ?_)
  obtain ⟨rfl, rfl, rfl, rfl⟩ := h
  exact kk
theorem h_callVv {y : MethodName} {cy : ByteArray} {nLy idx np d' : Nat} {rety : Option FieldType} {b : Nat} {C : String} {stk : List Value} (As : List Value) {r : gN} (hcal : h_ct X ad y cy nLy rety d' (.ref b :: As) ν (none, r)) (hme : g_me y cy nLy rety np) (hrecv : ∀ {s : State} {H : Heap} {locs : List Loc}, g_env X s s.heap → va_S (g_A X) s.heap H locs → g_rep X ad SH (gF ν) H → ∃ cell : Cell, H[b]? = some cell ∧ cell.vm.isStatics = false ∧ s.vm.findClass C = some cell.cls) (hw : Cond.methodLink own idx y ∈ lw_tbl) (hst : Cond.instanceMethod y ∈ lw_tbl) (hse : Cond.selects C y y ∈ lw_tbl) (hdd : d' + 1 ≤ R.frames ∧ 60 * d' + 60 ≤ R.locals) (hroom : k ≤ R.cells ∧ n ≤ R.slots) (hnp : As.length = np) (hstk : stk = As.reverse ++ .ref b :: st) (hW : (st.map fun v => v.category).sum ≤ 8) (hd : decode cc pc = .ok (.invokevirtual idx, 3)) (kk : j_go X ad own nm cc nL ret R Z k n (pc + 3) l (st) r) : j_go X ad own nm cc nL ret R Z k n pc l stk ν := by
  subst hstk
  refine go_callV hrecv hcal hw hst hse hme.1 hme.2.1 hme.2.2.1 hme.2.2.2 hdd hnp hW hroom hd (fun v ad' sh' μ' h => ?_)
  obtain ⟨rfl, rfl, rfl, rfl⟩ := h
  exact kk
theorem h_ct_of {y : MethodName} {cy : ByteArray} {nLy : Nat} {rety : Option FieldType} {av : List Value} {l : List (Nat × Value)} (hp : plainName y.cls = true) (hn : (lg_sl av).length ≤ nLy) (hl : lv_args 0 av = l) (h : h_go X ad y.cls y.name cy nLy rety d Rv 0 l [] ν) : h_ct X ad y cy nLy rety d av ν Rv := g_ct_of hp hn hl h
theorem h_lkT {dflt : Int} {ps : Array (Int × Int)} {len : Nat} {x kx : Int32} {off : Int} {tgt : Nat} (hx : x = kx) (hd : decode cc pc = .ok (.lookupswitch dflt ps, len)) (hp : (ps.toList.zip (ps.toList.drop 1)).all (fun (a, next) => a.1 < next.1) = true) (ho : Op.lookupswitch.offset ps.toList dflt kx.toInt = off) (ht : (pc : Int) + off = (tgt : Int)) (kk : j_go X ad own nm cc nL ret R Z k n tgt l st ν) : j_go X ad own nm cc nL ret R Z k n pc l (.int x :: st) ν := by subst hx; exact go_lookup hd hp ho ht kk
theorem h_tbT {dflt lo hi : Int} {offs : Array Int} {len : Nat} {x kx : Int32} {off : Int} {tgt : Nat} (hx : x = kx) (hd : decode cc pc = .ok (.tableswitch dflt lo hi offs, len)) (h1 : ¬ kx.toInt < lo) (h2 : ¬ hi < kx.toInt) (ho : offs[(kx.toInt - lo).toNat]? = some off) (ht : (pc : Int) + off = (tgt : Int)) (kk : j_go X ad own nm cc nL ret R Z k n tgt l st ν) : j_go X ad own nm cc nL ret R Z k n pc l (.int x :: st) ν := by subst hx; exact go_tableIn hd h1 h2 ho ht kk
theorem h_nT {x kx : Int32} {a : Int} (h : ¬ x = kx) (hk : kx.toInt = a) : ¬ x.toInt = a := fun q => h (Int32.toInt_inj.mp (by rw [hk]; exact q))
end HGO
