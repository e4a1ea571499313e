/-! THE STEP JUDGEMENT: a frame of a method over a memory told by cells (cell, place): ints, longs, references; every later proof walks in these words. -/
abbrev gM : Type := (Nat → Nat → Int32) × (Nat → Nat → Int64) × (Nat → Nat → Option Nat)
abbrev gSh : Type := List (Nat × Nat)
abbrev gX : Type := Nat × va_G × (Nat → ClassId) × (Nat → Nat) × Option Nat × (Nat × Nat × (Nat → Int32))
def g_tA (j : Nat) : Int32 := ([-1, 0, 0, 1, 0, 2, 3] : List Int32).getD j 0
def g_tO (j : Nat) : Int32 := ([1, 1, 2, 6, 24, 120, 720] : List Int32).getD j 0
def g_tB (j : Nat) : Int32 := ([10, 11, 12, 20, 0, 0, 0, 30, 0, 40, 0, 0, 51, 0, 50, 0, 0, 60, 70, 71, 0] : List Int32).getD j 0
def g_byt : List (List Int32) := [[102, 101, 110, 99, 101], [111, 112, 101, 110], [112, 101, 114, 115, 111, 110], [115, 101, 97, 116, 115], [115, 99, 101, 110, 116], [99, 101, 110, 116], [101, 97, 116, 115]]
def g_len : List Nat := [5, 4, 6, 5, 5, 4, 4]
def g_tys (X : gX) : List (ClassId × FieldType) := [(X.2.2.1 0, .int), (X.2.2.1 1, .long), (X.2.2.1 2, .boolean), (X.2.2.1 3, .object "SeatsToTheReluctant$Shelf")]
def g_A (X : gX) : Nat → Prop := fun q => X.1 ≤ q
def g_ext (X : gX) (U : State) (H : Heap) : Prop :=
  (va_Z RX3 "ABOVE" "[I" (.ref (X.2.2.2.1 0)) (g_A X) U H ∧ va_T .int (X.2.2.2.1 0) 7 (fun j => .int (g_tA j)) (g_A X) U H) ∧
  (va_Z RX0 "ORDERS" "[I" (.ref (X.2.2.2.1 1)) (g_A X) U H ∧ va_T .int (X.2.2.2.1 1) 7 (fun j => .int (g_tO j)) (g_A X) U H) ∧
  (va_Z RX1 "BODIES" "[I" (.ref (X.2.2.2.1 2)) (g_A X) U H ∧ va_T .int (X.2.2.2.1 2) 21 (fun j => .int (g_tB j)) (g_A X) U H) ∧
  va_Z RJ0 "COMPACT_STRINGS" "Z" (.int 1) (g_A X) U H ∧
  va_Z RJ3 "SIOOBE_FORMATTER" "Ljava/util/function/BiFunction;" (va_rf X.2.2.2.2.1) (g_A X) U H ∧
  vk_S 7 g_len g_byt (fun i => X.2.2.2.1 (10 + i)) (fun i => X.2.2.2.1 (20 + i)) (g_A X) U H
def lw_g : List Cond := lw_tbl.filter goodWord
theorem g_in {w : Cond} (h : w ∈ lw_tbl) (hg : goodWord w = true) : w ∈ lw_g := List.mem_filter.mpr ⟨h, hg⟩
theorem g_inU {C : String} {T : u_T} {N : Nat} (h : ∀ w ∈ u_ws C T N, w ∈ lw_tbl) : ∀ w ∈ u_ws C T N, w ∈ lw_g := by
  intro w hw
  refine g_in (h w hw) ?_
  obtain ⟨k, -, rfl⟩ := List.mem_map.mp hw
  unfold u_lay
  split <;> rfl
def g_nest : Cond → Bool
  | .fieldLinkNest .. => true
  | .methodLinkNest .. => true
  | _ => false
def g_nst (U : State) : Prop := (∀ w ∈ lw_tbl, g_nest w = true → va_Nw w U) ∧ va_AO RX6 U
theorem g_nst_warm {s U : State} (hW : s.WarmedH U.vm) (h : g_nst s) : g_nst U := by
  refine ⟨fun w hw hn => ?_, va_AO.moved hW.alike h.2⟩
  have h1 := h.1 w hw hn
  cases w <;> first | exact va_Nw.warmF hW h1 | exact va_Nw.warmM hW h1 | (simp [g_nest] at hn)
theorem g_nst_same {u U : State} (hv : U.vm = u.vm) (h : g_nst u) : g_nst U := by
  have hva : u.vm.Alike U.vm := by rw [hv]; exact Vm.Alike.refl _
  refine ⟨fun w hw hn => ?_, va_AO.moved hva h.2⟩
  have h1 := h.1 w hw hn
  cases w <;> first | exact va_Nw.same rfl hv.symm h1 | (simp [g_nest] at hn)
def g_str (X : gX) (U : State) : Prop :=
  vk_R RX5 106 "fence" (X.2.2.2.1 10) U ∧ vk_R RX5 108 "open" (X.2.2.2.1 11) U ∧ vk_R RX5 110 "person" (X.2.2.2.1 12) U ∧ vk_R RX5 112 "seats" (X.2.2.2.1 13) U ∧ vk_R RX5 113 "scent" (X.2.2.2.1 14) U ∧
  vk_R RX9 167 "fence" (X.2.2.2.1 10) U ∧ vk_R RX9 176 "open" (X.2.2.2.1 11) U ∧ vk_R RX9 178 "person" (X.2.2.2.1 12) U ∧ vk_R RX9 183 "cent" (X.2.2.2.1 15) U ∧ vk_R RX9 185 "eats" (X.2.2.2.1 16) U
def g_env (X : gX) (U : State) (H : Heap) : Prop := X.1 ≤ H.size ∧ va_K X.2.1 vwCl (g_tys X) U ∧ g_ext X U H ∧ g_str X U ∧ g_nst U ∧ (va_X X.2.2.2.2.2.1 X.2.2.2.2.2.2.1 X.2.2.2.2.2.2.2 U H ∧ X.2.2.2.2.2.1 < X.1)
theorem g_ext_kept {X : gX} {U : State} {H H1 : Heap} (h : g_ext X U H) (hq : ∀ a : Nat, a < H.size → ¬ g_A X a → H1[a]? = H[a]?) : g_ext X U H1 := by
  obtain ⟨⟨a1, a2⟩, ⟨b1, b2⟩, ⟨c1, c2⟩, d1, e1, f1⟩ := h
  exact ⟨⟨a1.kept hq, a2.kept hq⟩, ⟨b1.kept hq, b2.kept hq⟩, ⟨c1.kept hq, c2.kept hq⟩, d1.kept hq, e1.kept hq, f1.kept hq⟩
theorem g_ext_moved {X : gX} {u U : State} {H : Heap} (hvm : u.vm.Alike U.vm) (h : g_ext X u H) : g_ext X U H := by
  obtain ⟨⟨a1, a2⟩, ⟨b1, b2⟩, ⟨c1, c2⟩, d1, e1, f1⟩ := h
  exact ⟨⟨va_Z.moved hvm a1, va_T.moved hvm a2⟩, ⟨va_Z.moved hvm b1, va_T.moved hvm b2⟩, ⟨va_Z.moved hvm c1, va_T.moved hvm c2⟩, va_Z.moved hvm d1, va_Z.moved hvm e1, vk_S.moved hvm f1⟩
theorem g_str_warm {X : gX} {s U : State} (hW : s.WarmedH U.vm) (h : g_str X s) : g_str X U := by
  obtain ⟨a, b, c, d, e, f, g, h, i, j⟩ := h
  exact ⟨a.warm hW, b.warm hW, c.warm hW, d.warm hW, e.warm hW, f.warm hW, g.warm hW, h.warm hW, i.warm hW, j.warm hW⟩
theorem g_str_same {X : gX} {u U : State} (hv : U.vm = u.vm) (h : g_str X u) : g_str X U := by
  obtain ⟨a, b, c, d, e, f, g, h, i, j⟩ := h
  exact ⟨a.same hv, b.same hv, c.same hv, d.same hv, e.same hv, f.same hv, g.same hv, h.same hv, i.same hv, j.same hv⟩
theorem g_env_go {X : gX} {s U : State} {H : Heap} {locs : List Loc} (h : g_env X s s.heap) (hS : va_S (g_A X) s.heap H locs) (hU : U.heap = H) (hW : s.WarmedH U.vm) : g_env X U U.heap := by
  obtain ⟨h1, h2, h3, h4, h5, h6, h7⟩ := h
  rw [hU]
  exact ⟨Nat.le_trans h1 hS.1, va_K.moved hW.alike h2, g_ext_moved hW.alike (g_ext_kept h3 hS.2.1), g_str_warm hW h4, g_nst_warm hW h5, va_X.moved hW.alike (h6.kept (hS.2.1 _ (Nat.lt_of_lt_of_le h7 h1) (Nat.not_le.mpr h7))), h7⟩
theorem g_env_same {X : gX} {u U : State} (hv : U.vm = u.vm) (hh : U.heap = u.heap) (h : g_env X u u.heap) : g_env X U U.heap := by
  obtain ⟨h1, h2, h3, h4, h5, h6, h7⟩ := h
  rw [hh]
  have hva : u.vm.Alike U.vm := by rw [hv]; exact Vm.Alike.refl _
  exact ⟨h1, va_K.moved hva h2, g_ext_moved hva h3, g_str_same hv h4, g_nst_same hv h5, va_X.moved hva h6, h7⟩
/-! the memory -/
def g_ty (ci : Nat) : Nat → FieldType := match ci with
  | 0 => tyX1
  | 1 => tyX2
  | 2 => tyX4
  | 3 => tyX5
  | 4 => tyX6
  | 5 => tyX7
  | 6 => tyX8
  | _ => tyX9
def g_fv (ad : Nat → Nat) (μ : gM) (i k : Nat) (t : FieldType) : Value := match t with
  | .long => .long (μ.2.1 i k)
  | .object _ => va_rf ((μ.2.2 i k).map ad)
  | .array _ => va_rf ((μ.2.2 i k).map ad)
  | _ => .int (μ.1 i k)
def g_ent (X : gX) (ad : Nat → Nat) (μ : gM) (i : Nat) (c : Nat × Nat) : va_E := match c.1 with
  | 0 => .inl (X.2.2.1 0, c.2, .inl (μ.1 i))
  | 1 => .inl (X.2.2.1 1, c.2, .inr (.inl (μ.2.1 i)))
  | 2 => .inl (X.2.2.1 2, c.2, .inl (μ.1 i))
  | 3 => .inl (X.2.2.1 3, c.2, .inr (.inr (.inr (.inr (fun j => (μ.2.2 i j).map ad)))))
  | ci + 4 => .inr (ci, (List.range c.2).map (fun k => g_fv ad μ i k (g_ty ci k)))
def g_wl (X : gX) (ad : Nat → Nat) (sh : gSh) (μ : gM) : va_W := (List.range sh.length).map (fun i => (ad i, g_ent X ad μ i (sh.getD i (0, 0))))
def g_rep (X : gX) (ad : Nat → Nat) (sh : gSh) (μ : gM) (H : Heap) : Prop := va_P X.2.1 vwCl (g_wl X ad sh μ) H ∧ va_D (g_A X) (g_wl X ad sh μ)
def gWI (μ : gM) (i k : Nat) (x : Int32) : gM := (fun a b => if a = i ∧ b = k then x else μ.1 a b, μ.2)
def gWL (μ : gM) (i k : Nat) (x : Int64) : gM := (μ.1, fun a b => if a = i ∧ b = k then x else μ.2.1 a b, μ.2.2)
def gWR (μ : gM) (i k : Nat) (x : Option Nat) : gM := (μ.1, μ.2.1, fun a b => if a = i ∧ b = k then x else μ.2.2 a b)
def gCL (μ : gM) (i : Nat) : gM := (fun a b => if a = i then 0 else μ.1 a b, fun a b => if a = i then 0 else μ.2.1 a b, fun a b => if a = i then none else μ.2.2 a b)
def gCI (μ : gM) (i j sp dp n : Nat) : gM := (fun a b => if a = j ∧ (dp ≤ b ∧ b < dp + n) then μ.1 i (sp + (b - dp)) else μ.1 a b, μ.2)
def gCJ (μ : gM) (i j sp dp n : Nat) : gM := (μ.1, fun a b => if a = j ∧ (dp ≤ b ∧ b < dp + n) then μ.2.1 i (sp + (b - dp)) else μ.2.1 a b, μ.2.2)
theorem g_wl_len {X : gX} {ad : Nat → Nat} {sh : gSh} {μ : gM} : (g_wl X ad sh μ).length = sh.length := by simp [g_wl]
theorem g_wl_at {X : gX} {ad : Nat → Nat} {sh : gSh} {μ : gM} {i : Nat} {c : Nat × Nat} (h : sh[i]? = some c) : (g_wl X ad sh μ)[i]? = some (ad i, g_ent X ad μ i c) := by
  have hl : i < sh.length := (List.getElem?_eq_some_iff.mp h).1
  have e : sh.getD i (0, 0) = c := by rw [List.getD_eq_getElem?_getD, h]; rfl
  rw [g_wl, List.getElem?_map, List.getElem?_range hl]
  show some (ad i, g_ent X ad μ i (sh.getD i (0, 0))) = _
  rw [e]
theorem g_wl_set {X : gX} {ad : Nat → Nat} {sh : gSh} {μ μ' : gM} {i : Nat} {c : Nat × Nat} {x : va_E} (h : sh[i]? = some c) (hi : g_ent X ad μ' i c = x) (ho : ∀ (j : Nat) (c' : Nat × Nat), j ≠ i → g_ent X ad μ' j c' = g_ent X ad μ j c') : (g_wl X ad sh μ).set i (ad i, x) = g_wl X ad sh μ' := by
  subst hi
  have hl : i < sh.length := (List.getElem?_eq_some_iff.mp h).1
  apply List.ext_getElem?
  intro j
  by_cases hj : j = i
  · subst hj
    rw [List.getElem?_set_self (by rw [g_wl_len]; exact hl), g_wl_at h]
  · rw [List.getElem?_set_ne (fun q => hj q.symm)]
    by_cases hs : j < sh.length
    · obtain ⟨c', hc'⟩ : ∃ c', sh[j]? = some c' := ⟨sh[j], List.getElem?_eq_getElem hs⟩
      rw [g_wl_at hc', g_wl_at hc', ho j c' hj]
    · rw [List.getElem?_eq_none (by rw [g_wl_len]; omega), List.getElem?_eq_none (by rw [g_wl_len]; omega)]
theorem g_wl_push {X : gX} {ad ad' : Nat → Nat} {sh : gSh} {μ μ' : gM} {q : Nat} {c : Nat × Nat} {x : va_E} (hq : ad' sh.length = q) (hx : g_ent X ad' μ' sh.length c = x) (ha : ∀ j, j < sh.length → ad' j = ad j) (ho : ∀ (j : Nat) (c' : Nat × Nat), sh[j]? = some c' → g_ent X ad' μ' j c' = g_ent X ad μ j c') : g_wl X ad sh μ ++ [(q, x)] = g_wl X ad' (sh ++ [c]) μ' := by
  subst hq; subst hx
  apply List.ext_getElem?
  intro j
  by_cases hs : j < sh.length
  · obtain ⟨c', hc'⟩ : ∃ c', sh[j]? = some c' := ⟨sh[j], List.getElem?_eq_getElem hs⟩
    rw [List.getElem?_append_left (by rw [g_wl_len]; exact hs), g_wl_at hc', g_wl_at (by rw [List.getElem?_append_left hs]; exact hc'), ho j c' hc', ha j hs]
  · by_cases h2 : j = sh.length
    · subst h2
      rw [List.getElem?_append_right (by rw [g_wl_len]; exact Nat.le_refl _), g_wl_len, Nat.sub_self, g_wl_at (c := c) (by rw [List.getElem?_append_right (Nat.le_refl _), Nat.sub_self]; rfl)]
      rfl
    · rw [List.getElem?_eq_none (by rw [List.length_append, g_wl_len]; show sh.length + 1 ≤ j; omega), List.getElem?_eq_none (by rw [g_wl_len, List.length_append]; show sh.length + 1 ≤ j; omega)]
theorem g_ent_ne {X : gX} {ad : Nat → Nat} {μ μ' : gM} {j : Nat} (h1 : ∀ b, μ'.1 j b = μ.1 j b) (h2 : ∀ b, μ'.2.1 j b = μ.2.1 j b) (h3 : ∀ b, μ'.2.2 j b = μ.2.2 j b) (c : Nat × Nat) : g_ent X ad μ' j c = g_ent X ad μ j c := by
  have e1 : μ'.1 j = μ.1 j := funext h1
  have e2 : μ'.2.1 j = μ.2.1 j := funext h2
  have e3 : μ'.2.2 j = μ.2.2 j := funext h3
  obtain ⟨c1, c2⟩ := c
  have hf : ∀ (k : Nat) (t : FieldType), g_fv ad μ' j k t = g_fv ad μ j k t := by
    intro k t
    cases t <;> simp only [g_fv, e1, e2, e3]
  unfold g_ent
  split <;> simp only [e1, e2, e3, hf]
def g_room (d mc ms : Nat) : Room := { frames := d, cells := mc, slots := ms, locals := 60 * d }
def g_Q (X : gX) (Φ : Option Value → (Nat → Nat) → gSh → gM → Prop) : Array Value → State → Outcome → State → Prop := fun _ st o t =>
  ∃ (v : Option Value) (ad : Nat → Nat) (sh : gSh) (μ : gM), o = .returned v ∧ Φ v ad sh μ ∧ g_rep X ad sh μ t.heap ∧ va_F (g_A X) st t
def g_go (X : gX) (own nm : String) (cc : ByteArray) (nL : Nat) (ret : Option FieldType) (R : Room) (Z : List Frame → Array Value → State → State → Prop) (pc : Nat) (l : List (Nat × Value)) (st : List Value) (ad : Nat → Nat) (sh : gSh) (μ : gM) (k n : Nat) : Prop :=
  ∀ (p : Program) (la : Launch) (e : Env) (s : State) (m : MethodId) (args : Array Value) (below : List Frame) (meth : Method) (c : Code) (H : Heap) (locs : List Loc) (ls : Array Slot),
    p.tables.exec = Jvm.exec → c.code = cc → c.maxLocals = nL → s.vm.findClass own = some m.cls → (∀ w ∈ lw_g, w.before args s = true) → meth.sig.returnType = ret → meth.locks = false → meth.name = nm →
    g_env X s s.heap → va_S (g_A X) s.heap H locs → g_rep X ad sh μ H → lv_has ls nL l →
    W p la e R s m args below meth c H locs k n (Z below args s) (F0 m pc ls st)
def g_Z (X : gX) (mc ms : Nat) (Φ : Option Value → (Nat → Nat) → gSh → gM → Prop) : List Frame → Array Value → State → State → Prop := fun below args s => MQ below (g_Q X Φ) args s mc ms (g_A X)
def g_ct (X : gX) (y : MethodName) (cc : ByteArray) (nL : Nat) (ret : Option FieldType) (d mc ms : Nat) (av : List Value) (ad : Nat → Nat) (sh : gSh) (μ : gM) (Φ : Option Value → (Nat → Nat) → gSh → gM → Prop) : Prop :=
  ∀ la : Launch, Met la y (.code y cc nL ret :: lw_g) (g_room d mc ms) (va_Pc av (fun U => g_rep X ad sh μ U.heap ∧ g_env X U U.heap)) (g_Q X Φ) mc ms (g_A X)
theorem g_ct_of {X : gX} {y : MethodName} {cc : ByteArray} {nL : Nat} {ret : Option FieldType} {d mc ms : Nat} {av : List Value} {ad : Nat → Nat} {sh : gSh} {μ : gM} {Φ : Option Value → (Nat → Nat) → gSh → gM → Prop} {l : List (Nat × Value)} (hp : plainName y.cls = true) (hn : (lg_sl av).length ≤ nL) (hl : lv_args 0 av = l) (h : g_go X y.cls y.name cc nL ret (g_room d mc ms) (g_Z X mc ms Φ) 0 l [] ad sh μ 0 0) : g_ct X y cc nL ret d mc ms av ad sh μ Φ := by
  intro la
  refine Met.ofW (cc := cc) (maxL := nL) (ret := ret) hp rfl ?_
  intro p e s m args below meth c s₁ B hml hv
  obtain ⟨rfl, hR, hE⟩ := hv
  have hts := atoms_spec (ws := .code y cc nL ret :: lw_g) B.pre
  have hlv := lv_entry av (n := nL) hn
  rw [lg_entry_eq]
  generalize (lg_sl av ++ List.replicate (nL - (lg_sl av).length) Slot.unset).toArray = ls at hlv ⊢
  rw [hl] at hlv
  exact h p la e s m av.toArray below meth c s.heap [] ls B.exec B.bytes hml (findClass_of_methodNamed B.named) (fun w hw => hts w (List.mem_cons_of_mem _ hw)) B.returns B.notSynchronized (name_of_methodNamed B.named B.method).1 hE va_S.rf hR hlv
theorem g_ct_mono {X : gX} {y : MethodName} {cc : ByteArray} {nL : Nat} {ret : Option FieldType} {d mc ms : Nat} {av : List Value} {ad : Nat → Nat} {sh : gSh} {μ : gM} {Φ Ψ : Option Value → (Nat → Nat) → gSh → gM → Prop} (h : g_ct X y cc nL ret d mc ms av ad sh μ Φ) (hi : ∀ v ad' sh' μ', Φ v ad' sh' μ' → Ψ v ad' sh' μ') : g_ct X y cc nL ret d mc ms av ad sh μ Ψ := by
  intro la p e ha hc hk s m args below hf happ hP hK
  obtain ⟨t, o, h1, h2, h3, ⟨v, ad', sh', μ', hv, hΦ, hR, hF⟩, hL⟩ := h la p e ha hc hk s m args below hf happ hP hK
  exact ⟨t, o, h1, h2, h3, ⟨v, ad', sh', μ', hv, hi _ _ _ _ hΦ, hR, hF⟩, hL⟩
theorem g_goodIn {y : MethodName} {cc : ByteArray} {nL : Nat} {ret : Option FieldType} (h : Cond.code y cc nL ret ∈ lw_tbl) : GoodIn lw_g (Cond.code y cc nL ret :: lw_g) := by
  intro w hw
  rcases List.mem_cons.mp hw with rfl | hw
  · exact ⟨g_in h rfl, good_of_word rfl⟩
  · exact ⟨hw, good_of_word (List.mem_filter.mp hw).2⟩
section GO
variable {X : gX} {own nm : String} {cc : ByteArray} {nL : Nat} {ret : Option FieldType} {R : Room} {Z : List Frame → Array Value → State → State → Prop} {pc : Nat} {l : List (Nat × Value)} {st : List Value} {ad : Nat → Nat} {sh : gSh} {μ : gM} {k n : Nat}
theorem go_sub {l' : List (Nat × Value)} (ks : List Nat) (hl : lv_pick l ks = l') (kk : g_go X own nm cc nL ret R Z pc l' st ad sh μ k n) : g_go X own nm cc nL ret R Z pc l st ad sh μ k n := by
  intro p la e s m args below meth c H locs ls hx hb hml hown hts hr hlk hnm hE hS hR hlv
  exact kk _ _ _ _ _ _ _ _ _ _ _ _ hx hb hml hown hts hr hlk hnm hE hS hR (lv_sub hlv ks hl)
theorem go_mono {Z' : List Frame → Array Value → State → State → Prop} (h : g_go X own nm cc nL ret R Z' pc l st ad sh μ k n) (hi : ∀ below args s t, Z' below args s t → Z below args s t) : g_go X own nm cc nL ret R Z pc l st ad sh μ k n := by
  intro p la e s m args below meth c H locs ls hx hb hml hown hts hr hlk hnm hE hS hR hlv T hT Y
  obtain ⟨t, a, b⟩ := h _ _ _ _ _ _ _ _ _ _ _ _ hx hb hml hown hts hr hlk hnm hE hS hR hlv T hT Y
  exact ⟨t, a, hi _ _ _ _ b⟩
theorem go_mem {μ' : gM} (he : g_wl X ad sh μ = g_wl X ad sh μ') (kk : g_go X own nm cc nL ret R Z pc l st ad sh μ' k n) : g_go X own nm cc nL ret R Z pc l st ad sh μ k n := by
  intro p la e s m args below meth c H locs ls hx hb hml hown hts hr hlk hnm hE hS hR hlv
  exact kk _ _ _ _ _ _ _ _ _ _ _ _ hx hb hml hown hts hr hlk hnm hE hS (by unfold g_rep at hR ⊢; rw [← he]; exact hR) hlv
theorem go_iconst {z : Int} {v : Int32} (hv : Int32.ofInt z = v) (hd : decode cc pc = .ok (.iconst z, 1)) (kk : g_go X own nm cc nL ret R Z (pc + 1) l (.int v :: st) ad sh μ k n) : g_go X own nm cc nL ret R Z pc l (st) ad sh μ k n := by
  intro p la e s m args below meth c H locs ls hx hb hml hown hts hr hlk hnm hE hS hR hlv
  exact lv_iconst hx hb hd hv (kk _ _ _ _ _ _ _ _ _ _ _ _ hx hb hml hown hts hr hlk hnm hE hS hR hlv)
theorem go_bipush {z : Int} {v : Int32} (hv : (Int8.ofInt z).toInt32 = v) (hd : decode cc pc = .ok (.bipush z, 2)) (kk : g_go X own nm cc nL ret R Z (pc + 2) l (.int v :: st) ad sh μ k n) : g_go X own nm cc nL ret R Z pc l (st) ad sh μ k n := by
  intro p la e s m args below meth c H locs ls hx hb hml hown hts hr hlk hnm hE hS hR hlv
  exact lv_bipush hx hb hd hv (kk _ _ _ _ _ _ _ _ _ _ _ _ hx hb hml hown hts hr hlk hnm hE hS hR hlv)
theorem go_sipush {z : Int} {v : Int32} (hv : (Int16.ofInt z).toInt32 = v) (hd : decode cc pc = .ok (.sipush z, 3)) (kk : g_go X own nm cc nL ret R Z (pc + 3) l (.int v :: st) ad sh μ k n) : g_go X own nm cc nL ret R Z pc l (st) ad sh μ k n := by
  intro p la e s m args below meth c H locs ls hx hb hml hown hts hr hlk hnm hE hS hR hlv
  exact lv_sipush hx hb hd hv (kk _ _ _ _ _ _ _ _ _ _ _ _ hx hb hml hown hts hr hlk hnm hE hS hR hlv)
theorem go_lconst {z : Fin 2} {v : Int64} (hv : Int64.ofNat (z : Nat) = v) (hd : decode cc pc = .ok (.lconst z, 1)) (kk : g_go X own nm cc nL ret R Z (pc + 1) l (.long v :: st) ad sh μ k n) : g_go X own nm cc nL ret R Z pc l (st) ad sh μ k n := by
  intro p la e s m args below meth c H locs ls hx hb hml hown hts hr hlk hnm hE hS hR hlv
  exact lv_lconst hx hb hd hv (kk _ _ _ _ _ _ _ _ _ _ _ _ hx hb hml hown hts hr hlk hnm hE hS hR hlv)
theorem go_iload_n {z : Fin 4} {i : Nat} {x : Int32} (hi : (z : Nat) = i) (j : Nat) (hj : l[j]? = some (i, .int x)) (hd : decode cc pc = .ok (.iload_n z, 1)) (kk : g_go X own nm cc nL ret R Z (pc + 1) l (.int x :: st) ad sh μ k n) : g_go X own nm cc nL ret R Z pc l (st) ad sh μ k n := by
  intro p la e s m args below meth c H locs ls hx hb hml hown hts hr hlk hnm hE hS hR hlv
  exact lv_iload_n hx hb hd hi (lv_at hlv j hj) (kk _ _ _ _ _ _ _ _ _ _ _ _ hx hb hml hown hts hr hlk hnm hE hS hR hlv)
theorem go_iload {i : Nat} {x : Int32} (j : Nat) (hj : l[j]? = some (i, .int x)) (hd : decode cc pc = .ok (.iload i, 2)) (kk : g_go X own nm cc nL ret R Z (pc + 2) l (.int x :: st) ad sh μ k n) : g_go X own nm cc nL ret R Z pc l (st) ad sh μ k n := by
  intro p la e s m args below meth c H locs ls hx hb hml hown hts hr hlk hnm hE hS hR hlv
  exact lv_iload hx hb hd (lv_at hlv j hj) (kk _ _ _ _ _ _ _ _ _ _ _ _ hx hb hml hown hts hr hlk hnm hE hS hR hlv)
theorem go_lload_n {z : Fin 4} {i : Nat} {x : Int64} (hi : (z : Nat) = i) (j : Nat) (hj : l[j]? = some (i, .long x)) (hd : decode cc pc = .ok (.lload_n z, 1)) (kk : g_go X own nm cc nL ret R Z (pc + 1) l (.long x :: st) ad sh μ k n) : g_go X own nm cc nL ret R Z pc l (st) ad sh μ k n := by
  intro p la e s m args below meth c H locs ls hx hb hml hown hts hr hlk hnm hE hS hR hlv
  exact lv_lload_n hx hb hd hi (lv_at hlv j hj) (kk _ _ _ _ _ _ _ _ _ _ _ _ hx hb hml hown hts hr hlk hnm hE hS hR hlv)
theorem go_lload {i : Nat} {x : Int64} (j : Nat) (hj : l[j]? = some (i, .long x)) (hd : decode cc pc = .ok (.lload i, 2)) (kk : g_go X own nm cc nL ret R Z (pc + 2) l (.long x :: st) ad sh μ k n) : g_go X own nm cc nL ret R Z pc l (st) ad sh μ k n := by
  intro p la e s m args below meth c H locs ls hx hb hml hown hts hr hlk hnm hE hS hR hlv
  exact lv_lload hx hb hd (lv_at hlv j hj) (kk _ _ _ _ _ _ _ _ _ _ _ _ hx hb hml hown hts hr hlk hnm hE hS hR hlv)
theorem go_aload_n {z : Fin 4} {i : Nat} {x : Nat} (hi : (z : Nat) = i) (j : Nat) (hj : l[j]? = some (i, .ref x)) (hd : decode cc pc = .ok (.aload_n z, 1)) (kk : g_go X own nm cc nL ret R Z (pc + 1) l (.ref x :: st) ad sh μ k n) : g_go X own nm cc nL ret R Z pc l (st) ad sh μ k n := by
  intro p la e s m args below meth c H locs ls hx hb hml hown hts hr hlk hnm hE hS hR hlv
  exact lv_aload_n hx hb hd hi (lv_at hlv j hj) (kk _ _ _ _ _ _ _ _ _ _ _ _ hx hb hml hown hts hr hlk hnm hE hS hR hlv)
theorem go_aload {i : Nat} {x : Nat} (j : Nat) (hj : l[j]? = some (i, .ref x)) (hd : decode cc pc = .ok (.aload i, 2)) (kk : g_go X own nm cc nL ret R Z (pc + 2) l (.ref x :: st) ad sh μ k n) : g_go X own nm cc nL ret R Z pc l (st) ad sh μ k n := by
  intro p la e s m args below meth c H locs ls hx hb hml hown hts hr hlk hnm hE hS hR hlv
  exact lv_aload hx hb hd (lv_at hlv j hj) (kk _ _ _ _ _ _ _ _ _ _ _ _ hx hb hml hown hts hr hlk hnm hE hS hR hlv)
theorem go_istore_n {z : Fin 4} {i : Nat} {x : Int32} {l' : List (Nat × Value)} (hd : decode cc pc = .ok (.istore_n z, 1)) (hi : (z : Nat) = i) (hn : i < nL) (hl : (i, Value.int x) :: l.filter (fun q => !(q.1 == i) && !(q.1 + 1 == i && q.2.category == 2)) = l') (kk : g_go X own nm cc nL ret R Z (pc + 1) l' st ad sh μ k n) : g_go X own nm cc nL ret R Z pc l (.int x :: st) ad sh μ k n := by
  intro p la e s m args below meth c H locs ls hx hb hml hown hts hr hlk hnm hE hS hR hlv
  exact lv_istore_n hx hb hd hi hlv hn hl (fun ls' hlv' => (kk _ _ _ _ _ _ _ _ _ _ _ _ hx hb hml hown hts hr hlk hnm hE hS hR hlv'))
theorem go_istore {i : Nat} {x : Int32} {l' : List (Nat × Value)} (hd : decode cc pc = .ok (.istore i, 2)) (hn : i < nL) (hl : (i, Value.int x) :: l.filter (fun q => !(q.1 == i) && !(q.1 + 1 == i && q.2.category == 2)) = l') (kk : g_go X own nm cc nL ret R Z (pc + 2) l' st ad sh μ k n) : g_go X own nm cc nL ret R Z pc l (.int x :: st) ad sh μ k n := by
  intro p la e s m args below meth c H locs ls hx hb hml hown hts hr hlk hnm hE hS hR hlv
  exact lv_istore hx hb hd hlv hn hl (fun ls' hlv' => (kk _ _ _ _ _ _ _ _ _ _ _ _ hx hb hml hown hts hr hlk hnm hE hS hR hlv'))
theorem go_astore_n {z : Fin 4} {i : Nat} {x : Nat} {l' : List (Nat × Value)} (hd : decode cc pc = .ok (.astore_n z, 1)) (hi : (z : Nat) = i) (hn : i < nL) (hl : (i, Value.ref x) :: l.filter (fun q => !(q.1 == i) && !(q.1 + 1 == i && q.2.category == 2)) = l') (kk : g_go X own nm cc nL ret R Z (pc + 1) l' st ad sh μ k n) : g_go X own nm cc nL ret R Z pc l (.ref x :: st) ad sh μ k n := by
  intro p la e s m args below meth c H locs ls hx hb hml hown hts hr hlk hnm hE hS hR hlv
  exact lv_astore_n hx hb hd hi hlv hn hl (fun ls' hlv' => (kk _ _ _ _ _ _ _ _ _ _ _ _ hx hb hml hown hts hr hlk hnm hE hS hR hlv'))
theorem go_astore {i : Nat} {x : Nat} {l' : List (Nat × Value)} (hd : decode cc pc = .ok (.astore i, 2)) (hn : i < nL) (hl : (i, Value.ref x) :: l.filter (fun q => !(q.1 == i) && !(q.1 + 1 == i && q.2.category == 2)) = l') (kk : g_go X own nm cc nL ret R Z (pc + 2) l' st ad sh μ k n) : g_go X own nm cc nL ret R Z pc l (.ref x :: st) ad sh μ k n := by
  intro p la e s m args below meth c H locs ls hx hb hml hown hts hr hlk hnm hE hS hR hlv
  exact lv_astore hx hb hd hlv hn hl (fun ls' hlv' => (kk _ _ _ _ _ _ _ _ _ _ _ _ hx hb hml hown hts hr hlk hnm hE hS hR hlv'))
theorem go_lstore_n {z : Fin 4} {i : Nat} {x : Int64} {l' : List (Nat × Value)} (hd : decode cc pc = .ok (.lstore_n z, 1)) (hi : (z : Nat) = i) (hn : i + 1 < nL) (hl : (i, Value.long x) :: l.filter (fun q => !(q.1 == i) && (!(q.1 == i + 1) && !(q.1 + 1 == i && q.2.category == 2))) = l') (kk : g_go X own nm cc nL ret R Z (pc + 1) l' st ad sh μ k n) : g_go X own nm cc nL ret R Z pc l (.long x :: st) ad sh μ k n := by
  intro p la e s m args below meth c H locs ls hx hb hml hown hts hr hlk hnm hE hS hR hlv
  exact lv_lstore_n hx hb hd hi hlv hn hl (fun ls' hlv' => (kk _ _ _ _ _ _ _ _ _ _ _ _ hx hb hml hown hts hr hlk hnm hE hS hR hlv'))
theorem go_lstore {i : Nat} {x : Int64} {l' : List (Nat × Value)} (hd : decode cc pc = .ok (.lstore i, 2)) (hn : i + 1 < nL) (hl : (i, Value.long x) :: l.filter (fun q => !(q.1 == i) && (!(q.1 == i + 1) && !(q.1 + 1 == i && q.2.category == 2))) = l') (kk : g_go X own nm cc nL ret R Z (pc + 2) l' st ad sh μ k n) : g_go X own nm cc nL ret R Z pc l (.long x :: st) ad sh μ k n := by
  intro p la e s m args below meth c H locs ls hx hb hml hown hts hr hlk hnm hE hS hR hlv
  exact lv_lstore hx hb hd hlv hn hl (fun ls' hlv' => (kk _ _ _ _ _ _ _ _ _ _ _ _ hx hb hml hown hts hr hlk hnm hE hS hR hlv'))
theorem go_iinc {i : Nat} {z : Int} {x v : Int32} {l' : List (Nat × Value)} (hd : decode cc pc = .ok (.iinc i z, 3)) (j : Nat) (hj : l[j]? = some (i, .int x)) (hv : x + Int32.ofInt z = v) (hn : i < nL) (hl : (i, Value.int v) :: l.filter (fun q => !(q.1 == i) && !(q.1 + 1 == i && q.2.category == 2)) = l') (kk : g_go X own nm cc nL ret R Z (pc + 3) l' st ad sh μ k n) : g_go X own nm cc nL ret R Z pc l st ad sh μ k n := by
  intro p la e s m args below meth c H locs ls hx hb hml hown hts hr hlk hnm hE hS hR hlv
  exact lv_iinc hx hb hd hlv hj hv hn hl (fun ls' hlv' => (kk _ _ _ _ _ _ _ _ _ _ _ _ hx hb hml hown hts hr hlk hnm hE hS hR hlv'))
theorem go_iadd {x y : Int32} (hd : decode cc pc = .ok (.iadd, 1)) (kk : g_go X own nm cc nL ret R Z (pc + 1) l (.int (x + y) :: st) ad sh μ k n) : g_go X own nm cc nL ret R Z pc l (.int y :: .int x :: st) ad sh μ k n := by
  intro p la e s m args below meth c H locs ls hx hb hml hown hts hr hlk hnm hE hS hR hlv
  exact lv_iadd hx hb hd (kk _ _ _ _ _ _ _ _ _ _ _ _ hx hb hml hown hts hr hlk hnm hE hS hR hlv)
theorem go_isub {x y : Int32} (hd : decode cc pc = .ok (.isub, 1)) (kk : g_go X own nm cc nL ret R Z (pc + 1) l (.int (x - y) :: st) ad sh μ k n) : g_go X own nm cc nL ret R Z pc l (.int y :: .int x :: st) ad sh μ k n := by
  intro p la e s m args below meth c H locs ls hx hb hml hown hts hr hlk hnm hE hS hR hlv
  exact lv_isub hx hb hd (kk _ _ _ _ _ _ _ _ _ _ _ _ hx hb hml hown hts hr hlk hnm hE hS hR hlv)
theorem go_imul {x y : Int32} (hd : decode cc pc = .ok (.imul, 1)) (kk : g_go X own nm cc nL ret R Z (pc + 1) l (.int (x * y) :: st) ad sh μ k n) : g_go X own nm cc nL ret R Z pc l (.int y :: .int x :: st) ad sh μ k n := by
  intro p la e s m args below meth c H locs ls hx hb hml hown hts hr hlk hnm hE hS hR hlv
  exact lv_imul hx hb hd (kk _ _ _ _ _ _ _ _ _ _ _ _ hx hb hml hown hts hr hlk hnm hE hS hR hlv)
theorem go_iand {x y : Int32} (hd : decode cc pc = .ok (.iand, 1)) (kk : g_go X own nm cc nL ret R Z (pc + 1) l (.int (x &&& y) :: st) ad sh μ k n) : g_go X own nm cc nL ret R Z pc l (.int y :: .int x :: st) ad sh μ k n := by
  intro p la e s m args below meth c H locs ls hx hb hml hown hts hr hlk hnm hE hS hR hlv
  exact lv_iand hx hb hd (kk _ _ _ _ _ _ _ _ _ _ _ _ hx hb hml hown hts hr hlk hnm hE hS hR hlv)
theorem go_ior {x y : Int32} (hd : decode cc pc = .ok (.ior, 1)) (kk : g_go X own nm cc nL ret R Z (pc + 1) l (.int (x ||| y) :: st) ad sh μ k n) : g_go X own nm cc nL ret R Z pc l (.int y :: .int x :: st) ad sh μ k n := by
  intro p la e s m args below meth c H locs ls hx hb hml hown hts hr hlk hnm hE hS hR hlv
  exact lv_ior hx hb hd (kk _ _ _ _ _ _ _ _ _ _ _ _ hx hb hml hown hts hr hlk hnm hE hS hR hlv)
theorem go_ixor {x y : Int32} (hd : decode cc pc = .ok (.ixor, 1)) (kk : g_go X own nm cc nL ret R Z (pc + 1) l (.int (x ^^^ y) :: st) ad sh μ k n) : g_go X own nm cc nL ret R Z pc l (.int y :: .int x :: st) ad sh μ k n := by
  intro p la e s m args below meth c H locs ls hx hb hml hown hts hr hlk hnm hE hS hR hlv
  exact lv_ixor hx hb hd (kk _ _ _ _ _ _ _ _ _ _ _ _ hx hb hml hown hts hr hlk hnm hE hS hR hlv)
theorem go_ishl {x y : Int32} (hd : decode cc pc = .ok (.ishl, 1)) (kk : g_go X own nm cc nL ret R Z (pc + 1) l (.int (x <<< (y &&& 31)) :: st) ad sh μ k n) : g_go X own nm cc nL ret R Z pc l (.int y :: .int x :: st) ad sh μ k n := by
  intro p la e s m args below meth c H locs ls hx hb hml hown hts hr hlk hnm hE hS hR hlv
  exact lv_ishl hx hb hd (kk _ _ _ _ _ _ _ _ _ _ _ _ hx hb hml hown hts hr hlk hnm hE hS hR hlv)
theorem go_ishr {x y : Int32} (hd : decode cc pc = .ok (.ishr, 1)) (kk : g_go X own nm cc nL ret R Z (pc + 1) l (.int (x >>> (y &&& 31)) :: st) ad sh μ k n) : g_go X own nm cc nL ret R Z pc l (.int y :: .int x :: st) ad sh μ k n := by
  intro p la e s m args below meth c H locs ls hx hb hml hown hts hr hlk hnm hE hS hR hlv
  exact lv_ishr hx hb hd (kk _ _ _ _ _ _ _ _ _ _ _ _ hx hb hml hown hts hr hlk hnm hE hS hR hlv)
theorem go_iushr {x y : Int32} (hd : decode cc pc = .ok (.iushr, 1)) (kk : g_go X own nm cc nL ret R Z (pc + 1) l (.int ((x.toUInt32 >>> (y.toUInt32 &&& Int32.toUInt32 31)).toInt32) :: st) ad sh μ k n) : g_go X own nm cc nL ret R Z pc l (.int y :: .int x :: st) ad sh μ k n := by
  intro p la e s m args below meth c H locs ls hx hb hml hown hts hr hlk hnm hE hS hR hlv
  exact lv_iushr hx hb hd rfl (kk _ _ _ _ _ _ _ _ _ _ _ _ hx hb hml hown hts hr hlk hnm hE hS hR hlv)
theorem go_idiv {x y : Int32} (hne : ¬ y = 0) (hd : decode cc pc = .ok (.idiv, 1)) (kk : g_go X own nm cc nL ret R Z (pc + 1) l (.int (x / y) :: st) ad sh μ k n) : g_go X own nm cc nL ret R Z pc l (.int y :: .int x :: st) ad sh μ k n := by
  intro p la e s m args below meth c H locs ls hx hb hml hown hts hr hlk hnm hE hS hR hlv
  exact lv_idiv hx hb hd hne (kk _ _ _ _ _ _ _ _ _ _ _ _ hx hb hml hown hts hr hlk hnm hE hS hR hlv)
theorem go_irem {x y : Int32} (hne : ¬ y = 0) (hd : decode cc pc = .ok (.irem, 1)) (kk : g_go X own nm cc nL ret R Z (pc + 1) l (.int (x - x / y * y) :: st) ad sh μ k n) : g_go X own nm cc nL ret R Z pc l (.int y :: .int x :: st) ad sh μ k n := by
  intro p la e s m args below meth c H locs ls hx hb hml hown hts hr hlk hnm hE hS hR hlv
  exact lv_irem hx hb hd hne (kk _ _ _ _ _ _ _ _ _ _ _ _ hx hb hml hown hts hr hlk hnm hE hS hR hlv)
theorem go_ineg {x : Int32} (hd : decode cc pc = .ok (.ineg, 1)) (kk : g_go X own nm cc nL ret R Z (pc + 1) l (.int (-x) :: st) ad sh μ k n) : g_go X own nm cc nL ret R Z pc l (.int x :: st) ad sh μ k n := by
  intro p la e s m args below meth c H locs ls hx hb hml hown hts hr hlk hnm hE hS hR hlv
  exact lv_ineg hx hb hd (kk _ _ _ _ _ _ _ _ _ _ _ _ hx hb hml hown hts hr hlk hnm hE hS hR hlv)
theorem go_ladd {x y : Int64} (hd : decode cc pc = .ok (.ladd, 1)) (kk : g_go X own nm cc nL ret R Z (pc + 1) l (.long (x + y) :: st) ad sh μ k n) : g_go X own nm cc nL ret R Z pc l (.long y :: .long x :: st) ad sh μ k n := by
  intro p la e s m args below meth c H locs ls hx hb hml hown hts hr hlk hnm hE hS hR hlv
  exact lv_ladd hx hb hd (kk _ _ _ _ _ _ _ _ _ _ _ _ hx hb hml hown hts hr hlk hnm hE hS hR hlv)
theorem go_lsub {x y : Int64} (hd : decode cc pc = .ok (.lsub, 1)) (kk : g_go X own nm cc nL ret R Z (pc + 1) l (.long (x - y) :: st) ad sh μ k n) : g_go X own nm cc nL ret R Z pc l (.long y :: .long x :: st) ad sh μ k n := by
  intro p la e s m args below meth c H locs ls hx hb hml hown hts hr hlk hnm hE hS hR hlv
  exact lv_lsub hx hb hd (kk _ _ _ _ _ _ _ _ _ _ _ _ hx hb hml hown hts hr hlk hnm hE hS hR hlv)
theorem go_land {x y : Int64} (hd : decode cc pc = .ok (.land, 1)) (kk : g_go X own nm cc nL ret R Z (pc + 1) l (.long (x &&& y) :: st) ad sh μ k n) : g_go X own nm cc nL ret R Z pc l (.long y :: .long x :: st) ad sh μ k n := by
  intro p la e s m args below meth c H locs ls hx hb hml hown hts hr hlk hnm hE hS hR hlv
  exact lv_land hx hb hd (kk _ _ _ _ _ _ _ _ _ _ _ _ hx hb hml hown hts hr hlk hnm hE hS hR hlv)
theorem go_lor {x y : Int64} (hd : decode cc pc = .ok (.lor, 1)) (kk : g_go X own nm cc nL ret R Z (pc + 1) l (.long (x ||| y) :: st) ad sh μ k n) : g_go X own nm cc nL ret R Z pc l (.long y :: .long x :: st) ad sh μ k n := by
  intro p la e s m args below meth c H locs ls hx hb hml hown hts hr hlk hnm hE hS hR hlv
  exact lv_lor hx hb hd (kk _ _ _ _ _ _ _ _ _ _ _ _ hx hb hml hown hts hr hlk hnm hE hS hR hlv)
theorem go_lxor {x y : Int64} (hd : decode cc pc = .ok (.lxor, 1)) (kk : g_go X own nm cc nL ret R Z (pc + 1) l (.long (x ^^^ y) :: st) ad sh μ k n) : g_go X own nm cc nL ret R Z pc l (.long y :: .long x :: st) ad sh μ k n := by
  intro p la e s m args below meth c H locs ls hx hb hml hown hts hr hlk hnm hE hS hR hlv
  exact lv_lxor hx hb hd (kk _ _ _ _ _ _ _ _ _ _ _ _ hx hb hml hown hts hr hlk hnm hE hS hR hlv)
theorem go_lshl {x : Int64} {y : Int32} (hd : decode cc pc = .ok (.lshl, 1)) (kk : g_go X own nm cc nL ret R Z (pc + 1) l (.long (x <<< (y.toInt64 &&& 63)) :: st) ad sh μ k n) : g_go X own nm cc nL ret R Z pc l (.int y :: .long x :: st) ad sh μ k n := by
  intro p la e s m args below meth c H locs ls hx hb hml hown hts hr hlk hnm hE hS hR hlv
  exact lv_lshl hx hb hd rfl (kk _ _ _ _ _ _ _ _ _ _ _ _ hx hb hml hown hts hr hlk hnm hE hS hR hlv)
theorem go_lushr {x : Int64} {y : Int32} (hd : decode cc pc = .ok (.lushr, 1)) (kk : g_go X own nm cc nL ret R Z (pc + 1) l (.long ((x.toUInt64 >>> (y.toInt64.toUInt64 &&& Int64.toUInt64 63)).toInt64) :: st) ad sh μ k n) : g_go X own nm cc nL ret R Z pc l (.int y :: .long x :: st) ad sh μ k n := by
  intro p la e s m args below meth c H locs ls hx hb hml hown hts hr hlk hnm hE hS hR hlv
  exact lv_lushr hx hb hd rfl (kk _ _ _ _ _ _ _ _ _ _ _ _ hx hb hml hown hts hr hlk hnm hE hS hR hlv)
theorem go_i2l {x : Int32} (hd : decode cc pc = .ok (.i2l, 1)) (kk : g_go X own nm cc nL ret R Z (pc + 1) l (.long (x.toInt64) :: st) ad sh μ k n) : g_go X own nm cc nL ret R Z pc l (.int x :: st) ad sh μ k n := by
  intro p la e s m args below meth c H locs ls hx hb hml hown hts hr hlk hnm hE hS hR hlv
  exact lv_i2l hx hb hd rfl (kk _ _ _ _ _ _ _ _ _ _ _ _ hx hb hml hown hts hr hlk hnm hE hS hR hlv)
theorem go_l2i {x : Int64} (hd : decode cc pc = .ok (.l2i, 1)) (kk : g_go X own nm cc nL ret R Z (pc + 1) l (.int (x.toInt32) :: st) ad sh μ k n) : g_go X own nm cc nL ret R Z pc l (.long x :: st) ad sh μ k n := by
  intro p la e s m args below meth c H locs ls hx hb hml hown hts hr hlk hnm hE hS hR hlv
  exact lv_l2i hx hb hd rfl (kk _ _ _ _ _ _ _ _ _ _ _ _ hx hb hml hown hts hr hlk hnm hE hS hR hlv)
theorem go_i2b {x : Int32} (hd : decode cc pc = .ok (.i2b, 1)) (kk : g_go X own nm cc nL ret R Z (pc + 1) l (.int (x.toInt8.toInt32) :: st) ad sh μ k n) : g_go X own nm cc nL ret R Z pc l (.int x :: st) ad sh μ k n := by
  intro p la e s m args below meth c H locs ls hx hb hml hown hts hr hlk hnm hE hS hR hlv
  exact lv_i2b hx hb hd rfl (kk _ _ _ _ _ _ _ _ _ _ _ _ hx hb hml hown hts hr hlk hnm hE hS hR hlv)
theorem go_i2s {x : Int32} (hd : decode cc pc = .ok (.i2s, 1)) (kk : g_go X own nm cc nL ret R Z (pc + 1) l (.int (x.toInt16.toInt32) :: st) ad sh μ k n) : g_go X own nm cc nL ret R Z pc l (.int x :: st) ad sh μ k n := by
  intro p la e s m args below meth c H locs ls hx hb hml hown hts hr hlk hnm hE hS hR hlv
  exact lv_i2s hx hb hd rfl (kk _ _ _ _ _ _ _ _ _ _ _ _ hx hb hml hown hts hr hlk hnm hE hS hR hlv)
theorem go_i2c {x : Int32} (hd : decode cc pc = .ok (.i2c, 1)) (kk : g_go X own nm cc nL ret R Z (pc + 1) l (.int ((x.toUInt32 % 65536).toInt32) :: st) ad sh μ k n) : g_go X own nm cc nL ret R Z pc l (.int x :: st) ad sh μ k n := by
  intro p la e s m args below meth c H locs ls hx hb hml hown hts hr hlk hnm hE hS hR hlv
  exact lv_i2c hx hb hd rfl (kk _ _ _ _ _ _ _ _ _ _ _ _ hx hb hml hown hts hr hlk hnm hE hS hR hlv)
theorem go_lcmp {x y : Int64} (hd : decode cc pc = .ok (.lcmp, 1)) (kk : g_go X own nm cc nL ret R Z (pc + 1) l (.int (lg_cmp x y) :: st) ad sh μ k n) : g_go X own nm cc nL ret R Z pc l (.long y :: .long x :: st) ad sh μ k n := by
  intro p la e s m args below meth c H locs ls hx hb hml hown hts hr hlk hnm hE hS hR hlv
  exact W.lcmp hx hb hd (kk _ _ _ _ _ _ _ _ _ _ _ _ hx hb hml hown hts hr hlk hnm hE hS hR hlv)
theorem go_dup {va : Value} (hva : va.category = 1) (hd : decode cc pc = .ok (.dup, 1)) (kk : g_go X own nm cc nL ret R Z (pc + 1) l (va :: va :: st) ad sh μ k n) : g_go X own nm cc nL ret R Z pc l (va :: st) ad sh μ k n := by
  intro p la e s m args below meth c H locs ls hx hb hml hown hts hr hlk hnm hE hS hR hlv
  exact lv_dup hx hb hd hva (kk _ _ _ _ _ _ _ _ _ _ _ _ hx hb hml hown hts hr hlk hnm hE hS hR hlv)
theorem go_pop {va : Value} (hva : va.category = 1) (hd : decode cc pc = .ok (.pop, 1)) (kk : g_go X own nm cc nL ret R Z (pc + 1) l (st) ad sh μ k n) : g_go X own nm cc nL ret R Z pc l (va :: st) ad sh μ k n := by
  intro p la e s m args below meth c H locs ls hx hb hml hown hts hr hlk hnm hE hS hR hlv
  exact lv_pop hx hb hd hva (kk _ _ _ _ _ _ _ _ _ _ _ _ hx hb hml hown hts hr hlk hnm hE hS hR hlv)
theorem go_dup_x1 {va vb : Value} (hva : va.category = 1) (hvb : vb.category = 1) (hd : decode cc pc = .ok (.dup_x1, 1)) (kk : g_go X own nm cc nL ret R Z (pc + 1) l (va :: vb :: va :: st) ad sh μ k n) : g_go X own nm cc nL ret R Z pc l (va :: vb :: st) ad sh μ k n := by
  intro p la e s m args below meth c H locs ls hx hb hml hown hts hr hlk hnm hE hS hR hlv
  exact lv_dup_x1 hx hb hd hva hvb (kk _ _ _ _ _ _ _ _ _ _ _ _ hx hb hml hown hts hr hlk hnm hE hS hR hlv)
theorem go_dup2 {va vb : Value} (hva : va.category = 1) (hvb : vb.category = 1) (hd : decode cc pc = .ok (.dup2, 1)) (kk : g_go X own nm cc nL ret R Z (pc + 1) l (va :: vb :: va :: vb :: st) ad sh μ k n) : g_go X own nm cc nL ret R Z pc l (va :: vb :: st) ad sh μ k n := by
  intro p la e s m args below meth c H locs ls hx hb hml hown hts hr hlk hnm hE hS hR hlv
  exact lv_dup2_11 hx hb hd hva hvb (kk _ _ _ _ _ _ _ _ _ _ _ _ hx hb hml hown hts hr hlk hnm hE hS hR hlv)
theorem go_if_eq {x : Int32} {off : Int} {tgt : Nat} (hd : decode cc pc = .ok (.ifCond .eq off, 3)) (ht : (pc : Int) + off = (tgt : Int)) (kt : x = 0 → g_go X own nm cc nL ret R Z tgt l st ad sh μ k n) (kf : ¬ x = 0 → g_go X own nm cc nL ret R Z (pc + 3) l st ad sh μ k n) : g_go X own nm cc nL ret R Z pc l (.int x :: st) ad sh μ k n := by
  intro p la e s m args below meth c H locs ls hx hb hml hown hts hr hlk hnm hE hS hR hlv
  exact lv_if_eq hx hb hd ht (fun h => (kt h _ _ _ _ _ _ _ _ _ _ _ _ hx hb hml hown hts hr hlk hnm hE hS hR hlv)) (fun h => (kf h _ _ _ _ _ _ _ _ _ _ _ _ hx hb hml hown hts hr hlk hnm hE hS hR hlv))
theorem go_icmp_eq {x y : Int32} {off : Int} {tgt : Nat} (hd : decode cc pc = .ok (.if_icmp .eq off, 3)) (ht : (pc : Int) + off = (tgt : Int)) (kt : x = y → g_go X own nm cc nL ret R Z tgt l st ad sh μ k n) (kf : ¬ x = y → g_go X own nm cc nL ret R Z (pc + 3) l st ad sh μ k n) : g_go X own nm cc nL ret R Z pc l (.int y :: .int x :: st) ad sh μ k n := by
  intro p la e s m args below meth c H locs ls hx hb hml hown hts hr hlk hnm hE hS hR hlv
  exact lv_icmp_eq hx hb hd ht (fun h => (kt h _ _ _ _ _ _ _ _ _ _ _ _ hx hb hml hown hts hr hlk hnm hE hS hR hlv)) (fun h => (kf h _ _ _ _ _ _ _ _ _ _ _ _ hx hb hml hown hts hr hlk hnm hE hS hR hlv))
theorem go_if_ne {x : Int32} {off : Int} {tgt : Nat} (hd : decode cc pc = .ok (.ifCond .ne off, 3)) (ht : (pc : Int) + off = (tgt : Int)) (kt : ¬ x = 0 → g_go X own nm cc nL ret R Z tgt l st ad sh μ k n) (kf : x = 0 → g_go X own nm cc nL ret R Z (pc + 3) l st ad sh μ k n) : g_go X own nm cc nL ret R Z pc l (.int x :: st) ad sh μ k n := by
  intro p la e s m args below meth c H locs ls hx hb hml hown hts hr hlk hnm hE hS hR hlv
  exact lv_if_ne hx hb hd ht (fun h => (kt h _ _ _ _ _ _ _ _ _ _ _ _ hx hb hml hown hts hr hlk hnm hE hS hR hlv)) (fun h => (kf h _ _ _ _ _ _ _ _ _ _ _ _ hx hb hml hown hts hr hlk hnm hE hS hR hlv))
theorem go_icmp_ne {x y : Int32} {off : Int} {tgt : Nat} (hd : decode cc pc = .ok (.if_icmp .ne off, 3)) (ht : (pc : Int) + off = (tgt : Int)) (kt : ¬ x = y → g_go X own nm cc nL ret R Z tgt l st ad sh μ k n) (kf : x = y → g_go X own nm cc nL ret R Z (pc + 3) l st ad sh μ k n) : g_go X own nm cc nL ret R Z pc l (.int y :: .int x :: st) ad sh μ k n := by
  intro p la e s m args below meth c H locs ls hx hb hml hown hts hr hlk hnm hE hS hR hlv
  exact lv_icmp_ne hx hb hd ht (fun h => (kt h _ _ _ _ _ _ _ _ _ _ _ _ hx hb hml hown hts hr hlk hnm hE hS hR hlv)) (fun h => (kf h _ _ _ _ _ _ _ _ _ _ _ _ hx hb hml hown hts hr hlk hnm hE hS hR hlv))
theorem go_if_lt {x : Int32} {off : Int} {tgt : Nat} (hd : decode cc pc = .ok (.ifCond .lt off, 3)) (ht : (pc : Int) + off = (tgt : Int)) (kt : x < 0 → g_go X own nm cc nL ret R Z tgt l st ad sh μ k n) (kf : ¬ x < 0 → g_go X own nm cc nL ret R Z (pc + 3) l st ad sh μ k n) : g_go X own nm cc nL ret R Z pc l (.int x :: st) ad sh μ k n := by
  intro p la e s m args below meth c H locs ls hx hb hml hown hts hr hlk hnm hE hS hR hlv
  exact lv_if_lt hx hb hd ht (fun h => (kt h _ _ _ _ _ _ _ _ _ _ _ _ hx hb hml hown hts hr hlk hnm hE hS hR hlv)) (fun h => (kf h _ _ _ _ _ _ _ _ _ _ _ _ hx hb hml hown hts hr hlk hnm hE hS hR hlv))
theorem go_icmp_lt {x y : Int32} {off : Int} {tgt : Nat} (hd : decode cc pc = .ok (.if_icmp .lt off, 3)) (ht : (pc : Int) + off = (tgt : Int)) (kt : x < y → g_go X own nm cc nL ret R Z tgt l st ad sh μ k n) (kf : ¬ x < y → g_go X own nm cc nL ret R Z (pc + 3) l st ad sh μ k n) : g_go X own nm cc nL ret R Z pc l (.int y :: .int x :: st) ad sh μ k n := by
  intro p la e s m args below meth c H locs ls hx hb hml hown hts hr hlk hnm hE hS hR hlv
  exact lv_icmp_lt hx hb hd ht (fun h => (kt h _ _ _ _ _ _ _ _ _ _ _ _ hx hb hml hown hts hr hlk hnm hE hS hR hlv)) (fun h => (kf h _ _ _ _ _ _ _ _ _ _ _ _ hx hb hml hown hts hr hlk hnm hE hS hR hlv))
theorem go_if_ge {x : Int32} {off : Int} {tgt : Nat} (hd : decode cc pc = .ok (.ifCond .ge off, 3)) (ht : (pc : Int) + off = (tgt : Int)) (kt : 0 ≤ x → g_go X own nm cc nL ret R Z tgt l st ad sh μ k n) (kf : ¬ 0 ≤ x → g_go X own nm cc nL ret R Z (pc + 3) l st ad sh μ k n) : g_go X own nm cc nL ret R Z pc l (.int x :: st) ad sh μ k n := by
  intro p la e s m args below meth c H locs ls hx hb hml hown hts hr hlk hnm hE hS hR hlv
  exact lv_if_ge hx hb hd ht (fun h => (kt h _ _ _ _ _ _ _ _ _ _ _ _ hx hb hml hown hts hr hlk hnm hE hS hR hlv)) (fun h => (kf h _ _ _ _ _ _ _ _ _ _ _ _ hx hb hml hown hts hr hlk hnm hE hS hR hlv))
theorem go_icmp_ge {x y : Int32} {off : Int} {tgt : Nat} (hd : decode cc pc = .ok (.if_icmp .ge off, 3)) (ht : (pc : Int) + off = (tgt : Int)) (kt : y ≤ x → g_go X own nm cc nL ret R Z tgt l st ad sh μ k n) (kf : ¬ y ≤ x → g_go X own nm cc nL ret R Z (pc + 3) l st ad sh μ k n) : g_go X own nm cc nL ret R Z pc l (.int y :: .int x :: st) ad sh μ k n := by
  intro p la e s m args below meth c H locs ls hx hb hml hown hts hr hlk hnm hE hS hR hlv
  exact lv_icmp_ge hx hb hd ht (fun h => (kt h _ _ _ _ _ _ _ _ _ _ _ _ hx hb hml hown hts hr hlk hnm hE hS hR hlv)) (fun h => (kf h _ _ _ _ _ _ _ _ _ _ _ _ hx hb hml hown hts hr hlk hnm hE hS hR hlv))
theorem go_if_gt {x : Int32} {off : Int} {tgt : Nat} (hd : decode cc pc = .ok (.ifCond .gt off, 3)) (ht : (pc : Int) + off = (tgt : Int)) (kt : 0 < x → g_go X own nm cc nL ret R Z tgt l st ad sh μ k n) (kf : ¬ 0 < x → g_go X own nm cc nL ret R Z (pc + 3) l st ad sh μ k n) : g_go X own nm cc nL ret R Z pc l (.int x :: st) ad sh μ k n := by
  intro p la e s m args below meth c H locs ls hx hb hml hown hts hr hlk hnm hE hS hR hlv
  exact lv_if_gt hx hb hd ht (fun h => (kt h _ _ _ _ _ _ _ _ _ _ _ _ hx hb hml hown hts hr hlk hnm hE hS hR hlv)) (fun h => (kf h _ _ _ _ _ _ _ _ _ _ _ _ hx hb hml hown hts hr hlk hnm hE hS hR hlv))
theorem go_icmp_gt {x y : Int32} {off : Int} {tgt : Nat} (hd : decode cc pc = .ok (.if_icmp .gt off, 3)) (ht : (pc : Int) + off = (tgt : Int)) (kt : y < x → g_go X own nm cc nL ret R Z tgt l st ad sh μ k n) (kf : ¬ y < x → g_go X own nm cc nL ret R Z (pc + 3) l st ad sh μ k n) : g_go X own nm cc nL ret R Z pc l (.int y :: .int x :: st) ad sh μ k n := by
  intro p la e s m args below meth c H locs ls hx hb hml hown hts hr hlk hnm hE hS hR hlv
  exact lv_icmp_gt hx hb hd ht (fun h => (kt h _ _ _ _ _ _ _ _ _ _ _ _ hx hb hml hown hts hr hlk hnm hE hS hR hlv)) (fun h => (kf h _ _ _ _ _ _ _ _ _ _ _ _ hx hb hml hown hts hr hlk hnm hE hS hR hlv))
theorem go_if_le {x : Int32} {off : Int} {tgt : Nat} (hd : decode cc pc = .ok (.ifCond .le off, 3)) (ht : (pc : Int) + off = (tgt : Int)) (kt : x ≤ 0 → g_go X own nm cc nL ret R Z tgt l st ad sh μ k n) (kf : ¬ x ≤ 0 → g_go X own nm cc nL ret R Z (pc + 3) l st ad sh μ k n) : g_go X own nm cc nL ret R Z pc l (.int x :: st) ad sh μ k n := by
  intro p la e s m args below meth c H locs ls hx hb hml hown hts hr hlk hnm hE hS hR hlv
  exact lv_if_le hx hb hd ht (fun h => (kt h _ _ _ _ _ _ _ _ _ _ _ _ hx hb hml hown hts hr hlk hnm hE hS hR hlv)) (fun h => (kf h _ _ _ _ _ _ _ _ _ _ _ _ hx hb hml hown hts hr hlk hnm hE hS hR hlv))
theorem go_icmp_le {x y : Int32} {off : Int} {tgt : Nat} (hd : decode cc pc = .ok (.if_icmp .le off, 3)) (ht : (pc : Int) + off = (tgt : Int)) (kt : x ≤ y → g_go X own nm cc nL ret R Z tgt l st ad sh μ k n) (kf : ¬ x ≤ y → g_go X own nm cc nL ret R Z (pc + 3) l st ad sh μ k n) : g_go X own nm cc nL ret R Z pc l (.int y :: .int x :: st) ad sh μ k n := by
  intro p la e s m args below meth c H locs ls hx hb hml hown hts hr hlk hnm hE hS hR hlv
  exact lv_icmp_le hx hb hd ht (fun h => (kt h _ _ _ _ _ _ _ _ _ _ _ _ hx hb hml hown hts hr hlk hnm hE hS hR hlv)) (fun h => (kf h _ _ _ _ _ _ _ _ _ _ _ _ hx hb hml hown hts hr hlk hnm hE hS hR hlv))
theorem go_goto {off : Int} {tgt : Nat} (hd : decode cc pc = .ok (.goto off, 3)) (ht : (pc : Int) + off = (tgt : Int)) (kk : g_go X own nm cc nL ret R Z tgt l st ad sh μ k n) : g_go X own nm cc nL ret R Z pc l st ad sh μ k n := by
  intro p la e s m args below meth c H locs ls hx hb hml hown hts hr hlk hnm hE hS hR hlv
  exact lv_goto hx hb hd ht (kk _ _ _ _ _ _ _ _ _ _ _ _ hx hb hml hown hts hr hlk hnm hE hS hR hlv)
theorem go_lookup {dflt : Int} {ps : Array (Int × Int)} {len : Nat} {x : Int32} {off : Int} {tgt : Nat} (hd : decode cc pc = .ok (.lookupswitch dflt ps, len)) (hp : (ps.toList.zip (ps.toList.drop 1)).all (fun (a, next) => a.1 < next.1) = true) (ho : Op.lookupswitch.offset ps.toList dflt x.toInt = off) (ht : (pc : Int) + off = (tgt : Int)) (kk : g_go X own nm cc nL ret R Z tgt l st ad sh μ k n) : g_go X own nm cc nL ret R Z pc l (.int x :: st) ad sh μ k n := by
  intro p la e s m args below meth c H locs ls hx hb hml hown hts hr hlk hnm hE hS hR hlv
  exact lv_lookup hx hb hd hp ho ht (kk _ _ _ _ _ _ _ _ _ _ _ _ hx hb hml hown hts hr hlk hnm hE hS hR hlv)
theorem go_tableOut {dflt lo hi : Int} {offs : Array Int} {len : Nat} {x : Int32} {tgt : Nat} (hd : decode cc pc = .ok (.tableswitch dflt lo hi offs, len)) (h : x.toInt < lo ∨ hi < x.toInt) (ht : (pc : Int) + dflt = (tgt : Int)) (kk : g_go X own nm cc nL ret R Z tgt l st ad sh μ k n) : g_go X own nm cc nL ret R Z pc l (.int x :: st) ad sh μ k n := by
  intro p la e s m args below meth c H locs ls hx hb hml hown hts hr hlk hnm hE hS hR hlv
  exact lv_tableOut hx hb hd h ht (kk _ _ _ _ _ _ _ _ _ _ _ _ hx hb hml hown hts hr hlk hnm hE hS hR hlv)
theorem go_tableIn {dflt lo hi : Int} {offs : Array Int} {len : Nat} {x : Int32} {off : Int} {tgt : Nat} (hd : decode cc pc = .ok (.tableswitch dflt lo hi offs, len)) (h1 : ¬ x.toInt < lo) (h2 : ¬ hi < x.toInt) (ho : offs[(x.toInt - lo).toNat]? = some off) (ht : (pc : Int) + off = (tgt : Int)) (kk : g_go X own nm cc nL ret R Z tgt l st ad sh μ k n) : g_go X own nm cc nL ret R Z pc l (.int x :: st) ad sh μ k n := by
  intro p la e s m args below meth c H locs ls hx hb hml hown hts hr hlk hnm hE hS hR hlv
  exact lv_tableIn hx hb hd h1 h2 ho ht (kk _ _ _ _ _ _ _ _ _ _ _ _ hx hb hml hown hts hr hlk hnm hE hS hR hlv)
theorem go_ldc {idx : Nat} {v : Int32} (hw : Cond.constant own idx v ∈ lw_tbl) (hd : decode cc pc = .ok (.ldc idx, 2)) (kk : g_go X own nm cc nL ret R Z (pc + 2) l (.int v :: st) ad sh μ k n) : g_go X own nm cc nL ret R Z pc l (st) ad sh μ k n := by
  intro p la e s m args below meth c H locs ls hx hb hml hown hts hr hlk hnm hE hS hR hlv
  exact lv_ldc hx hb hown (hts _ (g_in hw rfl)) hd (kk _ _ _ _ _ _ _ _ _ _ _ _ hx hb hml hown hts hr hlk hnm hE hS hR hlv)
theorem go_ldcw {idx : Nat} {v : Int32} (hw : Cond.constant own idx v ∈ lw_tbl) (hd : decode cc pc = .ok (.ldc_w idx, 3)) (kk : g_go X own nm cc nL ret R Z (pc + 3) l (.int v :: st) ad sh μ k n) : g_go X own nm cc nL ret R Z pc l (st) ad sh μ k n := by
  intro p la e s m args below meth c H locs ls hx hb hml hown hts hr hlk hnm hE hS hR hlv
  exact lv_ldcw hx hb hown (hts _ (g_in hw rfl)) hd (kk _ _ _ _ _ _ _ _ _ _ _ _ hx hb hml hown hts hr hlk hnm hE hS hR hlv)
theorem go_ldc2 {idx : Nat} {v : Int64} (hw : Cond.constantLong own idx v ∈ lw_tbl) (hd : decode cc pc = .ok (.ldc2_w idx, 3)) (kk : g_go X own nm cc nL ret R Z (pc + 3) l (.long v :: st) ad sh μ k n) : g_go X own nm cc nL ret R Z pc l (st) ad sh μ k n := by
  intro p la e s m args below meth c H locs ls hx hb hml hown hts hr hlk hnm hE hS hR hlv
  exact lv_ldc2 hx hb hown (hts _ (g_in hw rfl)) hd (kk _ _ _ _ _ _ _ _ _ _ _ _ hx hb hml hown hts hr hlk hnm hE hS hR hlv)
theorem g_fv_at {ci N i f : Nat} {v : Value} (hf : f < N) (hv : g_fv ad μ i f (g_ty ci f) = v) : ((List.range N).map (fun q => g_fv ad μ i q (g_ty ci q)))[f]? = some v := by
  rw [List.getElem?_map, List.getElem?_range hf, ← hv]; rfl
theorem go_get {ci N idx i f : Nat} {C : String} {T : u_T} {v : Value} (hc : vwCl[ci]? = some (C, T, N)) (hin : ∀ w ∈ u_ws C T N, w ∈ lw_tbl) (hsh : sh[i]? = some (ci + 4, N)) (hf : f < N) (hw : Cond.fieldLink own idx (T f).1 (T f).2.1 (T f).2.2.1 ∈ lw_tbl) (hv : g_fv ad μ i f (g_ty ci f) = v) (hd : decode cc pc = .ok (.getfield idx, 3)) (kk : g_go X own nm cc nL ret R Z (pc + 3) l (v :: st) ad sh μ k n) : g_go X own nm cc nL ret R Z pc l (.ref (ad i) :: st) ad sh μ k n := by
  intro p la e s m args below meth c H locs ls hx hb hml hown hts hr hlk hnm hE hS hR hlv
  exact va_get hx hb hts (g_inU hin) hown hE.2.1 hR.1 i (g_wl_at hsh) hc f hf (hts _ (g_in hw rfl)) (fun _ h => h) (g_fv_at hf hv) hd (kk _ _ _ _ _ _ _ _ _ _ _ _ hx hb hml hown hts hr hlk hnm hE hS hR hlv)
theorem go_getN {ci N idx i f : Nat} {C : String} {T : u_T} {v : Value} (hc : vwCl[ci]? = some (C, T, N)) (hin : ∀ w ∈ u_ws C T N, w ∈ lw_tbl) (hsh : sh[i]? = some (ci + 4, N)) (hf : f < N) (hw : Cond.fieldLinkNest own idx (T f).1 (T f).2.1 (T f).2.2.1 RX8 ∈ lw_tbl) (hv : g_fv ad μ i f (g_ty ci f) = v) (hd : decode cc pc = .ok (.getfield idx, 3)) (kk : g_go X own nm cc nL ret R Z (pc + 3) l (v :: st) ad sh μ k n) : g_go X own nm cc nL ret R Z pc l (.ref (ad i) :: st) ad sh μ k n := by
  intro p la e s m args below meth c H locs ls hx hb hml hown hts hr hlk hnm hE hS hR hlv
  exact va_getN hx hb hts (g_inU hin) hown hE.2.1 hR.1 i (g_wl_at hsh) hc f hf (va_Nw.use rfl (hE.2.2.2.2.1.1 _ hw rfl)) (fun _ h => h) (g_fv_at hf hv) hd (kk _ _ _ _ _ _ _ _ _ _ _ _ hx hb hml hown hts hr hlk hnm hE hS hR hlv)
theorem g_ent_put {ci N i f : Nat} {μ' : gM} {v : Value} (hf : f < N) (hv : g_fv ad μ' i f (g_ty ci f) = v) (ho : ∀ q, q ≠ f → q < N → g_fv ad μ' i q (g_ty ci q) = g_fv ad μ i q (g_ty ci q)) : g_ent X ad μ' i (ci + 4, N) = .inr (ci, ((List.range N).map (fun q => g_fv ad μ i q (g_ty ci q))).set f v) := by
  show Sum.inr (ci, _) = Sum.inr (ci, _)
  congr 2
  apply List.ext_getElem?
  intro q
  by_cases hq : q = f
  · subst hq
    rw [List.getElem?_set_self (by simpa using hf), g_fv_at hf hv]
  · rw [List.getElem?_set_ne (fun z => hq z.symm)]
    by_cases h2 : q < N
    · rw [g_fv_at h2 rfl, g_fv_at h2 rfl, ho q hq h2]
    · rw [List.getElem?_eq_none (by simp; omega), List.getElem?_eq_none (by simp; omega)]
theorem g_fv_len {ci N i : Nat} : ((List.range N).map (fun q => g_fv ad μ i q (g_ty ci q))).length = N := by simp
theorem go_puti {ci N idx i f : Nat} {C : String} {T : u_T} {x : Int32} (hty : ∀ q, q < N → parseFieldDescriptor (T q).2.2.1 = some (g_ty ci q)) (hds : ∀ a, a < N → ∀ b, b < N → a ≠ b → (T a).2.1 ≠ (T b).2.1) (hc : vwCl[ci]? = some (C, T, N)) (hin : ∀ w ∈ u_ws C T N, w ∈ lw_tbl) (hsh : sh[i]? = some (ci + 4, N)) (hf : f < N) (hw : Cond.fieldLink own idx (T f).1 (T f).2.1 (T f).2.2.1 ∈ lw_tbl) (hfin : (T f).2.2.2 = false) (ht : g_ty ci f = .int) (hd : decode cc pc = .ok (.putfield idx, 3)) (kk : g_go X own nm cc nL ret R Z (pc + 3) l st ad sh (gWI μ i f x) k n) : g_go X own nm cc nL ret R Z pc l (.int x :: .ref (ad i) :: st) ad sh μ k n := by
  intro p la e s m args below meth c H locs ls hx hb hml hown hts hr hlk hnm hE hS hR hlv
  refine va_put hx hb hts (g_inU hin) (g_ty ci) hty hds hown hE.2.1 hR.1 hR.2 hS i (g_wl_at hsh) hc f hf (hts _ (g_in hw rfl)) (fun _ h => h) hfin (v := .int x) (hty f hf) (by rw [ht]; exact rfl) (by rw [ht]; exact rfl) (by rw [g_fv_len]; exact hf) hd (fun H1 locs1 hP hD hS => ?_)
  have e : (g_wl X ad sh μ).set i (ad i, .inr (ci, ((List.range N).map (fun q => g_fv ad μ i q (g_ty ci q))).set f (.int x))) = g_wl X ad sh (gWI μ i f x) := by
    refine g_wl_set hsh (g_ent_put hf (by rw [ht]; simp [g_fv, gWI, gWL]) (fun q hq _ => ?_)) (fun j c' hj => g_ent_ne (fun b => by simp [gWI, gWL, hj]) (fun b => by simp [gWI, gWL, hj]) (fun b => by simp [gWI, gWL]) c')
    cases g_ty ci q <;> simp [g_fv, gWI, gWL, hq]
  rw [e] at hP hD
  exact kk _ _ _ _ _ _ _ _ _ _ _ _ hx hb hml hown hts hr hlk hnm hE hS ⟨hP, hD⟩ hlv
theorem go_putz {ci N idx i f : Nat} {C : String} {T : u_T} {x : Int32} (hty : ∀ q, q < N → parseFieldDescriptor (T q).2.2.1 = some (g_ty ci q)) (hds : ∀ a, a < N → ∀ b, b < N → a ≠ b → (T a).2.1 ≠ (T b).2.1) (hc : vwCl[ci]? = some (C, T, N)) (hin : ∀ w ∈ u_ws C T N, w ∈ lw_tbl) (hsh : sh[i]? = some (ci + 4, N)) (hf : f < N) (hw : Cond.fieldLink own idx (T f).1 (T f).2.1 (T f).2.2.1 ∈ lw_tbl) (hfin : (T f).2.2.2 = false) (ht : g_ty ci f = .boolean) (hz : narrow .boolean (.int x) = .int x) (hz2 : fits .boolean (.int x) = true) (hd : decode cc pc = .ok (.putfield idx, 3)) (kk : g_go X own nm cc nL ret R Z (pc + 3) l st ad sh (gWI μ i f x) k n) : g_go X own nm cc nL ret R Z pc l (.int x :: .ref (ad i) :: st) ad sh μ k n := by
  intro p la e s m args below meth c H locs ls hx hb hml hown hts hr hlk hnm hE hS hR hlv
  refine va_put hx hb hts (g_inU hin) (g_ty ci) hty hds hown hE.2.1 hR.1 hR.2 hS i (g_wl_at hsh) hc f hf (hts _ (g_in hw rfl)) (fun _ h => h) hfin (v := .int x) (hty f hf) (by rw [ht]; exact hz) (by rw [ht]; exact hz2) (by rw [g_fv_len]; exact hf) hd (fun H1 locs1 hP hD hS => ?_)
  have e : (g_wl X ad sh μ).set i (ad i, .inr (ci, ((List.range N).map (fun q => g_fv ad μ i q (g_ty ci q))).set f (.int x))) = g_wl X ad sh (gWI μ i f x) := by
    refine g_wl_set hsh (g_ent_put hf (by rw [ht]; simp [g_fv, gWI, gWL]) (fun q hq _ => ?_)) (fun j c' hj => g_ent_ne (fun b => by simp [gWI, gWL, hj]) (fun b => by simp [gWI, gWL, hj]) (fun b => by simp [gWI, gWL]) c')
    cases g_ty ci q <;> simp [g_fv, gWI, gWL, hq]
  rw [e] at hP hD
  exact kk _ _ _ _ _ _ _ _ _ _ _ _ hx hb hml hown hts hr hlk hnm hE hS ⟨hP, hD⟩ hlv
theorem go_putl {ci N idx i f : Nat} {C : String} {T : u_T} {x : Int64} (hty : ∀ q, q < N → parseFieldDescriptor (T q).2.2.1 = some (g_ty ci q)) (hds : ∀ a, a < N → ∀ b, b < N → a ≠ b → (T a).2.1 ≠ (T b).2.1) (hc : vwCl[ci]? = some (C, T, N)) (hin : ∀ w ∈ u_ws C T N, w ∈ lw_tbl) (hsh : sh[i]? = some (ci + 4, N)) (hf : f < N) (hw : Cond.fieldLink own idx (T f).1 (T f).2.1 (T f).2.2.1 ∈ lw_tbl) (hfin : (T f).2.2.2 = false) (ht : g_ty ci f = .long) (hd : decode cc pc = .ok (.putfield idx, 3)) (kk : g_go X own nm cc nL ret R Z (pc + 3) l st ad sh (gWL μ i f x) k n) : g_go X own nm cc nL ret R Z pc l (.long x :: .ref (ad i) :: st) ad sh μ k n := by
  intro p la e s m args below meth c H locs ls hx hb hml hown hts hr hlk hnm hE hS hR hlv
  refine va_put hx hb hts (g_inU hin) (g_ty ci) hty hds hown hE.2.1 hR.1 hR.2 hS i (g_wl_at hsh) hc f hf (hts _ (g_in hw rfl)) (fun _ h => h) hfin (v := .long x) (hty f hf) (by rw [ht]; exact rfl) (by rw [ht]; exact rfl) (by rw [g_fv_len]; exact hf) hd (fun H1 locs1 hP hD hS => ?_)
  have e : (g_wl X ad sh μ).set i (ad i, .inr (ci, ((List.range N).map (fun q => g_fv ad μ i q (g_ty ci q))).set f (.long x))) = g_wl X ad sh (gWL μ i f x) := by
    refine g_wl_set hsh (g_ent_put hf (by rw [ht]; simp [g_fv, gWI, gWL]) (fun q hq _ => ?_)) (fun j c' hj => g_ent_ne (fun b => by simp [gWI, gWL, hj]) (fun b => by simp [gWI, gWL, hj]) (fun b => by simp [gWI, gWL]) c')
    cases g_ty ci q <;> simp [g_fv, gWI, gWL, hq]
  rw [e] at hP hD
  exact kk _ _ _ _ _ _ _ _ _ _ _ _ hx hb hml hown hts hr hlk hnm hE hS ⟨hP, hD⟩ hlv
theorem go_putNi {ci N idx i f : Nat} {C : String} {T : u_T} {x : Int32} (hty : ∀ q, q < N → parseFieldDescriptor (T q).2.2.1 = some (g_ty ci q)) (hds : ∀ a, a < N → ∀ b, b < N → a ≠ b → (T a).2.1 ≠ (T b).2.1) (hc : vwCl[ci]? = some (C, T, N)) (hin : ∀ w ∈ u_ws C T N, w ∈ lw_tbl) (hsh : sh[i]? = some (ci + 4, N)) (hf : f < N) (hw : Cond.fieldLinkNest own idx (T f).1 (T f).2.1 (T f).2.2.1 RX8 ∈ lw_tbl) (hfin : (T f).2.2.2 = false) (ht : g_ty ci f = .int) (hd : decode cc pc = .ok (.putfield idx, 3)) (kk : g_go X own nm cc nL ret R Z (pc + 3) l st ad sh (gWI μ i f x) k n) : g_go X own nm cc nL ret R Z pc l (.int x :: .ref (ad i) :: st) ad sh μ k n := by
  intro p la e s m args below meth c H locs ls hx hb hml hown hts hr hlk hnm hE hS hR hlv
  refine va_putN hx hb hts (g_inU hin) (g_ty ci) hty hds hown hE.2.1 hR.1 hR.2 hS i (g_wl_at hsh) hc f hf (va_Nw.use rfl (hE.2.2.2.2.1.1 _ hw rfl)) (fun _ h => h) hfin (v := .int x) (hty f hf) (by rw [ht]; exact rfl) (by rw [ht]; exact rfl) (by rw [g_fv_len]; exact hf) hd (fun H1 locs1 hP hD hS => ?_)
  have e : (g_wl X ad sh μ).set i (ad i, .inr (ci, ((List.range N).map (fun q => g_fv ad μ i q (g_ty ci q))).set f (.int x))) = g_wl X ad sh (gWI μ i f x) := by
    refine g_wl_set hsh (g_ent_put hf (by rw [ht]; simp [g_fv, gWI, gWL]) (fun q hq _ => ?_)) (fun j c' hj => g_ent_ne (fun b => by simp [gWI, gWL, hj]) (fun b => by simp [gWI, gWL, hj]) (fun b => by simp [gWI, gWL]) c')
    cases g_ty ci q <;> simp [g_fv, gWI, gWL, hq]
  rw [e] at hP hD
  exact kk _ _ _ _ _ _ _ _ _ _ _ _ hx hb hml hown hts hr hlk hnm hE hS ⟨hP, hD⟩ hlv
theorem go_putNz {ci N idx i f : Nat} {C : String} {T : u_T} {x : Int32} (hty : ∀ q, q < N → parseFieldDescriptor (T q).2.2.1 = some (g_ty ci q)) (hds : ∀ a, a < N → ∀ b, b < N → a ≠ b → (T a).2.1 ≠ (T b).2.1) (hc : vwCl[ci]? = some (C, T, N)) (hin : ∀ w ∈ u_ws C T N, w ∈ lw_tbl) (hsh : sh[i]? = some (ci + 4, N)) (hf : f < N) (hw : Cond.fieldLinkNest own idx (T f).1 (T f).2.1 (T f).2.2.1 RX8 ∈ lw_tbl) (hfin : (T f).2.2.2 = false) (ht : g_ty ci f = .boolean) (hz : narrow .boolean (.int x) = .int x) (hz2 : fits .boolean (.int x) = true) (hd : decode cc pc = .ok (.putfield idx, 3)) (kk : g_go X own nm cc nL ret R Z (pc + 3) l st ad sh (gWI μ i f x) k n) : g_go X own nm cc nL ret R Z pc l (.int x :: .ref (ad i) :: st) ad sh μ k n := by
  intro p la e s m args below meth c H locs ls hx hb hml hown hts hr hlk hnm hE hS hR hlv
  refine va_putN hx hb hts (g_inU hin) (g_ty ci) hty hds hown hE.2.1 hR.1 hR.2 hS i (g_wl_at hsh) hc f hf (va_Nw.use rfl (hE.2.2.2.2.1.1 _ hw rfl)) (fun _ h => h) hfin (v := .int x) (hty f hf) (by rw [ht]; exact hz) (by rw [ht]; exact hz2) (by rw [g_fv_len]; exact hf) hd (fun H1 locs1 hP hD hS => ?_)
  have e : (g_wl X ad sh μ).set i (ad i, .inr (ci, ((List.range N).map (fun q => g_fv ad μ i q (g_ty ci q))).set f (.int x))) = g_wl X ad sh (gWI μ i f x) := by
    refine g_wl_set hsh (g_ent_put hf (by rw [ht]; simp [g_fv, gWI, gWL]) (fun q hq _ => ?_)) (fun j c' hj => g_ent_ne (fun b => by simp [gWI, gWL, hj]) (fun b => by simp [gWI, gWL, hj]) (fun b => by simp [gWI, gWL]) c')
    cases g_ty ci q <;> simp [g_fv, gWI, gWL, hq]
  rw [e] at hP hD
  exact kk _ _ _ _ _ _ _ _ _ _ _ _ hx hb hml hown hts hr hlk hnm hE hS ⟨hP, hD⟩ hlv
theorem go_putNl {ci N idx i f : Nat} {C : String} {T : u_T} {x : Int64} (hty : ∀ q, q < N → parseFieldDescriptor (T q).2.2.1 = some (g_ty ci q)) (hds : ∀ a, a < N → ∀ b, b < N → a ≠ b → (T a).2.1 ≠ (T b).2.1) (hc : vwCl[ci]? = some (C, T, N)) (hin : ∀ w ∈ u_ws C T N, w ∈ lw_tbl) (hsh : sh[i]? = some (ci + 4, N)) (hf : f < N) (hw : Cond.fieldLinkNest own idx (T f).1 (T f).2.1 (T f).2.2.1 RX8 ∈ lw_tbl) (hfin : (T f).2.2.2 = false) (ht : g_ty ci f = .long) (hd : decode cc pc = .ok (.putfield idx, 3)) (kk : g_go X own nm cc nL ret R Z (pc + 3) l st ad sh (gWL μ i f x) k n) : g_go X own nm cc nL ret R Z pc l (.long x :: .ref (ad i) :: st) ad sh μ k n := by
  intro p la e s m args below meth c H locs ls hx hb hml hown hts hr hlk hnm hE hS hR hlv
  refine va_putN hx hb hts (g_inU hin) (g_ty ci) hty hds hown hE.2.1 hR.1 hR.2 hS i (g_wl_at hsh) hc f hf (va_Nw.use rfl (hE.2.2.2.2.1.1 _ hw rfl)) (fun _ h => h) hfin (v := .long x) (hty f hf) (by rw [ht]; exact rfl) (by rw [ht]; exact rfl) (by rw [g_fv_len]; exact hf) hd (fun H1 locs1 hP hD hS => ?_)
  have e : (g_wl X ad sh μ).set i (ad i, .inr (ci, ((List.range N).map (fun q => g_fv ad μ i q (g_ty ci q))).set f (.long x))) = g_wl X ad sh (gWL μ i f x) := by
    refine g_wl_set hsh (g_ent_put hf (by rw [ht]; simp [g_fv, gWI, gWL]) (fun q hq _ => ?_)) (fun j c' hj => g_ent_ne (fun b => by simp [gWI, gWL, hj]) (fun b => by simp [gWI, gWL, hj]) (fun b => by simp [gWI, gWL]) c')
    cases g_ty ci q <;> simp [g_fv, gWI, gWL, hq]
  rw [e] at hP hD
  exact kk _ _ _ _ _ _ _ _ _ _ _ _ hx hb hml hown hts hr hlk hnm hE hS ⟨hP, hD⟩ hlv
theorem go_putFr {ci N idx i f : Nat} {C : String} {T : u_T} {r : Option Nat} (hty : ∀ q, q < N → parseFieldDescriptor (T q).2.2.1 = some (g_ty ci q)) (hds : ∀ a, a < N → ∀ b, b < N → a ≠ b → (T a).2.1 ≠ (T b).2.1) (hc : vwCl[ci]? = some (C, T, N)) (hin : ∀ w ∈ u_ws C T N, w ∈ lw_tbl) (hsh : sh[i]? = some (ci + 4, N)) (hf : f < N) (hw : Cond.fieldLink own idx (T f).1 (T f).2.1 (T f).2.2.1 ∈ lw_tbl) (hfin : (T f).2.2.2 = true) (hnm2 : nm = "<init>") (hdecl : (T f).1 = own) (ht : ((∃ q, g_ty ci f = .object q) ∨ ∃ q, g_ty ci f = .array q)) (hd : decode cc pc = .ok (.putfield idx, 3)) (kk : g_go X own nm cc nL ret R Z (pc + 3) l st ad sh (gWR μ i f r) k n) : g_go X own nm cc nL ret R Z pc l (va_rf (r.map ad) :: .ref (ad i) :: st) ad sh μ k n := by
  intro p la e s m args below meth c H locs ls hx hb hml hown hts hr hlk hnm9 hE hS hR hlv
  refine va_putF hx hb hts (g_inU hin) (g_ty ci) hty hds hown hE.2.1 hR.1 hR.2 hS i (g_wl_at hsh) hc f hf (hts _ (g_in hw rfl)) (fun _ h => h) hfin (hnm9.trans hnm2) hdecl (v := va_rf (r.map ad)) (hty f hf) (by rcases ht with ⟨q, ht⟩ | ⟨q, ht⟩ <;> rw [ht] <;> cases r <;> rfl) (by rcases ht with ⟨q, ht⟩ | ⟨q, ht⟩ <;> rw [ht] <;> cases r <;> rfl) (by rw [g_fv_len]; exact hf) hd (fun H1 locs1 hP hD hS => ?_)
  have e : (g_wl X ad sh μ).set i (ad i, .inr (ci, ((List.range N).map (fun q => g_fv ad μ i q (g_ty ci q))).set f (va_rf (r.map ad)))) = g_wl X ad sh (gWR μ i f r) := by
    refine g_wl_set hsh (g_ent_put hf (by rcases ht with ⟨q, ht⟩ | ⟨q, ht⟩ <;> rw [ht] <;> simp [g_fv, gWR]) (fun q hq _ => ?_)) (fun j c' hj => g_ent_ne (fun b => by simp [gWR]) (fun b => by simp [gWR]) (fun b => by simp [gWR, hj]) c')
    cases g_ty ci q <;> simp [g_fv, gWR, hq]
  rw [e] at hP hD
  exact kk _ _ _ _ _ _ _ _ _ _ _ _ hx hb hml hown hts hr hlk hnm9 hE hS ⟨hP, hD⟩ hlv
theorem go_iald {i N : Nat} {x : Int32} (hsh : sh[i]? = some (0, N)) (hin : vp_in x N) (hd : decode cc pc = .ok (.iaload, 1)) (kk : g_go X own nm cc nL ret R Z (pc + 1) l (.int (μ.1 i x.toNatClampNeg) :: st) ad sh μ k n) : g_go X own nm cc nL ret R Z pc l (.int x :: .ref (ad i) :: st) ad sh μ k n := by
  intro p la e s m args below meth c H locs ls hx hb hml hown hts hr hlk hnm hE hS hR hlv
  exact va_iald hx hb hE.2.1 hR.1 i 0 (f := μ.1 i) (g_wl_at hsh) rfl hin hd (kk _ _ _ _ _ _ _ _ _ _ _ _ hx hb hml hown hts hr hlk hnm hE hS hR hlv)
theorem go_lald {i N : Nat} {x : Int32} (hsh : sh[i]? = some (1, N)) (hin : vp_in x N) (hd : decode cc pc = .ok (.laload, 1)) (kk : g_go X own nm cc nL ret R Z (pc + 1) l (.long (μ.2.1 i x.toNatClampNeg) :: st) ad sh μ k n) : g_go X own nm cc nL ret R Z pc l (.int x :: .ref (ad i) :: st) ad sh μ k n := by
  intro p la e s m args below meth c H locs ls hx hb hml hown hts hr hlk hnm hE hS hR hlv
  exact va_lald hx hb hE.2.1 hR.1 i 1 (f := μ.2.1 i) (g_wl_at hsh) rfl hin hd (kk _ _ _ _ _ _ _ _ _ _ _ _ hx hb hml hown hts hr hlk hnm hE hS hR hlv)
theorem go_zald {i N : Nat} {x : Int32} (hsh : sh[i]? = some (2, N)) (hin : vp_in x N) (hd : decode cc pc = .ok (.baload, 1)) (kk : g_go X own nm cc nL ret R Z (pc + 1) l (.int (μ.1 i x.toNatClampNeg) :: st) ad sh μ k n) : g_go X own nm cc nL ret R Z pc l (.int x :: .ref (ad i) :: st) ad sh μ k n := by
  intro p la e s m args below meth c H locs ls hx hb hml hown hts hr hlk hnm hE hS hR hlv
  exact va_zald hx hb hE.2.1 hR.1 i 2 (f := μ.1 i) (g_wl_at hsh) rfl hin hd (kk _ _ _ _ _ _ _ _ _ _ _ _ hx hb hml hown hts hr hlk hnm hE hS hR hlv)
theorem go_aald {i N r : Nat} {x : Int32} (hsh : sh[i]? = some (3, N)) (hin : vp_in x N) (hr0 : μ.2.2 i x.toNatClampNeg = some r) (hd : decode cc pc = .ok (.aaload, 1)) (kk : g_go X own nm cc nL ret R Z (pc + 1) l (.ref (ad r) :: st) ad sh μ k n) : g_go X own nm cc nL ret R Z pc l (.int x :: .ref (ad i) :: st) ad sh μ k n := by
  intro p la e s m args below meth c H locs ls hx hb hml hown hts hr hlk hnm hE hS hR hlv
  exact va_aldq hx hb hE.2.1 hR.1 i 3 (g_wl_at hsh) rfl hin hd (by show W p la e R s m args below meth c H locs k n _ (F0 m (pc + 1) ls (va_rf ((μ.2.2 i x.toNatClampNeg).map ad) :: st)); rw [hr0]; exact (kk _ _ _ _ _ _ _ _ _ _ _ _ hx hb hml hown hts hr hlk hnm hE hS hR hlv))
theorem go_ilen {i N : Nat} {v : Int32} (hsh : sh[i]? = some (0, N)) (hv : Int32.ofNat N = v) (hd : decode cc pc = .ok (.arraylength, 1)) (kk : g_go X own nm cc nL ret R Z (pc + 1) l (.int v :: st) ad sh μ k n) : g_go X own nm cc nL ret R Z pc l (.ref (ad i) :: st) ad sh μ k n := by
  intro p la e s m args below meth c H locs ls hx hb hml hown hts hr hlk hnm hE hS hR hlv
  exact va_alen hx hb hE.2.1 hR.1 i 0 (g_wl_at hsh) rfl hv hd (kk _ _ _ _ _ _ _ _ _ _ _ _ hx hb hml hown hts hr hlk hnm hE hS hR hlv)
theorem go_llen {i N : Nat} {v : Int32} (hsh : sh[i]? = some (1, N)) (hv : Int32.ofNat N = v) (hd : decode cc pc = .ok (.arraylength, 1)) (kk : g_go X own nm cc nL ret R Z (pc + 1) l (.int v :: st) ad sh μ k n) : g_go X own nm cc nL ret R Z pc l (.ref (ad i) :: st) ad sh μ k n := by
  intro p la e s m args below meth c H locs ls hx hb hml hown hts hr hlk hnm hE hS hR hlv
  exact va_alen hx hb hE.2.1 hR.1 i 1 (g_wl_at hsh) rfl hv hd (kk _ _ _ _ _ _ _ _ _ _ _ _ hx hb hml hown hts hr hlk hnm hE hS hR hlv)
theorem go_iast {i N : Nat} {j : Int32} {x : Int32} (hsh : sh[i]? = some (0, N)) (hin : vp_in j N) (hd : decode cc pc = .ok (.iastore, 1)) (kk : g_go X own nm cc nL ret R Z (pc + 1) l st ad sh (gWI μ i j.toNatClampNeg x) k n) : g_go X own nm cc nL ret R Z pc l (.int x :: .int j :: .ref (ad i) :: st) ad sh μ k n := by
  intro p la e s m args below meth c H locs ls hx hb hml hown hts hr hlk hnm hE hS hR hlv
  refine va_iast hx hb hE.2.1 hR.1 hR.2 hS i 0 (g_wl_at hsh) rfl hin hd (fun H1 locs1 hP hD hS => ?_)
  have e : (g_wl X ad sh μ).set i (ad i, .inl (X.2.2.1 0, N, .inl (upd (μ.1 i) j.toNatClampNeg x))) = g_wl X ad sh (gWI μ i j.toNatClampNeg x) := by
    refine g_wl_set hsh ?_ (fun j' c' hj => g_ent_ne (fun b => by simp [gWI, gWL, hj]) (fun b => by simp [gWI, gWL, hj]) (fun b => by simp [gWI, gWL]) c')
    show Sum.inl (X.2.2.1 0, N, _) = Sum.inl (X.2.2.1 0, N, _)
    refine congrArg (fun z => (Sum.inl (X.2.2.1 0, N, Sum.inl z) : va_E)) ?_
    funext b
    by_cases hb : b = j.toNatClampNeg <;> simp [gWI, gWL, upd, vp_updL, hb]
  rw [show (g_wl X ad sh μ).set i (ad i, .inl (X.2.2.1 0, N, .inl (upd (μ.1 i) j.toNatClampNeg x))) = _ from e] at hP hD
  exact kk _ _ _ _ _ _ _ _ _ _ _ _ hx hb hml hown hts hr hlk hnm hE hS ⟨hP, hD⟩ hlv
theorem go_last {i N : Nat} {j : Int32} {x : Int64} (hsh : sh[i]? = some (1, N)) (hin : vp_in j N) (hd : decode cc pc = .ok (.lastore, 1)) (kk : g_go X own nm cc nL ret R Z (pc + 1) l st ad sh (gWL μ i j.toNatClampNeg x) k n) : g_go X own nm cc nL ret R Z pc l (.long x :: .int j :: .ref (ad i) :: st) ad sh μ k n := by
  intro p la e s m args below meth c H locs ls hx hb hml hown hts hr hlk hnm hE hS hR hlv
  refine va_last hx hb hE.2.1 hR.1 hR.2 hS i 1 (g_wl_at hsh) rfl hin hd (fun H1 locs1 hP hD hS => ?_)
  have e : (g_wl X ad sh μ).set i (ad i, .inl (X.2.2.1 1, N, .inr (.inl (vp_updL (μ.2.1 i) j.toNatClampNeg x)))) = g_wl X ad sh (gWL μ i j.toNatClampNeg x) := by
    refine g_wl_set hsh ?_ (fun j' c' hj => g_ent_ne (fun b => by simp [gWI, gWL, hj]) (fun b => by simp [gWI, gWL, hj]) (fun b => by simp [gWI, gWL]) c')
    show Sum.inl (X.2.2.1 1, N, _) = Sum.inl (X.2.2.1 1, N, _)
    refine congrArg (fun z => (Sum.inl (X.2.2.1 1, N, Sum.inr (Sum.inl z)) : va_E)) ?_
    funext b
    by_cases hb : b = j.toNatClampNeg <;> simp [gWI, gWL, upd, vp_updL, hb]
  rw [show (g_wl X ad sh μ).set i (ad i, .inl (X.2.2.1 1, N, .inr (.inl (vp_updL (μ.2.1 i) j.toNatClampNeg x)))) = _ from e] at hP hD
  exact kk _ _ _ _ _ _ _ _ _ _ _ _ hx hb hml hown hts hr hlk hnm hE hS ⟨hP, hD⟩ hlv
theorem go_zast {i N : Nat} {j : Int32} {x : Int32} (hsh : sh[i]? = some (2, N)) (hin : vp_in j N) (hd : decode cc pc = .ok (.bastore, 1)) (kk : g_go X own nm cc nL ret R Z (pc + 1) l st ad sh (gWI μ i j.toNatClampNeg (vp_nar .boolean x)) k n) : g_go X own nm cc nL ret R Z pc l (.int x :: .int j :: .ref (ad i) :: st) ad sh μ k n := by
  intro p la e s m args below meth c H locs ls hx hb hml hown hts hr hlk hnm hE hS hR hlv
  refine va_zast hx hb hE.2.1 hR.1 hR.2 hS i 2 (g_wl_at hsh) rfl hin hd (fun H1 locs1 hP hD hS => ?_)
  have e : (g_wl X ad sh μ).set i (ad i, .inl (X.2.2.1 2, N, .inl (upd (μ.1 i) j.toNatClampNeg (vp_nar .boolean x)))) = g_wl X ad sh (gWI μ i j.toNatClampNeg (vp_nar .boolean x)) := by
    refine g_wl_set hsh ?_ (fun j' c' hj => g_ent_ne (fun b => by simp [gWI, gWL, hj]) (fun b => by simp [gWI, gWL, hj]) (fun b => by simp [gWI, gWL]) c')
    show Sum.inl (X.2.2.1 2, N, _) = Sum.inl (X.2.2.1 2, N, _)
    refine congrArg (fun z => (Sum.inl (X.2.2.1 2, N, Sum.inl z) : va_E)) ?_
    funext b
    by_cases hb : b = j.toNatClampNeg <;> simp [gWI, gWL, upd, vp_updL, hb]
  rw [show (g_wl X ad sh μ).set i (ad i, .inl (X.2.2.1 2, N, .inl (upd (μ.1 i) j.toNatClampNeg (vp_nar .boolean x)))) = _ from e] at hP hD
  exact kk _ _ _ _ _ _ _ _ _ _ _ _ hx hb hml hown hts hr hlk hnm hE hS ⟨hP, hD⟩ hlv
theorem go_copyi {i j N N' idx : Nat} {sp dp z : Int32} (hi : sh[i]? = some (0, N)) (hj : sh[j]? = some (0, N')) (hw : Cond.methodLink own idx ⟨RJ10, "arraycopy", "(Ljava/lang/Object;ILjava/lang/Object;II)V"⟩ ∈ lw_tbl) (h1 : ¬ sp < 0) (h2 : ¬ dp < 0) (h3 : ¬ z < 0) (h4 : sp.toNatClampNeg + z.toNatClampNeg ≤ N) (h5 : dp.toNatClampNeg + z.toNatClampNeg ≤ N') (hdep : 1 ≤ R.frames ∧ 60 ≤ R.locals) (hst : (st.map fun v => v.category).sum = 0) (hd : decode cc pc = .ok (.invokestatic idx, 3)) (kk : g_go X own nm cc nL ret R Z (pc + 3) l st ad sh (gCI μ i j sp.toNatClampNeg dp.toNatClampNeg z.toNatClampNeg) k n) : g_go X own nm cc nL ret R Z pc l (.int z :: .int dp :: .ref (ad j) :: .int sp :: .ref (ad i) :: st) ad sh μ k n := by
  intro p la e s m args below meth c H locs ls hx hb hml hown hts hr hlk hnm hE hS hR hlv
  have hnf : nativeFrameWords "java/lang/System" "arraycopy" 5 + 11 ≤ 60 := by decide +kernel
  have hroom : (st.map fun v => v.category).sum + (nativeFrameWords "java/lang/System" "arraycopy" 5 + 11) ≤ R.locals := by
    rw [hst]
    have := hdep.2
    omega
  refine va_copyi hx hb (hml.trans hlv.1.symm) hown (hts _ (g_in hw rfl)) (hts _ (g_in tw_372 rfl)) (hts _ (g_in tw_371 rfl)) (hts _ (g_in tw_81 rfl)) hE.2.1 hR.1 hR.2 hS i j 0 0 (g_wl_at hi) (g_wl_at hj) rfl rfl rfl h1 h2 h3 h4 h5 (fun _ _ => rfl) hdep.1 hroom hd (fun H1 locs1 hP hD hS => ?_)
  have e : (g_wl X ad sh μ).set j (ad j, .inl (X.2.2.1 0, N', .inl (va_cpy (μ.1 i) (μ.1 j) sp.toNatClampNeg dp.toNatClampNeg z.toNatClampNeg))) = g_wl X ad sh (gCI μ i j sp.toNatClampNeg dp.toNatClampNeg z.toNatClampNeg) := by
    refine g_wl_set hj ?_ (fun j' c' hne => g_ent_ne (fun b => by simp [gCI, gCJ, hne]) (fun b => by simp [gCI, gCJ, hne]) (fun b => by simp [gCI, gCJ]) c')
    show Sum.inl (X.2.2.1 0, N', _) = Sum.inl (X.2.2.1 0, N', _)
    refine congrArg (fun z => (Sum.inl (X.2.2.1 0, N', Sum.inl z) : va_E)) ?_
    funext b
    simp [gCI, gCJ, va_cpy]
  rw [show (g_wl X ad sh μ).set j (ad j, .inl (X.2.2.1 0, N', .inl (va_cpy (μ.1 i) (μ.1 j) sp.toNatClampNeg dp.toNatClampNeg z.toNatClampNeg))) = _ from e] at hP hD
  exact kk _ _ _ _ _ _ _ _ _ _ _ _ hx hb hml hown hts hr hlk hnm hE hS ⟨hP, hD⟩ hlv
theorem go_copyl {i j N N' idx : Nat} {sp dp z : Int32} (hi : sh[i]? = some (1, N)) (hj : sh[j]? = some (1, N')) (hw : Cond.methodLink own idx ⟨RJ10, "arraycopy", "(Ljava/lang/Object;ILjava/lang/Object;II)V"⟩ ∈ lw_tbl) (h1 : ¬ sp < 0) (h2 : ¬ dp < 0) (h3 : ¬ z < 0) (h4 : sp.toNatClampNeg + z.toNatClampNeg ≤ N) (h5 : dp.toNatClampNeg + z.toNatClampNeg ≤ N') (hdep : 1 ≤ R.frames ∧ 60 ≤ R.locals) (hst : (st.map fun v => v.category).sum = 0) (hd : decode cc pc = .ok (.invokestatic idx, 3)) (kk : g_go X own nm cc nL ret R Z (pc + 3) l st ad sh (gCJ μ i j sp.toNatClampNeg dp.toNatClampNeg z.toNatClampNeg) k n) : g_go X own nm cc nL ret R Z pc l (.int z :: .int dp :: .ref (ad j) :: .int sp :: .ref (ad i) :: st) ad sh μ k n := by
  intro p la e s m args below meth c H locs ls hx hb hml hown hts hr hlk hnm hE hS hR hlv
  have hnf : nativeFrameWords "java/lang/System" "arraycopy" 5 + 11 ≤ 60 := by decide +kernel
  have hroom : (st.map fun v => v.category).sum + (nativeFrameWords "java/lang/System" "arraycopy" 5 + 11) ≤ R.locals := by
    rw [hst]
    have := hdep.2
    omega
  refine va_copyl hx hb (hml.trans hlv.1.symm) hown (hts _ (g_in hw rfl)) (hts _ (g_in tw_372 rfl)) (hts _ (g_in tw_371 rfl)) (hts _ (g_in tw_81 rfl)) hE.2.1 hR.1 hR.2 hS i j 1 1 (g_wl_at hi) (g_wl_at hj) rfl rfl rfl h1 h2 h3 h4 h5 (fun _ _ => rfl) hdep.1 hroom hd (fun H1 locs1 hP hD hS => ?_)
  have e : (g_wl X ad sh μ).set j (ad j, .inl (X.2.2.1 1, N', .inr (.inl (va_cpy (μ.2.1 i) (μ.2.1 j) sp.toNatClampNeg dp.toNatClampNeg z.toNatClampNeg)))) = g_wl X ad sh (gCJ μ i j sp.toNatClampNeg dp.toNatClampNeg z.toNatClampNeg) := by
    refine g_wl_set hj ?_ (fun j' c' hne => g_ent_ne (fun b => by simp [gCI, gCJ, hne]) (fun b => by simp [gCI, gCJ, hne]) (fun b => by simp [gCI, gCJ]) c')
    show Sum.inl (X.2.2.1 1, N', _) = Sum.inl (X.2.2.1 1, N', _)
    refine congrArg (fun z => (Sum.inl (X.2.2.1 1, N', Sum.inr (Sum.inl z)) : va_E)) ?_
    funext b
    simp [gCI, gCJ, va_cpy]
  rw [show (g_wl X ad sh μ).set j (ad j, .inl (X.2.2.1 1, N', .inr (.inl (va_cpy (μ.2.1 i) (μ.2.1 j) sp.toNatClampNeg dp.toNatClampNeg z.toNatClampNeg)))) = _ from e] at hP hD
  exact kk _ _ _ _ _ _ _ _ _ _ _ _ hx hb hml hown hts hr hlk hnm hE hS ⟨hP, hD⟩ hlv
theorem go_getsA {idx : Nat} (hw : Cond.fieldLink own idx RX3 "ABOVE" "[I" ∈ lw_tbl) (hd : decode cc pc = .ok (.getstatic idx, 3)) (kk : g_go X own nm cc nL ret R Z (pc + 3) l (.ref (X.2.2.2.1 0) :: st) ad sh μ k n) : g_go X own nm cc nL ret R Z pc l (st) ad sh μ k n := by
  intro p la e s m args below meth c H locs ls hx hb hml hown hts hr hlk hnm hE hS hR hlv
  exact va_gets hx hb hE.2.2.1.1.1 hS hown (hts _ (g_in hw rfl)) (fun _ h => h) hd (kk _ _ _ _ _ _ _ _ _ _ _ _ hx hb hml hown hts hr hlk hnm hE hS hR hlv)
theorem go_taldA {x : Int32} (hin : vp_in x 7) (hd : decode cc pc = .ok (.iaload, 1)) (kk : g_go X own nm cc nL ret R Z (pc + 1) l (.int (g_tA x.toNatClampNeg) :: st) ad sh μ k n) : g_go X own nm cc nL ret R Z pc l (.int x :: .ref (X.2.2.2.1 0) :: st) ad sh μ k n := by
  intro p la e s m args below meth c H locs ls hx hb hml hown hts hr hlk hnm hE hS hR hlv
  exact va_ti hx hb hE.2.2.1.1.2 hS hin rfl hd (kk _ _ _ _ _ _ _ _ _ _ _ _ hx hb hml hown hts hr hlk hnm hE hS hR hlv)
theorem go_tlenA {v : Int32} (hv : Int32.ofNat 7 = v) (hd : decode cc pc = .ok (.arraylength, 1)) (kk : g_go X own nm cc nL ret R Z (pc + 1) l (.int v :: st) ad sh μ k n) : g_go X own nm cc nL ret R Z pc l (.ref (X.2.2.2.1 0) :: st) ad sh μ k n := by
  intro p la e s m args below meth c H locs ls hx hb hml hown hts hr hlk hnm hE hS hR hlv
  exact va_tlen hx hb hE.2.2.1.1.2 hS hv hd (kk _ _ _ _ _ _ _ _ _ _ _ _ hx hb hml hown hts hr hlk hnm hE hS hR hlv)
theorem go_getsO {idx : Nat} (hw : Cond.fieldLink own idx RX0 "ORDERS" "[I" ∈ lw_tbl) (hd : decode cc pc = .ok (.getstatic idx, 3)) (kk : g_go X own nm cc nL ret R Z (pc + 3) l (.ref (X.2.2.2.1 1) :: st) ad sh μ k n) : g_go X own nm cc nL ret R Z pc l (st) ad sh μ k n := by
  intro p la e s m args below meth c H locs ls hx hb hml hown hts hr hlk hnm hE hS hR hlv
  exact va_gets hx hb hE.2.2.1.2.1.1 hS hown (hts _ (g_in hw rfl)) (fun _ h => h) hd (kk _ _ _ _ _ _ _ _ _ _ _ _ hx hb hml hown hts hr hlk hnm hE hS hR hlv)
theorem go_taldO {x : Int32} (hin : vp_in x 7) (hd : decode cc pc = .ok (.iaload, 1)) (kk : g_go X own nm cc nL ret R Z (pc + 1) l (.int (g_tO x.toNatClampNeg) :: st) ad sh μ k n) : g_go X own nm cc nL ret R Z pc l (.int x :: .ref (X.2.2.2.1 1) :: st) ad sh μ k n := by
  intro p la e s m args below meth c H locs ls hx hb hml hown hts hr hlk hnm hE hS hR hlv
  exact va_ti hx hb hE.2.2.1.2.1.2 hS hin rfl hd (kk _ _ _ _ _ _ _ _ _ _ _ _ hx hb hml hown hts hr hlk hnm hE hS hR hlv)
theorem go_tlenO {v : Int32} (hv : Int32.ofNat 7 = v) (hd : decode cc pc = .ok (.arraylength, 1)) (kk : g_go X own nm cc nL ret R Z (pc + 1) l (.int v :: st) ad sh μ k n) : g_go X own nm cc nL ret R Z pc l (.ref (X.2.2.2.1 1) :: st) ad sh μ k n := by
  intro p la e s m args below meth c H locs ls hx hb hml hown hts hr hlk hnm hE hS hR hlv
  exact va_tlen hx hb hE.2.2.1.2.1.2 hS hv hd (kk _ _ _ _ _ _ _ _ _ _ _ _ hx hb hml hown hts hr hlk hnm hE hS hR hlv)
theorem go_getsB {idx : Nat} (hw : Cond.fieldLink own idx RX1 "BODIES" "[I" ∈ lw_tbl) (hd : decode cc pc = .ok (.getstatic idx, 3)) (kk : g_go X own nm cc nL ret R Z (pc + 3) l (.ref (X.2.2.2.1 2) :: st) ad sh μ k n) : g_go X own nm cc nL ret R Z pc l (st) ad sh μ k n := by
  intro p la e s m args below meth c H locs ls hx hb hml hown hts hr hlk hnm hE hS hR hlv
  exact va_gets hx hb hE.2.2.1.2.2.1.1 hS hown (hts _ (g_in hw rfl)) (fun _ h => h) hd (kk _ _ _ _ _ _ _ _ _ _ _ _ hx hb hml hown hts hr hlk hnm hE hS hR hlv)
theorem go_taldB {x : Int32} (hin : vp_in x 21) (hd : decode cc pc = .ok (.iaload, 1)) (kk : g_go X own nm cc nL ret R Z (pc + 1) l (.int (g_tB x.toNatClampNeg) :: st) ad sh μ k n) : g_go X own nm cc nL ret R Z pc l (.int x :: .ref (X.2.2.2.1 2) :: st) ad sh μ k n := by
  intro p la e s m args below meth c H locs ls hx hb hml hown hts hr hlk hnm hE hS hR hlv
  exact va_ti hx hb hE.2.2.1.2.2.1.2 hS hin rfl hd (kk _ _ _ _ _ _ _ _ _ _ _ _ hx hb hml hown hts hr hlk hnm hE hS hR hlv)
theorem go_tlenB {v : Int32} (hv : Int32.ofNat 21 = v) (hd : decode cc pc = .ok (.arraylength, 1)) (kk : g_go X own nm cc nL ret R Z (pc + 1) l (.int v :: st) ad sh μ k n) : g_go X own nm cc nL ret R Z pc l (.ref (X.2.2.2.1 2) :: st) ad sh μ k n := by
  intro p la e s m args below meth c H locs ls hx hb hml hown hts hr hlk hnm hE hS hR hlv
  exact va_tlen hx hb hE.2.2.1.2.2.1.2 hS hv hd (kk _ _ _ _ _ _ _ _ _ _ _ _ hx hb hml hown hts hr hlk hnm hE hS hR hlv)
theorem go_getsC {idx : Nat} (hw : Cond.fieldLink own idx RJ0 "COMPACT_STRINGS" "Z" ∈ lw_tbl) (hd : decode cc pc = .ok (.getstatic idx, 3)) (kk : g_go X own nm cc nL ret R Z (pc + 3) l (.int 1 :: st) ad sh μ k n) : g_go X own nm cc nL ret R Z pc l (st) ad sh μ k n := by
  intro p la e s m args below meth c H locs ls hx hb hml hown hts hr hlk hnm hE hS hR hlv
  exact va_gets hx hb hE.2.2.1.2.2.2.1 hS hown (hts _ (g_in hw rfl)) (fun _ h => h) hd (kk _ _ _ _ _ _ _ _ _ _ _ _ hx hb hml hown hts hr hlk hnm hE hS hR hlv)
theorem go_getsF {idx : Nat} (hw : Cond.fieldLink own idx RJ3 "SIOOBE_FORMATTER" "Ljava/util/function/BiFunction;" ∈ lw_tbl) (hd : decode cc pc = .ok (.getstatic idx, 3)) (kk : g_go X own nm cc nL ret R Z (pc + 3) l (va_rf X.2.2.2.2.1 :: st) ad sh μ k n) : g_go X own nm cc nL ret R Z pc l (st) ad sh μ k n := by
  intro p la e s m args below meth c H locs ls hx hb hml hown hts hr hlk hnm hE hS hR hlv
  exact va_gets hx hb hE.2.2.1.2.2.2.2.1 hS hown (hts _ (g_in hw rfl)) (fun _ h => h) hd (kk _ _ _ _ _ _ _ _ _ _ _ _ hx hb hml hown hts hr hlk hnm hE hS hR hlv)
theorem go_iret {mc ms : Nat} {Φ : Option Value → (Nat → Nat) → gSh → gM → Prop} {v : Int32} (hd : decode cc pc = .ok (.ireturn, 1)) (hr0 : ret = some .int) (hΦ : Φ (some (.int v)) ad sh μ) : g_go X own nm cc nL ret R (g_Z X mc ms Φ) pc l ([.int v]) ad sh μ mc ms := by
  intro p la e s m args below meth c H locs ls hx hb hml hown hts hr hlk hnm hE hS hR hlv
  exact W.iret hx hb (hr.trans hr0) (fun t ht _ => ⟨_, ad, sh, μ, rfl, hΦ, by rw [ht]; exact hR, hS.F ht⟩) hS.2.2 hd hlk
theorem go_zret {mc ms : Nat} {Φ : Option Value → (Nat → Nat) → gSh → gM → Prop} {v : Int32} {ty : FieldType} (hd : decode cc pc = .ok (.ireturn, 1)) (hr0 : ret = some ty) (hz : narrow ty (.int v) = .int v) (hΦ : Φ (some (.int v)) ad sh μ) : g_go X own nm cc nL ret R (g_Z X mc ms Φ) pc l ([.int v]) ad sh μ mc ms := by
  intro p la e s m args below meth c H locs ls hx hb hml hown hts hr hlk hnm hE hS hR hlv
  exact W.zret hx hb (hr.trans hr0) hz (fun t ht _ => ⟨_, ad, sh, μ, rfl, hΦ, by rw [ht]; exact hR, hS.F ht⟩) hS.2.2 hd hlk
theorem go_lret {mc ms : Nat} {Φ : Option Value → (Nat → Nat) → gSh → gM → Prop} {v : Int64} (hd : decode cc pc = .ok (.lreturn, 1)) (hr0 : ret = some .long) (hΦ : Φ (some (.long v)) ad sh μ) : g_go X own nm cc nL ret R (g_Z X mc ms Φ) pc l ([.long v]) ad sh μ mc ms := by
  intro p la e s m args below meth c H locs ls hx hb hml hown hts hr hlk hnm hE hS hR hlv
  exact W.lret hx hb (hr.trans hr0) (fun t ht _ => ⟨_, ad, sh, μ, rfl, hΦ, by rw [ht]; exact hR, hS.F ht⟩) hS.2.2 hd hlk
theorem go_vret {mc ms : Nat} {Φ : Option Value → (Nat → Nat) → gSh → gM → Prop} (hd : decode cc pc = .ok (.return_, 1)) (hr0 : ret = none) (hΦ : Φ (none) ad sh μ) : g_go X own nm cc nL ret R (g_Z X mc ms Φ) pc l ([]) ad sh μ mc ms := by
  intro p la e s m args below meth c H locs ls hx hb hml hown hts hr hlk hnm hE hS hR hlv
  exact W.vret hx hb (hr.trans hr0) (fun t ht _ => ⟨_, ad, sh, μ, rfl, hΦ, by rw [ht]; exact hR, hS.F ht⟩) hS.2.2 hd hlk
theorem go_aret {mc ms : Nat} {Φ : Option Value → (Nat → Nat) → gSh → gM → Prop} {q : Nat} {o : String} (hd : decode cc pc = .ok (.areturn, 1)) (hr0 : ret = some (.object o)) (hΦ : Φ (some (.ref q)) ad sh μ) : g_go X own nm cc nL ret R (g_Z X mc ms Φ) pc l ([.ref q]) ad sh μ mc ms := by
  intro p la e s m args below meth c H locs ls hx hb hml hown hts hr hlk hnm hE hS hR hlv
  exact W.aret hx hb (hr.trans hr0) (Or.inl ⟨o, rfl⟩) (Or.inr ⟨q, rfl⟩) (fun t ht _ => ⟨_, ad, sh, μ, rfl, hΦ, by rw [ht]; exact hR, hS.F ht⟩) hS.2.2 hd hlk
theorem go_widen {k' n' : Nat} (h1 : k ≤ k') (h2 : n ≤ n') (kk : g_go X own nm cc nL ret R Z pc l st ad sh μ k' n') : g_go X own nm cc nL ret R Z pc l st ad sh μ k n := by
  intro p la e s m args below meth c H locs ls hx hb hml hown hts hr hlk hnm hE hS hR hlv
  exact W.widen h1 h2 (kk _ _ _ _ _ _ _ _ _ _ _ _ hx hb hml hown hts hr hlk hnm hE hS hR hlv)
theorem g_callx {p : Program} {la : Launch} {e : Env} {R : Room} {s : State} {m : MethodId} {args a : Array Value} {below : List Frame} {meth : Method} {c : Code} {H : Heap} {locs : List Loc} {ls : Array Slot} {Q : State → Prop} {Ψ : Option Value → (Nat → Nat) → gSh → gM → Prop} {mc' ms' : Nat} {st0 : List Value} (hr : va_Run p la e R s m args below meth c H locs k n mc' ms' (F0 m pc ls st0) st (g_Q X Ψ a) (g_A X)) (hS : va_S (g_A X) s.heap H locs)
    (kk : ∀ (v : Option Value) (ad' : Nat → Nat) (sh' : gSh) (μ' : gM) (H1 : Heap) (locs1 : List Loc), Ψ v ad' sh' μ' → g_rep X ad' sh' μ' H1 → va_S (g_A X) s.heap H1 locs1 → W p la e R s m args below meth c H1 locs1 (k + mc') (n + ms') Q (F0 m (pc + 3) ls (v.toList ++ st))) : W p la e R s m args below meth c H locs k n Q (F0 m pc ls st0) := by
  intro T hT Y
  obtain ⟨v, st₀, t, T', L, h0, Y', hL, e1, e2, ⟨w, ad', sh', μ', hv, hΨ, hR, hz, hk⟩, stp⟩ := hr T hT Y
  cases hv
  rw [h0] at hz hk
  obtain ⟨t2, a1, b1⟩ := kk v ad' sh' μ' T'.heap (locs ++ L) hΨ (by rw [e1]; exact hR)
    ⟨Nat.le_trans hS.1 (by rw [e1]; exact hz), fun q h1 h2 => by rw [e1, hk q (Nat.lt_of_lt_of_le h1 hS.1) h2]; exact hS.2.1 q h1 h2, fun q hq => by
      rcases List.mem_append.mp hq with h | h
      · exact hS.2.2 q h
      · exact hL q h⟩ T' rfl Y'
  exact ⟨t2, stp t2 a1, b1⟩
theorem g_blind {X : gX} {av : List Value} {ad : Nat → Nat} {sh : gSh} {μ : gM} : FrameBlind (va_Pc av (fun U => g_rep X ad sh μ U.heap ∧ g_env X U U.heap)) := by
  intro a U g mk q
  obtain ⟨q0, q1, q2⟩ := q
  exact ⟨q0, q1, g_env_same (u := U) rfl rfl q2⟩
theorem go_callS {y : MethodName} {cy : ByteArray} {nLy idx np d' mc' ms' : Nat} {rety : Option FieldType} {As : List Value} {Ψ : Option Value → (Nat → Nat) → gSh → gM → Prop} (hcal : g_ct X y cy nLy rety d' mc' ms' (As) ad sh μ Ψ) (hw : Cond.methodLink own idx y ∈ lw_tbl) (hst : Cond.static y ∈ lw_tbl) (hcode : Cond.code y cy nLy rety ∈ lw_tbl) (hini : Cond.initialized y.cls ∈ lw_tbl) (hd0 : y.cls ≠ "java/lang/invoke/MethodHandle" ∧ y.cls ≠ "java/lang/invoke/VarHandle" ∧ (parseMethodDescriptor y.desc).map (fun d => d.parameters.length) = some np) (hnl : nLy ≤ 41) (hdd : d' + 1 ≤ R.frames ∧ 60 * d' + 60 ≤ R.locals) (hnp : As.length = np) (hW : (st.map fun v => v.category).sum ≤ 8) (hroom : k + mc' ≤ R.cells ∧ n + ms' ≤ R.slots) (hd : decode cc pc = .ok (.invokestatic idx, 3)) (kk : ∀ (v : Option Value) (ad' : Nat → Nat) (sh' : gSh) (μ' : gM), Ψ v ad' sh' μ' → g_go X own nm cc nL ret R Z (pc + 3) l (v.toList ++ st) ad' sh' μ' (k + mc') (n + ms')) : g_go X own nm cc nL ret R Z pc l (As.reverse ++ st) ad sh μ k n := by
  intro p la e s m args below meth c H locs ls hx hb hml hown hts hr hlk hnm hE hS hR hlv
  refine g_callx (va_runS ⟨hx, hb, hml, hown, hts⟩ (hcal la) ⟨callB_of np hts (g_goodIn hcode) rfl rfl rfl (hts _ (g_in hini rfl)) (hts _ (g_in hw rfl)) hd0 ⟨hdd.1, by have := hdd.2; show 8 + (nLy + 11) + 60 * d' ≤ R.locals; omega⟩, hts _ (g_in hst rfl)⟩ ⟨g_blind, fun U hU hWm => ⟨rfl, by rw [hU]; exact hR, g_env_go hE hS hU hWm⟩⟩ rfl hnp (hlv.1.trans rfl) rfl (lv_room hW) hd hroom) hS (fun v ad' sh' μ' H1 locs1 hΨ hR hS => ?_)
  exact kk v ad' sh' μ' hΨ _ _ _ _ _ _ _ _ _ _ _ _ hx hb hml hown hts hr hlk hnm hE hS hR hlv
theorem go_callSN {y : MethodName} {cy : ByteArray} {nLy idx np d' mc' ms' : Nat} {rety : Option FieldType} {As : List Value} {Ψ : Option Value → (Nat → Nat) → gSh → gM → Prop} (hcal : g_ct X y cy nLy rety d' mc' ms' (As) ad sh μ Ψ) (hw : Cond.methodLinkNest own idx y RX8 ∈ lw_tbl) (hst : Cond.static y ∈ lw_tbl) (hcode : Cond.code y cy nLy rety ∈ lw_tbl) (hini : Cond.initialized y.cls ∈ lw_tbl) (hd0 : y.cls ≠ "java/lang/invoke/MethodHandle" ∧ y.cls ≠ "java/lang/invoke/VarHandle" ∧ (parseMethodDescriptor y.desc).map (fun d => d.parameters.length) = some np) (hnl : nLy ≤ 41) (hdd : d' + 1 ≤ R.frames ∧ 60 * d' + 60 ≤ R.locals) (hnp : As.length = np) (hW : (st.map fun v => v.category).sum ≤ 8) (hroom : k + mc' ≤ R.cells ∧ n + ms' ≤ R.slots) (hd : decode cc pc = .ok (.invokestatic idx, 3)) (kk : ∀ (v : Option Value) (ad' : Nat → Nat) (sh' : gSh) (μ' : gM), Ψ v ad' sh' μ' → g_go X own nm cc nL ret R Z (pc + 3) l (v.toList ++ st) ad' sh' μ' (k + mc') (n + ms')) : g_go X own nm cc nL ret R Z pc l (As.reverse ++ st) ad sh μ k n := by
  intro p la e s m args below meth c H locs ls hx hb hml hown hts hr hlk hnm hE hS hR hlv
  refine g_callx (va_runSN ⟨hx, hb, hml, hown, hts⟩ (hcal la) ⟨va_cnB np hts (g_goodIn hcode) rfl rfl rfl (hE.2.2.2.2.1.1 _ hw rfl) (hts _ (g_in hini rfl)) hd0 ⟨hdd.1, by have := hdd.2; show 8 + (nLy + 11) + 60 * d' ≤ R.locals; omega⟩, hts _ (g_in hst rfl), trivial⟩ ⟨g_blind, fun U hU hWm => ⟨rfl, by rw [hU]; exact hR, g_env_go hE hS hU hWm⟩⟩ rfl hnp (hlv.1.trans rfl) rfl (lv_room hW) hd hroom) hS (fun v ad' sh' μ' H1 locs1 hΨ hR hS => ?_)
  exact kk v ad' sh' μ' hΨ _ _ _ _ _ _ _ _ _ _ _ _ hx hb hml hown hts hr hlk hnm hE hS hR hlv
theorem go_callV {y : MethodName} {cy : ByteArray} {nLy idx np d' mc' ms' : Nat} {rety : Option FieldType} {As : List Value} {Ψ : Option Value → (Nat → Nat) → gSh → gM → Prop} {b : Nat} {C : String} (hrecv : ∀ {s : State} {H : Heap} {locs : List Loc}, g_env X s s.heap → va_S (g_A X) s.heap H locs → g_rep X ad sh μ H → ∃ cell : Cell, H[b]? = some cell ∧ cell.vm.isStatics = false ∧ s.vm.findClass C = some cell.cls) (hcal : g_ct X y cy nLy rety d' mc' ms' (.ref b :: As) ad sh μ Ψ) (hw : Cond.methodLink own idx y ∈ lw_tbl) (hst : Cond.instanceMethod y ∈ lw_tbl) (hse : Cond.selects C y y ∈ lw_tbl) (hcode : Cond.code y cy nLy rety ∈ lw_tbl) (hini : Cond.initialized y.cls ∈ lw_tbl) (hd0 : y.cls ≠ "java/lang/invoke/MethodHandle" ∧ y.cls ≠ "java/lang/invoke/VarHandle" ∧ (parseMethodDescriptor y.desc).map (fun d => d.parameters.length) = some np) (hnl : nLy ≤ 41) (hdd : d' + 1 ≤ R.frames ∧ 60 * d' + 60 ≤ R.locals) (hnp : As.length = np) (hW : (st.map fun v => v.category).sum ≤ 8) (hroom : k + mc' ≤ R.cells ∧ n + ms' ≤ R.slots) (hd : decode cc pc = .ok (.invokevirtual idx, 3)) (kk : ∀ (v : Option Value) (ad' : Nat → Nat) (sh' : gSh) (μ' : gM), Ψ v ad' sh' μ' → g_go X own nm cc nL ret R Z (pc + 3) l (v.toList ++ st) ad' sh' μ' (k + mc') (n + ms')) : g_go X own nm cc nL ret R Z pc l (As.reverse ++ .ref b :: st) ad sh μ k n := by
  intro p la e s m args below meth c H locs ls hx hb hml hown hts hr hlk hnm hE hS hR hlv
  refine g_callx (va_runV ⟨hx, hb, hml, hown, hts⟩ (hcal la) ⟨callB_of np hts (g_goodIn hcode) rfl rfl rfl (hts _ (g_in hini rfl)) (hts _ (g_in hw rfl)) hd0 ⟨hdd.1, by have := hdd.2; show 8 + (nLy + 11) + 60 * d' ≤ R.locals; omega⟩, hts _ (g_in hst rfl), hts _ (g_in hse rfl)⟩ ⟨g_blind, hrecv hE hS hR, fun U hU hWm => ⟨rfl, by rw [hU]; exact hR, g_env_go hE hS hU hWm⟩⟩ rfl hnp (hlv.1.trans rfl) rfl (lv_room hW) hd hroom) hS (fun v ad' sh' μ' H1 locs1 hΨ hR hS => ?_)
  exact kk v ad' sh' μ' hΨ _ _ _ _ _ _ _ _ _ _ _ _ hx hb hml hown hts hr hlk hnm hE hS hR hlv
theorem go_callI {y : MethodName} {cy : ByteArray} {nLy idx np d' mc' ms' : Nat} {As : List Value} {Ψ : Option Value → (Nat → Nat) → gSh → gM → Prop} {b : Nat} (hcal : g_ct X y cy nLy none d' mc' ms' (.ref b :: As) ad sh μ Ψ) (hw : Cond.methodLink own idx y ∈ lw_tbl) (hst : Cond.instanceMethod y ∈ lw_tbl) (hyn : y.name = "<init>") (hcode : Cond.code y cy nLy none ∈ lw_tbl) (hini : Cond.initialized y.cls ∈ lw_tbl) (hd0 : y.cls ≠ "java/lang/invoke/MethodHandle" ∧ y.cls ≠ "java/lang/invoke/VarHandle" ∧ (parseMethodDescriptor y.desc).map (fun d => d.parameters.length) = some np) (hnl : nLy ≤ 41) (hdd : d' + 1 ≤ R.frames ∧ 60 * d' + 60 ≤ R.locals) (hnp : As.length = np) (hW : (st.map fun v => v.category).sum ≤ 8) (hroom : k + mc' ≤ R.cells ∧ n + ms' ≤ R.slots) (hd : decode cc pc = .ok (.invokespecial idx, 3)) (kk : ∀ (v : Option Value) (ad' : Nat → Nat) (sh' : gSh) (μ' : gM), Ψ v ad' sh' μ' → g_go X own nm cc nL ret R Z (pc + 3) l (v.toList ++ st) ad' sh' μ' (k + mc') (n + ms')) : g_go X own nm cc nL ret R Z pc l (As.reverse ++ .ref b :: st) ad sh μ k n := by
  intro p la e s m args below meth c H locs ls hx hb hml hown hts hr hlk hnm hE hS hR hlv
  refine g_callx (va_runI ⟨hx, hb, hml, hown, hts⟩ (hcal la) ⟨callB_of np hts (g_goodIn hcode) rfl rfl rfl (hts _ (g_in hini rfl)) (hts _ (g_in hw rfl)) hd0 ⟨hdd.1, by have := hdd.2; show 8 + (nLy + 11) + 60 * d' ≤ R.locals; omega⟩, hyn, hts _ (g_in hst rfl)⟩ ⟨g_blind, fun U hU hWm => ⟨rfl, by rw [hU]; exact hR, g_env_go hE hS hU hWm⟩⟩ rfl hnp (hlv.1.trans rfl) rfl (lv_room hW) hd hroom) hS (fun v ad' sh' μ' H1 locs1 hΨ hR hS => ?_)
  exact kk v ad' sh' μ' hΨ _ _ _ _ _ _ _ _ _ _ _ _ hx hb hml hown hts hr hlk hnm hE hS hR hlv
theorem go_callIN {y : MethodName} {cy : ByteArray} {nLy idx np d' mc' ms' : Nat} {As : List Value} {Ψ : Option Value → (Nat → Nat) → gSh → gM → Prop} {b : Nat} (hcal : g_ct X y cy nLy none d' mc' ms' (.ref b :: As) ad sh μ Ψ) (hw : Cond.methodLinkNest own idx y RX8 ∈ lw_tbl) (hst : Cond.instanceMethod y ∈ lw_tbl) (hyn : y.name = "<init>") (hcode : Cond.code y cy nLy none ∈ lw_tbl) (hini : Cond.initialized y.cls ∈ lw_tbl) (hd0 : y.cls ≠ "java/lang/invoke/MethodHandle" ∧ y.cls ≠ "java/lang/invoke/VarHandle" ∧ (parseMethodDescriptor y.desc).map (fun d => d.parameters.length) = some np) (hnl : nLy ≤ 41) (hdd : d' + 1 ≤ R.frames ∧ 60 * d' + 60 ≤ R.locals) (hnp : As.length = np) (hW : (st.map fun v => v.category).sum ≤ 8) (hroom : k + mc' ≤ R.cells ∧ n + ms' ≤ R.slots) (hd : decode cc pc = .ok (.invokespecial idx, 3)) (kk : ∀ (v : Option Value) (ad' : Nat → Nat) (sh' : gSh) (μ' : gM), Ψ v ad' sh' μ' → g_go X own nm cc nL ret R Z (pc + 3) l (v.toList ++ st) ad' sh' μ' (k + mc') (n + ms')) : g_go X own nm cc nL ret R Z pc l (As.reverse ++ .ref b :: st) ad sh μ k n := by
  intro p la e s m args below meth c H locs ls hx hb hml hown hts hr hlk hnm hE hS hR hlv
  refine g_callx (va_runIN ⟨hx, hb, hml, hown, hts⟩ (hcal la) ⟨va_cnB np hts (g_goodIn hcode) rfl rfl rfl (hE.2.2.2.2.1.1 _ hw rfl) (hts _ (g_in hini rfl)) hd0 ⟨hdd.1, by have := hdd.2; show 8 + (nLy + 11) + 60 * d' ≤ R.locals; omega⟩, hyn, hts _ (g_in hst rfl)⟩ ⟨g_blind, fun U hU hWm => ⟨rfl, by rw [hU]; exact hR, g_env_go hE hS hU hWm⟩⟩ rfl hnp (hlv.1.trans rfl) rfl (lv_room hW) hd hroom) hS (fun v ad' sh' μ' H1 locs1 hΨ hR hS => ?_)
  exact kk v ad' sh' μ' hΨ _ _ _ _ _ _ _ _ _ _ _ _ hx hb hml hown hts hr hlk hnm hE hS hR hlv
theorem hdd_of {d d' mc ms : Nat} (h : d' + 1 ≤ d) : d' + 1 ≤ (g_room d mc ms).frames ∧ 60 * d' + 60 ≤ (g_room d mc ms).locals := ⟨h, by show 60 * d' + 60 ≤ 60 * d; omega⟩
theorem g_fv_ad {ad' : Nat → Nat} {μ μ' : gM} {i q : Nat} {t : FieldType} (h1 : μ'.1 i q = μ.1 i q) (h2 : μ'.2.1 i q = μ.2.1 i q) (h3 : (μ'.2.2 i q).map ad' = (μ.2.2 i q).map ad) : g_fv ad' μ' i q t = g_fv ad μ i q t := by
  cases t <;> simp only [g_fv, h1, h2, h3]
theorem g_ent_ad {ad' : Nat → Nat} {μ μ' : gM} {j : Nat} (h1 : ∀ b, μ'.1 j b = μ.1 j b) (h2 : ∀ b, μ'.2.1 j b = μ.2.1 j b) (h3 : ∀ b, (μ'.2.2 j b).map ad' = (μ.2.2 j b).map ad) (c : Nat × Nat) : g_ent X ad' μ' j c = g_ent X ad μ j c := by
  have e1 : μ'.1 j = μ.1 j := funext h1
  have e2 : μ'.2.1 j = μ.2.1 j := funext h2
  have e3 : (fun b => (μ'.2.2 j b).map ad') = (fun b => (μ.2.2 j b).map ad) := funext h3
  obtain ⟨c1, c2⟩ := c
  have hf : ∀ (k : Nat) (t : FieldType), g_fv ad' μ' j k t = g_fv ad μ j k t := fun k t => g_fv_ad (h1 k) (h2 k) (h3 k)
  unfold g_ent
  split <;> simp only [e1, e2, e3, hf]
/-- references point only to cells that are there -/
def g_cl0 (sh : gSh) (μ : gM) : Prop := ∀ i k r, i < sh.length → μ.2.2 i k = some r → r < sh.length
theorem g_cl0_map {ad' : Nat → Nat} {sh : gSh} {μ : gM} (h : g_cl0 sh μ) (he : ∀ i, i < sh.length → ad' i = ad i) {i k : Nat} (hi : i < sh.length) : (μ.2.2 i k).map ad' = (μ.2.2 i k).map ad := by
  cases hr : μ.2.2 i k with
  | none => rfl
  | some r => simp [he r (h i k r hi hr)]
theorem g_up {ad : Nat → Nat} {n q : Nat} : ∀ i, i < n → (fun j => if j = n then q else ad j) i = ad i := fun i hi => by simp [Nat.ne_of_lt hi]
theorem g_push {ad' : Nat → Nat} {sh : gSh} {μ : gM} {q : Nat} {c : Nat × Nat} {x : va_E} {H : Heap} (hcl : g_cl0 sh μ) (he : ∀ i, i < sh.length → ad' i = ad i) (hq : ad' sh.length = q) (hx : g_ent X ad' (gCL μ sh.length) sh.length c = x) (hP : va_P X.2.1 vwCl (g_wl X ad sh μ ++ [(q, x)]) H) (hD : va_D (g_A X) (g_wl X ad sh μ ++ [(q, x)])) : g_rep X ad' (sh ++ [c]) (gCL μ sh.length) H := by
  have e : g_wl X ad sh μ ++ [(q, x)] = g_wl X ad' (sh ++ [c]) (gCL μ sh.length) := g_wl_push hq hx he (fun j c' hj => by
    have hl : j < sh.length := (List.getElem?_eq_some_iff.mp hj).1
    have hne : j ≠ sh.length := Nat.ne_of_lt hl
    exact g_ent_ad (fun b => by simp [gCL, hne]) (fun b => by simp [gCL, hne]) (fun b => by rw [show (gCL μ sh.length).2.2 j b = μ.2.2 j b by simp [gCL, hne]]; exact g_cl0_map hcl he hl) c')
  exact ⟨by rw [← e]; exact hP, by rw [← e]; exact hD⟩
theorem go_new {ci N idx : Nat} {C : String} {T : u_T} (hcl : g_cl0 sh μ) (hc : vwCl[ci]? = some (C, T, N)) (hin : ∀ w ∈ u_ws C T N, w ∈ lw_tbl) (hty : ∀ q, q < N → parseFieldDescriptor (T q).2.2.1 = some (g_ty ci q)) (hw : Cond.classLink own idx C ∈ lw_tbl) (hw2 : Cond.instantiable C N ∈ lw_tbl) (hw3 : Cond.initialized C ∈ lw_tbl) (hdf : ∀ q, q < N → defaultValue (g_ty ci q) = g_fv ad (fun _ _ => 0, fun _ _ => 0, fun _ _ => none) 0 0 (g_ty ci q)) (hroom : k + 1 ≤ R.cells ∧ n + N ≤ R.slots) (hd : decode cc pc = .ok (.new idx, 3)) (kk : ∀ ad' : Nat → Nat, (∀ i, i < sh.length → ad' i = ad i) → g_go X own nm cc nL ret R Z (pc + 3) l (.ref (ad' sh.length) :: st) ad' (sh ++ [(ci + 4, N)]) (gCL μ sh.length) (k + 1) (n + N)) : g_go X own nm cc nL ret R Z pc l st ad sh μ k n := by
  intro p la e s m args below meth c H locs ls hx hb hml hown hts hr hlk hnm hE hS hR hlv
  have hdv : ∀ (ad' : Nat → Nat) (j : Nat), j < N → g_fv ad' (gCL μ sh.length) sh.length j (g_ty ci j) = defaultValue (g_ty ci j) := by
    intro ad' j hj
    rw [hdf j hj]
    cases g_ty ci j <;> simp [g_fv, gCL, va_rf]
  refine va_new (fs := (List.range N).map (fun q => g_fv ad (gCL μ sh.length) sh.length q (g_ty ci q))) hx hb hts (g_inU hin) (g_ty ci) hty hown (hts _ (g_in hw rfl)) (hts _ (g_in hw2 rfl)) (hts _ (g_in hw3 rfl)) hE.2.1 hR.1 hR.2 hS (fun q h => Nat.le_trans hE.1 h) hc (fun j hj => ?_) hroom.1 hroom.2 hd (fun q H1 hP hD hS => ?_)
  · rw [← hdv ad j hj]
    simp [vp_V, hj]
  · have hz := kk (fun j => if j = sh.length then q else ad j) g_up
    simp only [if_pos rfl] at hz
    refine hz _ _ _ _ _ _ _ _ _ _ _ _ hx hb hml hown hts hr hlk hnm hE hS (g_push hcl g_up (by simp) ?_ hP hD) hlv
    show Sum.inr (ci, _) = Sum.inr (ci, _)
    congr 2
    refine List.map_congr_left (fun j hj => ?_)
    have hj2 : j < N := List.mem_range.mp hj
    exact (hdv _ j hj2).trans (hdv _ j hj2).symm
theorem go_objInit {i idx : Nat} (hw : Cond.methodLink own idx objectInit ∈ lw_tbl) (hw2 : Cond.instanceMethod objectInit ∈ lw_tbl) (hw3 : Cond.code objectInit ⟨#[0xb1]⟩ 1 none ∈ lw_tbl) (hdep : 1 ≤ R.frames ∧ 60 ≤ R.locals) (hst : (st.map fun v => v.category).sum ≤ 8) (hd : decode cc pc = .ok (.invokespecial idx, 3)) (kk : g_go X own nm cc nL ret R Z (pc + 3) l st ad sh μ k n) : g_go X own nm cc nL ret R Z pc l (.ref i :: st) ad sh μ k n := by
  intro p la e s m args below meth c H locs ls hx hb hml hown hts hr hlk hnm hE hS hR hlv
  refine W.objInit hx hb hown (hts _ (g_in hw rfl)) (hts _ (g_in hw2 rfl)) (hts _ (g_in hw3 rfl)) rfl (hlv.1.trans hml.symm) rfl hd hdep.1 ?_ ?_
  · have := hdep.2
    show 2 * 0 + _ + 12 ≤ _
    omega
  · exact kk _ _ _ _ _ _ _ _ _ _ _ _ hx hb hml hown hts hr hlk hnm hE hS hR hlv
theorem go_newaI {z : Int32} {N : Nat} (hcl : g_cl0 sh μ) (hw : Cond.arrayClass .int ∈ lw_tbl) (hz : ¬ z < 0) (hN : z.toNatClampNeg = N) (hb9 : N * componentBytes .int ≤ 536870912) (hroom : k + 1 ≤ R.cells ∧ n + N ≤ R.slots) (hd : decode cc pc = .ok (.newarray .int, 2)) (kk : ∀ ad' : Nat → Nat, (∀ i, i < sh.length → ad' i = ad i) → g_go X own nm cc nL ret R Z (pc + 2) l (.ref (ad' sh.length) :: st) ad' (sh ++ [(0, N)]) (gCL μ sh.length) (k + 1) (n + N)) : g_go X own nm cc nL ret R Z pc l (.int z :: st) ad sh μ k n := by
  intro p la e s m args below meth c H locs ls hx hb hml hown hts hr hlk hnm hE hS hR hlv
  refine va_newa (atype := .int) (ty := .int) (a0 := (N, .inl (fun _ => 0))) hx hb (hts _ (g_in hw rfl)) rfl hE.2.1 hR.1 hR.2 hS (fun q h => Nat.le_trans hE.1 h) (fun cA => rfl) hz hN hb9 hroom.1 hroom.2 hd (fun q cA H1 hK hP hD hS => ?_)
  have hcA : cA = X.2.2.1 0 := by
    have h1 := (hK.2 (g_tys X).length (cA, .int) (by simp)).2
    have h2 := (hE.2.1.2 0 (X.2.2.1 0, .int) rfl).2
    exact Option.some.inj (h1.symm.trans h2)
  subst hcA
  have hz2 := kk (fun j => if j = sh.length then q else ad j) g_up
  simp only [if_pos rfl] at hz2
  refine hz2 _ _ _ _ _ _ _ _ _ _ _ _ hx hb hml hown hts hr hlk hnm hE hS (g_push hcl g_up (by simp) ?_ hP hD) hlv
  show Sum.inl (X.2.2.1 0, N, _) = Sum.inl (X.2.2.1 0, N, _)
  refine congrArg (fun z => (Sum.inl (X.2.2.1 0, N, Sum.inl z) : va_E)) ?_
  funext b
  simp [gCL]
theorem go_newaJ {z : Int32} {N : Nat} (hcl : g_cl0 sh μ) (hw : Cond.arrayClass .long ∈ lw_tbl) (hz : ¬ z < 0) (hN : z.toNatClampNeg = N) (hb9 : N * componentBytes .long ≤ 536870912) (hroom : k + 1 ≤ R.cells ∧ n + N ≤ R.slots) (hd : decode cc pc = .ok (.newarray .long, 2)) (kk : ∀ ad' : Nat → Nat, (∀ i, i < sh.length → ad' i = ad i) → g_go X own nm cc nL ret R Z (pc + 2) l (.ref (ad' sh.length) :: st) ad' (sh ++ [(1, N)]) (gCL μ sh.length) (k + 1) (n + N)) : g_go X own nm cc nL ret R Z pc l (.int z :: st) ad sh μ k n := by
  intro p la e s m args below meth c H locs ls hx hb hml hown hts hr hlk hnm hE hS hR hlv
  refine va_newa (atype := .long) (ty := .long) (a0 := (N, .inr (.inl (fun _ => 0)))) hx hb (hts _ (g_in hw rfl)) rfl hE.2.1 hR.1 hR.2 hS (fun q h => Nat.le_trans hE.1 h) (fun cA => rfl) hz hN hb9 hroom.1 hroom.2 hd (fun q cA H1 hK hP hD hS => ?_)
  have hcA : cA = X.2.2.1 1 := by
    have h1 := (hK.2 (g_tys X).length (cA, .long) (by simp)).2
    have h2 := (hE.2.1.2 1 (X.2.2.1 1, .long) rfl).2
    exact Option.some.inj (h1.symm.trans h2)
  subst hcA
  have hz2 := kk (fun j => if j = sh.length then q else ad j) g_up
  simp only [if_pos rfl] at hz2
  refine hz2 _ _ _ _ _ _ _ _ _ _ _ _ hx hb hml hown hts hr hlk hnm hE hS (g_push hcl g_up (by simp) ?_ hP hD) hlv
  show Sum.inl (X.2.2.1 1, N, _) = Sum.inl (X.2.2.1 1, N, _)
  refine congrArg (fun z => (Sum.inl (X.2.2.1 1, N, Sum.inr (Sum.inl z)) : va_E)) ?_
  funext b
  simp [gCL]
theorem go_newaZ {z : Int32} {N : Nat} (hcl : g_cl0 sh μ) (hw : Cond.arrayClass .boolean ∈ lw_tbl) (hz : ¬ z < 0) (hN : z.toNatClampNeg = N) (hb9 : N * componentBytes .boolean ≤ 536870912) (hroom : k + 1 ≤ R.cells ∧ n + N ≤ R.slots) (hd : decode cc pc = .ok (.newarray .boolean, 2)) (kk : ∀ ad' : Nat → Nat, (∀ i, i < sh.length → ad' i = ad i) → g_go X own nm cc nL ret R Z (pc + 2) l (.ref (ad' sh.length) :: st) ad' (sh ++ [(2, N)]) (gCL μ sh.length) (k + 1) (n + N)) : g_go X own nm cc nL ret R Z pc l (.int z :: st) ad sh μ k n := by
  intro p la e s m args below meth c H locs ls hx hb hml hown hts hr hlk hnm hE hS hR hlv
  refine va_newa (atype := .boolean) (ty := .boolean) (a0 := (N, .inl (fun _ => 0))) hx hb (hts _ (g_in hw rfl)) rfl hE.2.1 hR.1 hR.2 hS (fun q h => Nat.le_trans hE.1 h) (fun cA => rfl) hz hN hb9 hroom.1 hroom.2 hd (fun q cA H1 hK hP hD hS => ?_)
  have hcA : cA = X.2.2.1 2 := by
    have h1 := (hK.2 (g_tys X).length (cA, .boolean) (by simp)).2
    have h2 := (hE.2.1.2 2 (X.2.2.1 2, .boolean) rfl).2
    exact Option.some.inj (h1.symm.trans h2)
  subst hcA
  have hz2 := kk (fun j => if j = sh.length then q else ad j) g_up
  simp only [if_pos rfl] at hz2
  refine hz2 _ _ _ _ _ _ _ _ _ _ _ _ hx hb hml hown hts hr hlk hnm hE hS (g_push hcl g_up (by simp) ?_ hP hD) hlv
  show Sum.inl (X.2.2.1 2, N, _) = Sum.inl (X.2.2.1 2, N, _)
  refine congrArg (fun z => (Sum.inl (X.2.2.1 2, N, Sum.inl z) : va_E)) ?_
  funext b
  simp [gCL]
theorem go_newaS {z : Int32} {N idx : Nat} (hcl : g_cl0 sh μ) (hw : Cond.classLink own idx RX6 ∈ lw_tbl) (hz : ¬ z < 0) (hN : z.toNatClampNeg = N) (hb9 : N * 4 ≤ 536870912) (hroom : k + 1 ≤ R.cells ∧ n + N ≤ R.slots) (hd : decode cc pc = .ok (.anewarray idx, 3)) (kk : ∀ ad' : Nat → Nat, (∀ i, i < sh.length → ad' i = ad i) → g_go X own nm cc nL ret R Z (pc + 3) l (.ref (ad' sh.length) :: st) ad' (sh ++ [(3, N)]) (gCL μ sh.length) (k + 1) (n + N)) : g_go X own nm cc nL ret R Z pc l (.int z :: st) ad sh μ k n := by
  intro p la e s m args below meth c H locs ls hx hb hml hown hts hr hlk hnm hE hS hR hlv
  refine va_newq hx hb hown (hts _ (g_in hw rfl)) hE.2.2.2.2.1.2 hE.2.1 hR.1 hR.2 hS (fun q h => Nat.le_trans hE.1 h) hz hN hb9 hroom.1 hroom.2 hd (fun q cA H1 hK hP hD hS => ?_)
  have hcA : cA = X.2.2.1 3 := by
    obtain ⟨_, _, _, _, _, h1⟩ := (hK.2 (g_tys X).length (cA, .object RX6) (by simp)).2
    obtain ⟨_, _, _, _, _, h2⟩ := (hE.2.1.2 3 (X.2.2.1 3, .object RX6) rfl).2
    exact Option.some.inj (h1.symm.trans h2)
  subst hcA
  have hz2 := kk (fun j => if j = sh.length then q else ad j) g_up
  simp only [if_pos rfl] at hz2
  refine hz2 _ _ _ _ _ _ _ _ _ _ _ _ hx hb hml hown hts hr hlk hnm hE hS (g_push hcl g_up (by simp) ?_ hP hD) hlv
  show Sum.inl (X.2.2.1 3, N, _) = Sum.inl (X.2.2.1 3, N, _)
  refine congrArg (fun z => (Sum.inl (X.2.2.1 3, N, Sum.inr (Sum.inr (Sum.inr (Sum.inr z)))) : va_E)) ?_
  funext b
  simp [gCL]
theorem go_aast {i N r : Nat} {j : Int32} {c0 : Nat} (hsh : sh[i]? = some (3, N)) (hin : vp_in j N) (hr9 : sh[r]? = some (4 + 4, 3)) (hd : decode cc pc = .ok (.aastore, 1)) (kk : g_go X own nm cc nL ret R Z (pc + 1) l st ad sh (gWR μ i j.toNatClampNeg (some r)) k n) : g_go X own nm cc nL ret R Z pc l (.ref (ad r) :: .int j :: .ref (ad i) :: st) ad sh μ k n := by
  intro p la e s m args below meth c H locs ls hx hb hml hown hts hr hlk hnm hE hS hR hlv
  refine va_astq hx hb hE.2.1 hR.1 hR.2 hS i 3 r 4 (r := (RX6, TX6, 3)) (g_wl_at hsh) rfl (g_wl_at hr9) rfl hin hd (fun H1 locs1 hP hD hS => ?_)
  have e : (g_wl X ad sh μ).set i (ad i, .inl (X.2.2.1 3, N, .inr (.inr (.inr (.inr (va_up (fun j => (μ.2.2 i j).map ad) j.toNatClampNeg (some (ad r)))))))) = g_wl X ad sh (gWR μ i j.toNatClampNeg (some r)) := by
    refine g_wl_set hsh ?_ (fun j' c' hj => g_ent_ne (fun b => by simp [gWR]) (fun b => by simp [gWR]) (fun b => by simp [gWR, hj]) c')
    show Sum.inl (X.2.2.1 3, N, _) = Sum.inl (X.2.2.1 3, N, _)
    refine congrArg (fun z => (Sum.inl (X.2.2.1 3, N, Sum.inr (Sum.inr (Sum.inr (Sum.inr z)))) : va_E)) ?_
    funext b
    by_cases hb : b = j.toNatClampNeg <;> simp [gWR, va_up, hb]
  rw [show (g_wl X ad sh μ).set i (ad i, .inl (X.2.2.1 3, N, .inr (.inr (.inr (.inr (va_up (fun j => (μ.2.2 i j).map ad) j.toNatClampNeg (some (ad r)))))))) = _ from e] at hP hD
  exact kk _ _ _ _ _ _ _ _ _ _ _ _ hx hb hml hown hts hr hlk hnm hE hS ⟨hP, hD⟩ hlv
theorem go_sld {x : Int32} (hin : vp_in x X.2.2.2.2.2.2.1) (hd : decode cc pc = .ok (.iaload, 1)) (kk : g_go X own nm cc nL ret R Z (pc + 1) l (.int (X.2.2.2.2.2.2.2 x.toNatClampNeg) :: st) ad sh μ k n) : g_go X own nm cc nL ret R Z pc l (.int x :: .ref X.2.2.2.2.2.1 :: st) ad sh μ k n := by
  intro p la e s m args below meth c H locs ls hx hb hml hown hts hr hlk hnm hE hS hR hlv
  exact va_sld hx hb hE.2.2.2.2.2.1 (Nat.lt_of_lt_of_le hE.2.2.2.2.2.2 hE.1) (Nat.not_le.mpr hE.2.2.2.2.2.2) hS hin hd (kk _ _ _ _ _ _ _ _ _ _ _ _ hx hb hml hown hts hr hlk hnm hE hS hR hlv)
theorem go_slen (hd : decode cc pc = .ok (.arraylength, 1)) (kk : g_go X own nm cc nL ret R Z (pc + 1) l (.int (nI X.2.2.2.2.2.2.1) :: st) ad sh μ k n) : g_go X own nm cc nL ret R Z pc l (.ref X.2.2.2.2.2.1 :: st) ad sh μ k n := by
  intro p la e s m args below meth c H locs ls hx hb hml hown hts hr hlk hnm hE hS hR hlv
  exact va_slen hx hb hE.2.2.2.2.2.1 (Nat.lt_of_lt_of_le hE.2.2.2.2.2.2 hE.1) (Nat.not_le.mpr hE.2.2.2.2.2.2) hS hd (kk _ _ _ _ _ _ _ _ _ _ _ _ hx hb hml hown hts hr hlk hnm hE hS hR hlv)
theorem g_recv {ci N i : Nat} {C : String} {T : u_T} (hc : vwCl[ci]? = some (C, T, N)) (hsh : sh[i]? = some (ci + 4, N)) : ∀ {s : State} {H : Heap} {locs : List Loc}, g_env X s s.heap → va_S (g_A X) s.heap H locs → g_rep X ad sh μ H → ∃ cell : Cell, H[ad i]? = some cell ∧ cell.vm.isStatics = false ∧ s.vm.findClass C = some cell.cls := by
  intro s H locs hE hS hR
  exact va_recv hE.2.1 hR.1 hc (g_wl_at hsh)
theorem g_recvS {i : Nat} (hi : i < 7) : ∀ {s : State} {H : Heap} {locs : List Loc}, g_env X s s.heap → va_S (g_A X) s.heap H locs → g_rep X ad sh μ H → ∃ cell : Cell, H[X.2.2.2.1 (10 + i)]? = some cell ∧ cell.vm.isStatics = false ∧ s.vm.findClass RJ0 = some cell.cls := by
  intro s H locs hE hS hR
  exact vk_recv (adK := fun i => X.2.2.2.1 (10 + i)) (i := i) hE.2.2.1.2.2.2.2.2 hi hS
end GO
