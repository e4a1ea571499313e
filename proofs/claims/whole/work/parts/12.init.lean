theorem kz_bipush_31 : (Int8.ofInt 31).toInt32 = 31 := by decide
theorem kz_bipush_96 : (Int8.ofInt 96).toInt32 = 96 := by decide
theorem kz_sipush_1280 : (Int16.ofInt 1280).toInt32 = 1280 := by decide
def g_okT : FieldType → Bool
  | .float => false
  | .double => false
  | _ => true
theorem dv_ok {ad : Nat → Nat} {t : FieldType} (h : g_okT t = true) : defaultValue t = g_fv ad (fun _ _ => 0, fun _ _ => 0, fun _ _ => none) 0 0 t := by
  cases t <;> first | rfl | (simp [g_okT] at h)
def M0 : gM := (fun _ _ => 0, fun _ _ => 0, fun _ _ => none)
theorem cl_WI {s : gSh} {μ : gM} {i k : Nat} {x : Int32} (h : g_cl0 s μ) : g_cl0 s (gWI μ i k x) := h
theorem cl_WL {s : gSh} {μ : gM} {i k : Nat} {x : Int64} (h : g_cl0 s μ) : g_cl0 s (gWL μ i k x) := h
theorem cl_WR {s : gSh} {μ : gM} {i k r : Nat} (h : g_cl0 s μ) (hr : r < s.length) : g_cl0 s (gWR μ i k (some r)) := by
  intro a b q ha hq
  by_cases hc : a = i ∧ b = k
  · simp only [gWR, if_pos hc] at hq
    cases hq
    exact hr
  · simp only [gWR, if_neg hc] at hq
    exact h a b q ha hq
theorem cl_push {s : gSh} {μ : gM} {c : Nat × Nat} (h : g_cl0 s μ) : g_cl0 (s ++ [c]) (gCL μ s.length) := by
  intro a b q ha hq
  rw [List.length_append] at ha ⊢
  by_cases hc : a = s.length
  · simp only [gCL, if_pos hc] at hq
    cases hq
  · simp only [gCL, if_neg hc] at hq
    have h1 : a < s.length := by simp only [List.length_cons, List.length_nil] at ha; omega
    have := h a b q h1 hq
    omega
def c_Φ (n0 : Nat) (ad : Nat → Nat) (sh1 : gSh) (μ1 : gM) : Option Value → (Nat → Nat) → gSh → gM → Prop := fun v ad' sh' μ' => v = none ∧ (∀ i, i < n0 → ad' i = ad i) ∧ sh' = sh1 ∧ μ' = μ1 ∧ g_cl0 sh1 μ1
def C_X4 (p : Nat) (μ : gM) : gM := gWI (gWI (gWI (gWI (gWI (gWL (gWI (gWR (gCL (gWR (gCL (gWR (gCL (gWR (gCL (gWR (gCL (gWR (gCL (μ) (p + 1)) p 0 (some (p + 1))) (p + 2)) p 1 (some (p + 2))) (p + 3)) p 2 (some (p + 3))) (p + 4)) p 3 (some (p + 4))) (p + 5)) p 4 (some (p + 5))) (p + 6)) p 5 (some (p + 6))) p 6 0) p 7 0) p 8 2) p 9 20) p 10 0) p 11 0) p 12 1
theorem me_X4_init : g_me yX4_init cX4_init 1 none 0 := ⟨tw_103, tw_73, ⟨by decide +kernel, by decide +kernel, by decide +kernel⟩, by decide⟩
set_option maxRecDepth 20000 in
set_option maxHeartbeats 4000000 in
theorem i_X4_init_1 {X : gX} {ad : Nat → Nat} (μ : gM) (hcl : g_cl0 (SH.take 2) (μ)) : g_ct X yX4_init cX4_init 1 none 2 6 42 [.ref (ad 1)] ad (SH.take 2) (μ) (c_Φ 2 ad (SH.take 8) (C_X4 1 μ)) := by
  refine g_ct_of (l := [(0, .ref (ad 1))]) (by decide) (Nat.le_of_ble_eq_true rfl) rfl ?_
  refine go_aload_n rfl 0 rfl dX4_init_0 ?_
  refine go_objInit tw_104 tw_97 tw_98 (by decide) (Nat.le_of_ble_eq_true rfl) dX4_init_1 ?_
  refine go_aload_n rfl 0 rfl dX4_init_4 ?_
  refine go_bipush kz_bipush_7 dX4_init_5 ?_
  refine go_newaI (N := 7) hcl tw_170 (by decide) (by decide) (by decide) (by decide) dX4_init_7 (fun ad1 he1 => ?_)
  rw [← he1 1 (by decide)]
  have hcl1 : g_cl0 (SH.take 3) (gCL (μ) 2) := cl_push hcl
  change g_go X _ _ _ _ _ _ _ 9 [(0, .ref (ad1 1))] [.ref (ad1 2), .ref (ad1 1)] ad1 (SH.take 3) (gCL (μ) 2) 1 7
  refine go_putFr (ci := 2) (i := 1) (f := 0) (r := some 2) cl2.2.2.1 cl2.2.2.2 cl2.1 inX4 rfl (by decide) tw_105 rfl rfl rfl (Or.inr ⟨_, rfl⟩) dX4_init_9 ?_
  have hcl2 : g_cl0 (SH.take 3) (gWR (gCL (μ) 2) 1 0 (some 2)) := cl_WR hcl1 (by decide)
  change g_go X _ _ _ _ _ _ _ 12 [(0, .ref (ad1 1))] [] ad1 (SH.take 3) (gWR (gCL (μ) 2) 1 0 (some 2)) 1 7
  refine go_aload_n rfl 0 rfl dX4_init_12 ?_
  refine go_bipush kz_bipush_7 dX4_init_13 ?_
  refine go_newaI (N := 7) hcl2 tw_170 (by decide) (by decide) (by decide) (by decide) dX4_init_15 (fun ad2 he2 => ?_)
  rw [← he2 1 (by decide)]
  have hcl3 : g_cl0 (SH.take 4) (gCL (gWR (gCL (μ) 2) 1 0 (some 2)) 3) := cl_push hcl2
  change g_go X _ _ _ _ _ _ _ 17 [(0, .ref (ad2 1))] [.ref (ad2 3), .ref (ad2 1)] ad2 (SH.take 4) (gCL (gWR (gCL (μ) 2) 1 0 (some 2)) 3) 2 14
  refine go_putFr (ci := 2) (i := 1) (f := 1) (r := some 3) cl2.2.2.1 cl2.2.2.2 cl2.1 inX4 rfl (by decide) tw_108 rfl rfl rfl (Or.inr ⟨_, rfl⟩) dX4_init_17 ?_
  have hcl4 : g_cl0 (SH.take 4) (gWR (gCL (gWR (gCL (μ) 2) 1 0 (some 2)) 3) 1 1 (some 3)) := cl_WR hcl3 (by decide)
  change g_go X _ _ _ _ _ _ _ 20 [(0, .ref (ad2 1))] [] ad2 (SH.take 4) (gWR (gCL (gWR (gCL (μ) 2) 1 0 (some 2)) 3) 1 1 (some 3)) 2 14
  refine go_aload_n rfl 0 rfl dX4_init_20 ?_
  refine go_bipush kz_bipush_7 dX4_init_21 ?_
  refine go_newaI (N := 7) hcl4 tw_170 (by decide) (by decide) (by decide) (by decide) dX4_init_23 (fun ad3 he3 => ?_)
  rw [← he3 1 (by decide)]
  have hcl5 : g_cl0 (SH.take 5) (gCL (gWR (gCL (gWR (gCL (μ) 2) 1 0 (some 2)) 3) 1 1 (some 3)) 4) := cl_push hcl4
  change g_go X _ _ _ _ _ _ _ 25 [(0, .ref (ad3 1))] [.ref (ad3 4), .ref (ad3 1)] ad3 (SH.take 5) (gCL (gWR (gCL (gWR (gCL (μ) 2) 1 0 (some 2)) 3) 1 1 (some 3)) 4) 3 21
  refine go_putFr (ci := 2) (i := 1) (f := 2) (r := some 4) cl2.2.2.1 cl2.2.2.2 cl2.1 inX4 rfl (by decide) tw_112 rfl rfl rfl (Or.inr ⟨_, rfl⟩) dX4_init_25 ?_
  have hcl6 : g_cl0 (SH.take 5) (gWR (gCL (gWR (gCL (gWR (gCL (μ) 2) 1 0 (some 2)) 3) 1 1 (some 3)) 4) 1 2 (some 4)) := cl_WR hcl5 (by decide)
  change g_go X _ _ _ _ _ _ _ 28 [(0, .ref (ad3 1))] [] ad3 (SH.take 5) (gWR (gCL (gWR (gCL (gWR (gCL (μ) 2) 1 0 (some 2)) 3) 1 1 (some 3)) 4) 1 2 (some 4)) 3 21
  refine go_aload_n rfl 0 rfl dX4_init_28 ?_
  refine go_bipush kz_bipush_7 dX4_init_29 ?_
  refine go_newaI (N := 7) hcl6 tw_170 (by decide) (by decide) (by decide) (by decide) dX4_init_31 (fun ad4 he4 => ?_)
  rw [← he4 1 (by decide)]
  have hcl7 : g_cl0 (SH.take 6) (gCL (gWR (gCL (gWR (gCL (gWR (gCL (μ) 2) 1 0 (some 2)) 3) 1 1 (some 3)) 4) 1 2 (some 4)) 5) := cl_push hcl6
  change g_go X _ _ _ _ _ _ _ 33 [(0, .ref (ad4 1))] [.ref (ad4 5), .ref (ad4 1)] ad4 (SH.take 6) (gCL (gWR (gCL (gWR (gCL (gWR (gCL (μ) 2) 1 0 (some 2)) 3) 1 1 (some 3)) 4) 1 2 (some 4)) 5) 4 28
  refine go_putFr (ci := 2) (i := 1) (f := 3) (r := some 5) cl2.2.2.1 cl2.2.2.2 cl2.1 inX4 rfl (by decide) tw_115 rfl rfl rfl (Or.inr ⟨_, rfl⟩) dX4_init_33 ?_
  have hcl8 : g_cl0 (SH.take 6) (gWR (gCL (gWR (gCL (gWR (gCL (gWR (gCL (μ) 2) 1 0 (some 2)) 3) 1 1 (some 3)) 4) 1 2 (some 4)) 5) 1 3 (some 5)) := cl_WR hcl7 (by decide)
  change g_go X _ _ _ _ _ _ _ 36 [(0, .ref (ad4 1))] [] ad4 (SH.take 6) (gWR (gCL (gWR (gCL (gWR (gCL (gWR (gCL (μ) 2) 1 0 (some 2)) 3) 1 1 (some 3)) 4) 1 2 (some 4)) 5) 1 3 (some 5)) 4 28
  refine go_aload_n rfl 0 rfl dX4_init_36 ?_
  refine go_bipush kz_bipush_7 dX4_init_37 ?_
  refine go_newaI (N := 7) hcl8 tw_170 (by decide) (by decide) (by decide) (by decide) dX4_init_39 (fun ad5 he5 => ?_)
  rw [← he5 1 (by decide)]
  have hcl9 : g_cl0 (SH.take 7) (gCL (gWR (gCL (gWR (gCL (gWR (gCL (gWR (gCL (μ) 2) 1 0 (some 2)) 3) 1 1 (some 3)) 4) 1 2 (some 4)) 5) 1 3 (some 5)) 6) := cl_push hcl8
  change g_go X _ _ _ _ _ _ _ 41 [(0, .ref (ad5 1))] [.ref (ad5 6), .ref (ad5 1)] ad5 (SH.take 7) (gCL (gWR (gCL (gWR (gCL (gWR (gCL (gWR (gCL (μ) 2) 1 0 (some 2)) 3) 1 1 (some 3)) 4) 1 2 (some 4)) 5) 1 3 (some 5)) 6) 5 35
  refine go_putFr (ci := 2) (i := 1) (f := 4) (r := some 6) cl2.2.2.1 cl2.2.2.2 cl2.1 inX4 rfl (by decide) tw_117 rfl rfl rfl (Or.inr ⟨_, rfl⟩) dX4_init_41 ?_
  have hcl10 : g_cl0 (SH.take 7) (gWR (gCL (gWR (gCL (gWR (gCL (gWR (gCL (gWR (gCL (μ) 2) 1 0 (some 2)) 3) 1 1 (some 3)) 4) 1 2 (some 4)) 5) 1 3 (some 5)) 6) 1 4 (some 6)) := cl_WR hcl9 (by decide)
  change g_go X _ _ _ _ _ _ _ 44 [(0, .ref (ad5 1))] [] ad5 (SH.take 7) (gWR (gCL (gWR (gCL (gWR (gCL (gWR (gCL (gWR (gCL (μ) 2) 1 0 (some 2)) 3) 1 1 (some 3)) 4) 1 2 (some 4)) 5) 1 3 (some 5)) 6) 1 4 (some 6)) 5 35
  refine go_aload_n rfl 0 rfl dX4_init_44 ?_
  refine go_bipush kz_bipush_7 dX4_init_45 ?_
  refine go_newaI (N := 7) hcl10 tw_170 (by decide) (by decide) (by decide) (by decide) dX4_init_47 (fun ad6 he6 => ?_)
  rw [← he6 1 (by decide)]
  have hcl11 : g_cl0 (SH.take 8) (gCL (gWR (gCL (gWR (gCL (gWR (gCL (gWR (gCL (gWR (gCL (μ) 2) 1 0 (some 2)) 3) 1 1 (some 3)) 4) 1 2 (some 4)) 5) 1 3 (some 5)) 6) 1 4 (some 6)) 7) := cl_push hcl10
  change g_go X _ _ _ _ _ _ _ 49 [(0, .ref (ad6 1))] [.ref (ad6 7), .ref (ad6 1)] ad6 (SH.take 8) (gCL (gWR (gCL (gWR (gCL (gWR (gCL (gWR (gCL (gWR (gCL (μ) 2) 1 0 (some 2)) 3) 1 1 (some 3)) 4) 1 2 (some 4)) 5) 1 3 (some 5)) 6) 1 4 (some 6)) 7) 6 42
  refine go_putFr (ci := 2) (i := 1) (f := 5) (r := some 7) cl2.2.2.1 cl2.2.2.2 cl2.1 inX4 rfl (by decide) tw_120 rfl rfl rfl (Or.inr ⟨_, rfl⟩) dX4_init_49 ?_
  have hcl12 : g_cl0 (SH.take 8) (gWR (gCL (gWR (gCL (gWR (gCL (gWR (gCL (gWR (gCL (gWR (gCL (μ) 2) 1 0 (some 2)) 3) 1 1 (some 3)) 4) 1 2 (some 4)) 5) 1 3 (some 5)) 6) 1 4 (some 6)) 7) 1 5 (some 7)) := cl_WR hcl11 (by decide)
  change g_go X _ _ _ _ _ _ _ 52 [(0, .ref (ad6 1))] [] ad6 (SH.take 8) (gWR (gCL (gWR (gCL (gWR (gCL (gWR (gCL (gWR (gCL (gWR (gCL (μ) 2) 1 0 (some 2)) 3) 1 1 (some 3)) 4) 1 2 (some 4)) 5) 1 3 (some 5)) 6) 1 4 (some 6)) 7) 1 5 (some 7)) 6 42
  refine go_aload_n rfl 0 rfl dX4_init_52 ?_
  refine go_iconst kz_iconst_0 dX4_init_53 ?_
  refine go_puti (ci := 2) (i := 1) (f := 6) cl2.2.2.1 cl2.2.2.2 cl2.1 inX4 rfl (by decide) tw_122 rfl rfl dX4_init_54 ?_
  have hcl13 : g_cl0 (SH.take 8) (gWI (gWR (gCL (gWR (gCL (gWR (gCL (gWR (gCL (gWR (gCL (gWR (gCL (μ) 2) 1 0 (some 2)) 3) 1 1 (some 3)) 4) 1 2 (some 4)) 5) 1 3 (some 5)) 6) 1 4 (some 6)) 7) 1 5 (some 7)) 1 6 0) := cl_WI hcl12
  change g_go X _ _ _ _ _ _ _ 57 [(0, .ref (ad6 1))] [] ad6 (SH.take 8) (gWI (gWR (gCL (gWR (gCL (gWR (gCL (gWR (gCL (gWR (gCL (gWR (gCL (μ) 2) 1 0 (some 2)) 3) 1 1 (some 3)) 4) 1 2 (some 4)) 5) 1 3 (some 5)) 6) 1 4 (some 6)) 7) 1 5 (some 7)) 1 6 0) 6 42
  refine go_aload_n rfl 0 rfl dX4_init_57 ?_
  refine go_lconst (v := 0) rfl dX4_init_58 ?_
  refine go_putl (ci := 2) (i := 1) (f := 7) cl2.2.2.1 cl2.2.2.2 cl2.1 inX4 rfl (by decide) tw_126 rfl rfl dX4_init_59 ?_
  have hcl14 : g_cl0 (SH.take 8) (gWL (gWI (gWR (gCL (gWR (gCL (gWR (gCL (gWR (gCL (gWR (gCL (gWR (gCL (μ) 2) 1 0 (some 2)) 3) 1 1 (some 3)) 4) 1 2 (some 4)) 5) 1 3 (some 5)) 6) 1 4 (some 6)) 7) 1 5 (some 7)) 1 6 0) 1 7 0) := cl_WL hcl13
  change g_go X _ _ _ _ _ _ _ 62 [(0, .ref (ad6 1))] [] ad6 (SH.take 8) (gWL (gWI (gWR (gCL (gWR (gCL (gWR (gCL (gWR (gCL (gWR (gCL (gWR (gCL (μ) 2) 1 0 (some 2)) 3) 1 1 (some 3)) 4) 1 2 (some 4)) 5) 1 3 (some 5)) 6) 1 4 (some 6)) 7) 1 5 (some 7)) 1 6 0) 1 7 0) 6 42
  refine go_aload_n rfl 0 rfl dX4_init_62 ?_
  refine go_iconst kz_iconst_2 dX4_init_63 ?_
  refine go_puti (ci := 2) (i := 1) (f := 8) cl2.2.2.1 cl2.2.2.2 cl2.1 inX4 rfl (by decide) tw_128 rfl rfl dX4_init_64 ?_
  have hcl15 : g_cl0 (SH.take 8) (gWI (gWL (gWI (gWR (gCL (gWR (gCL (gWR (gCL (gWR (gCL (gWR (gCL (gWR (gCL (μ) 2) 1 0 (some 2)) 3) 1 1 (some 3)) 4) 1 2 (some 4)) 5) 1 3 (some 5)) 6) 1 4 (some 6)) 7) 1 5 (some 7)) 1 6 0) 1 7 0) 1 8 2) := cl_WI hcl14
  change g_go X _ _ _ _ _ _ _ 67 [(0, .ref (ad6 1))] [] ad6 (SH.take 8) (gWI (gWL (gWI (gWR (gCL (gWR (gCL (gWR (gCL (gWR (gCL (gWR (gCL (gWR (gCL (μ) 2) 1 0 (some 2)) 3) 1 1 (some 3)) 4) 1 2 (some 4)) 5) 1 3 (some 5)) 6) 1 4 (some 6)) 7) 1 5 (some 7)) 1 6 0) 1 7 0) 1 8 2) 6 42
  refine go_aload_n rfl 0 rfl dX4_init_67 ?_
  refine go_bipush kz_bipush_20 dX4_init_68 ?_
  refine go_puti (ci := 2) (i := 1) (f := 9) cl2.2.2.1 cl2.2.2.2 cl2.1 inX4 rfl (by decide) tw_132 rfl rfl dX4_init_70 ?_
  have hcl16 : g_cl0 (SH.take 8) (gWI (gWI (gWL (gWI (gWR (gCL (gWR (gCL (gWR (gCL (gWR (gCL (gWR (gCL (gWR (gCL (μ) 2) 1 0 (some 2)) 3) 1 1 (some 3)) 4) 1 2 (some 4)) 5) 1 3 (some 5)) 6) 1 4 (some 6)) 7) 1 5 (some 7)) 1 6 0) 1 7 0) 1 8 2) 1 9 20) := cl_WI hcl15
  change g_go X _ _ _ _ _ _ _ 73 [(0, .ref (ad6 1))] [] ad6 (SH.take 8) (gWI (gWI (gWL (gWI (gWR (gCL (gWR (gCL (gWR (gCL (gWR (gCL (gWR (gCL (gWR (gCL (μ) 2) 1 0 (some 2)) 3) 1 1 (some 3)) 4) 1 2 (some 4)) 5) 1 3 (some 5)) 6) 1 4 (some 6)) 7) 1 5 (some 7)) 1 6 0) 1 7 0) 1 8 2) 1 9 20) 6 42
  refine go_aload_n rfl 0 rfl dX4_init_73 ?_
  refine go_iconst kz_iconst_0 dX4_init_74 ?_
  refine go_puti (ci := 2) (i := 1) (f := 10) cl2.2.2.1 cl2.2.2.2 cl2.1 inX4 rfl (by decide) tw_136 rfl rfl dX4_init_75 ?_
  have hcl17 : g_cl0 (SH.take 8) (gWI (gWI (gWI (gWL (gWI (gWR (gCL (gWR (gCL (gWR (gCL (gWR (gCL (gWR (gCL (gWR (gCL (μ) 2) 1 0 (some 2)) 3) 1 1 (some 3)) 4) 1 2 (some 4)) 5) 1 3 (some 5)) 6) 1 4 (some 6)) 7) 1 5 (some 7)) 1 6 0) 1 7 0) 1 8 2) 1 9 20) 1 10 0) := cl_WI hcl16
  change g_go X _ _ _ _ _ _ _ 78 [(0, .ref (ad6 1))] [] ad6 (SH.take 8) (gWI (gWI (gWI (gWL (gWI (gWR (gCL (gWR (gCL (gWR (gCL (gWR (gCL (gWR (gCL (gWR (gCL (μ) 2) 1 0 (some 2)) 3) 1 1 (some 3)) 4) 1 2 (some 4)) 5) 1 3 (some 5)) 6) 1 4 (some 6)) 7) 1 5 (some 7)) 1 6 0) 1 7 0) 1 8 2) 1 9 20) 1 10 0) 6 42
  refine go_aload_n rfl 0 rfl dX4_init_78 ?_
  refine go_iconst kz_iconst_0 dX4_init_79 ?_
  refine go_puti (ci := 2) (i := 1) (f := 11) cl2.2.2.1 cl2.2.2.2 cl2.1 inX4 rfl (by decide) tw_139 rfl rfl dX4_init_80 ?_
  have hcl18 : g_cl0 (SH.take 8) (gWI (gWI (gWI (gWI (gWL (gWI (gWR (gCL (gWR (gCL (gWR (gCL (gWR (gCL (gWR (gCL (gWR (gCL (μ) 2) 1 0 (some 2)) 3) 1 1 (some 3)) 4) 1 2 (some 4)) 5) 1 3 (some 5)) 6) 1 4 (some 6)) 7) 1 5 (some 7)) 1 6 0) 1 7 0) 1 8 2) 1 9 20) 1 10 0) 1 11 0) := cl_WI hcl17
  change g_go X _ _ _ _ _ _ _ 83 [(0, .ref (ad6 1))] [] ad6 (SH.take 8) (gWI (gWI (gWI (gWI (gWL (gWI (gWR (gCL (gWR (gCL (gWR (gCL (gWR (gCL (gWR (gCL (gWR (gCL (μ) 2) 1 0 (some 2)) 3) 1 1 (some 3)) 4) 1 2 (some 4)) 5) 1 3 (some 5)) 6) 1 4 (some 6)) 7) 1 5 (some 7)) 1 6 0) 1 7 0) 1 8 2) 1 9 20) 1 10 0) 1 11 0) 6 42
  refine go_aload_n rfl 0 rfl dX4_init_83 ?_
  refine go_iconst kz_iconst_1 dX4_init_84 ?_
  refine go_puti (ci := 2) (i := 1) (f := 12) cl2.2.2.1 cl2.2.2.2 cl2.1 inX4 rfl (by decide) tw_141 rfl rfl dX4_init_85 ?_
  have hcl19 : g_cl0 (SH.take 8) (gWI (gWI (gWI (gWI (gWI (gWL (gWI (gWR (gCL (gWR (gCL (gWR (gCL (gWR (gCL (gWR (gCL (gWR (gCL (μ) 2) 1 0 (some 2)) 3) 1 1 (some 3)) 4) 1 2 (some 4)) 5) 1 3 (some 5)) 6) 1 4 (some 6)) 7) 1 5 (some 7)) 1 6 0) 1 7 0) 1 8 2) 1 9 20) 1 10 0) 1 11 0) 1 12 1) := cl_WI hcl18
  change g_go X _ _ _ _ _ _ _ 88 [(0, .ref (ad6 1))] [] ad6 (SH.take 8) (gWI (gWI (gWI (gWI (gWI (gWL (gWI (gWR (gCL (gWR (gCL (gWR (gCL (gWR (gCL (gWR (gCL (gWR (gCL (μ) 2) 1 0 (some 2)) 3) 1 1 (some 3)) 4) 1 2 (some 4)) 5) 1 3 (some 5)) 6) 1 4 (some 6)) 7) 1 5 (some 7)) 1 6 0) 1 7 0) 1 8 2) 1 9 20) 1 10 0) 1 11 0) 1 12 1) 6 42
  exact go_vret (mc := 6) (ms := 42) dX4_init_88 rfl ⟨rfl, fun i hi => ((he6 i (Nat.lt_of_lt_of_le hi (by decide))).trans ((he5 i (Nat.lt_of_lt_of_le hi (by decide))).trans ((he4 i (Nat.lt_of_lt_of_le hi (by decide))).trans ((he3 i (Nat.lt_of_lt_of_le hi (by decide))).trans ((he2 i (Nat.lt_of_lt_of_le hi (by decide))).trans (he1 i (Nat.lt_of_lt_of_le hi (by decide)))))))), rfl, rfl, hcl19⟩
set_option maxRecDepth 20000 in
set_option maxHeartbeats 4000000 in
theorem i_X4_init_8 {X : gX} {ad : Nat → Nat} (μ : gM) (hcl : g_cl0 (SH.take 9) (μ)) : g_ct X yX4_init cX4_init 1 none 2 6 42 [.ref (ad 8)] ad (SH.take 9) (μ) (c_Φ 9 ad (SH.take 15) (C_X4 8 μ)) := by
  refine g_ct_of (l := [(0, .ref (ad 8))]) (by decide) (Nat.le_of_ble_eq_true rfl) rfl ?_
  refine go_aload_n rfl 0 rfl dX4_init_0 ?_
  refine go_objInit tw_104 tw_97 tw_98 (by decide) (Nat.le_of_ble_eq_true rfl) dX4_init_1 ?_
  refine go_aload_n rfl 0 rfl dX4_init_4 ?_
  refine go_bipush kz_bipush_7 dX4_init_5 ?_
  refine go_newaI (N := 7) hcl tw_170 (by decide) (by decide) (by decide) (by decide) dX4_init_7 (fun ad1 he1 => ?_)
  rw [← he1 8 (by decide)]
  have hcl1 : g_cl0 (SH.take 10) (gCL (μ) 9) := cl_push hcl
  change g_go X _ _ _ _ _ _ _ 9 [(0, .ref (ad1 8))] [.ref (ad1 9), .ref (ad1 8)] ad1 (SH.take 10) (gCL (μ) 9) 1 7
  refine go_putFr (ci := 2) (i := 8) (f := 0) (r := some 9) cl2.2.2.1 cl2.2.2.2 cl2.1 inX4 rfl (by decide) tw_105 rfl rfl rfl (Or.inr ⟨_, rfl⟩) dX4_init_9 ?_
  have hcl2 : g_cl0 (SH.take 10) (gWR (gCL (μ) 9) 8 0 (some 9)) := cl_WR hcl1 (by decide)
  change g_go X _ _ _ _ _ _ _ 12 [(0, .ref (ad1 8))] [] ad1 (SH.take 10) (gWR (gCL (μ) 9) 8 0 (some 9)) 1 7
  refine go_aload_n rfl 0 rfl dX4_init_12 ?_
  refine go_bipush kz_bipush_7 dX4_init_13 ?_
  refine go_newaI (N := 7) hcl2 tw_170 (by decide) (by decide) (by decide) (by decide) dX4_init_15 (fun ad2 he2 => ?_)
  rw [← he2 8 (by decide)]
  have hcl3 : g_cl0 (SH.take 11) (gCL (gWR (gCL (μ) 9) 8 0 (some 9)) 10) := cl_push hcl2
  change g_go X _ _ _ _ _ _ _ 17 [(0, .ref (ad2 8))] [.ref (ad2 10), .ref (ad2 8)] ad2 (SH.take 11) (gCL (gWR (gCL (μ) 9) 8 0 (some 9)) 10) 2 14
  refine go_putFr (ci := 2) (i := 8) (f := 1) (r := some 10) cl2.2.2.1 cl2.2.2.2 cl2.1 inX4 rfl (by decide) tw_108 rfl rfl rfl (Or.inr ⟨_, rfl⟩) dX4_init_17 ?_
  have hcl4 : g_cl0 (SH.take 11) (gWR (gCL (gWR (gCL (μ) 9) 8 0 (some 9)) 10) 8 1 (some 10)) := cl_WR hcl3 (by decide)
  change g_go X _ _ _ _ _ _ _ 20 [(0, .ref (ad2 8))] [] ad2 (SH.take 11) (gWR (gCL (gWR (gCL (μ) 9) 8 0 (some 9)) 10) 8 1 (some 10)) 2 14
  refine go_aload_n rfl 0 rfl dX4_init_20 ?_
  refine go_bipush kz_bipush_7 dX4_init_21 ?_
  refine go_newaI (N := 7) hcl4 tw_170 (by decide) (by decide) (by decide) (by decide) dX4_init_23 (fun ad3 he3 => ?_)
  rw [← he3 8 (by decide)]
  have hcl5 : g_cl0 (SH.take 12) (gCL (gWR (gCL (gWR (gCL (μ) 9) 8 0 (some 9)) 10) 8 1 (some 10)) 11) := cl_push hcl4
  change g_go X _ _ _ _ _ _ _ 25 [(0, .ref (ad3 8))] [.ref (ad3 11), .ref (ad3 8)] ad3 (SH.take 12) (gCL (gWR (gCL (gWR (gCL (μ) 9) 8 0 (some 9)) 10) 8 1 (some 10)) 11) 3 21
  refine go_putFr (ci := 2) (i := 8) (f := 2) (r := some 11) cl2.2.2.1 cl2.2.2.2 cl2.1 inX4 rfl (by decide) tw_112 rfl rfl rfl (Or.inr ⟨_, rfl⟩) dX4_init_25 ?_
  have hcl6 : g_cl0 (SH.take 12) (gWR (gCL (gWR (gCL (gWR (gCL (μ) 9) 8 0 (some 9)) 10) 8 1 (some 10)) 11) 8 2 (some 11)) := cl_WR hcl5 (by decide)
  change g_go X _ _ _ _ _ _ _ 28 [(0, .ref (ad3 8))] [] ad3 (SH.take 12) (gWR (gCL (gWR (gCL (gWR (gCL (μ) 9) 8 0 (some 9)) 10) 8 1 (some 10)) 11) 8 2 (some 11)) 3 21
  refine go_aload_n rfl 0 rfl dX4_init_28 ?_
  refine go_bipush kz_bipush_7 dX4_init_29 ?_
  refine go_newaI (N := 7) hcl6 tw_170 (by decide) (by decide) (by decide) (by decide) dX4_init_31 (fun ad4 he4 => ?_)
  rw [← he4 8 (by decide)]
  have hcl7 : g_cl0 (SH.take 13) (gCL (gWR (gCL (gWR (gCL (gWR (gCL (μ) 9) 8 0 (some 9)) 10) 8 1 (some 10)) 11) 8 2 (some 11)) 12) := cl_push hcl6
  change g_go X _ _ _ _ _ _ _ 33 [(0, .ref (ad4 8))] [.ref (ad4 12), .ref (ad4 8)] ad4 (SH.take 13) (gCL (gWR (gCL (gWR (gCL (gWR (gCL (μ) 9) 8 0 (some 9)) 10) 8 1 (some 10)) 11) 8 2 (some 11)) 12) 4 28
  refine go_putFr (ci := 2) (i := 8) (f := 3) (r := some 12) cl2.2.2.1 cl2.2.2.2 cl2.1 inX4 rfl (by decide) tw_115 rfl rfl rfl (Or.inr ⟨_, rfl⟩) dX4_init_33 ?_
  have hcl8 : g_cl0 (SH.take 13) (gWR (gCL (gWR (gCL (gWR (gCL (gWR (gCL (μ) 9) 8 0 (some 9)) 10) 8 1 (some 10)) 11) 8 2 (some 11)) 12) 8 3 (some 12)) := cl_WR hcl7 (by decide)
  change g_go X _ _ _ _ _ _ _ 36 [(0, .ref (ad4 8))] [] ad4 (SH.take 13) (gWR (gCL (gWR (gCL (gWR (gCL (gWR (gCL (μ) 9) 8 0 (some 9)) 10) 8 1 (some 10)) 11) 8 2 (some 11)) 12) 8 3 (some 12)) 4 28
  refine go_aload_n rfl 0 rfl dX4_init_36 ?_
  refine go_bipush kz_bipush_7 dX4_init_37 ?_
  refine go_newaI (N := 7) hcl8 tw_170 (by decide) (by decide) (by decide) (by decide) dX4_init_39 (fun ad5 he5 => ?_)
  rw [← he5 8 (by decide)]
  have hcl9 : g_cl0 (SH.take 14) (gCL (gWR (gCL (gWR (gCL (gWR (gCL (gWR (gCL (μ) 9) 8 0 (some 9)) 10) 8 1 (some 10)) 11) 8 2 (some 11)) 12) 8 3 (some 12)) 13) := cl_push hcl8
  change g_go X _ _ _ _ _ _ _ 41 [(0, .ref (ad5 8))] [.ref (ad5 13), .ref (ad5 8)] ad5 (SH.take 14) (gCL (gWR (gCL (gWR (gCL (gWR (gCL (gWR (gCL (μ) 9) 8 0 (some 9)) 10) 8 1 (some 10)) 11) 8 2 (some 11)) 12) 8 3 (some 12)) 13) 5 35
  refine go_putFr (ci := 2) (i := 8) (f := 4) (r := some 13) cl2.2.2.1 cl2.2.2.2 cl2.1 inX4 rfl (by decide) tw_117 rfl rfl rfl (Or.inr ⟨_, rfl⟩) dX4_init_41 ?_
  have hcl10 : g_cl0 (SH.take 14) (gWR (gCL (gWR (gCL (gWR (gCL (gWR (gCL (gWR (gCL (μ) 9) 8 0 (some 9)) 10) 8 1 (some 10)) 11) 8 2 (some 11)) 12) 8 3 (some 12)) 13) 8 4 (some 13)) := cl_WR hcl9 (by decide)
  change g_go X _ _ _ _ _ _ _ 44 [(0, .ref (ad5 8))] [] ad5 (SH.take 14) (gWR (gCL (gWR (gCL (gWR (gCL (gWR (gCL (gWR (gCL (μ) 9) 8 0 (some 9)) 10) 8 1 (some 10)) 11) 8 2 (some 11)) 12) 8 3 (some 12)) 13) 8 4 (some 13)) 5 35
  refine go_aload_n rfl 0 rfl dX4_init_44 ?_
  refine go_bipush kz_bipush_7 dX4_init_45 ?_
  refine go_newaI (N := 7) hcl10 tw_170 (by decide) (by decide) (by decide) (by decide) dX4_init_47 (fun ad6 he6 => ?_)
  rw [← he6 8 (by decide)]
  have hcl11 : g_cl0 (SH.take 15) (gCL (gWR (gCL (gWR (gCL (gWR (gCL (gWR (gCL (gWR (gCL (μ) 9) 8 0 (some 9)) 10) 8 1 (some 10)) 11) 8 2 (some 11)) 12) 8 3 (some 12)) 13) 8 4 (some 13)) 14) := cl_push hcl10
  change g_go X _ _ _ _ _ _ _ 49 [(0, .ref (ad6 8))] [.ref (ad6 14), .ref (ad6 8)] ad6 (SH.take 15) (gCL (gWR (gCL (gWR (gCL (gWR (gCL (gWR (gCL (gWR (gCL (μ) 9) 8 0 (some 9)) 10) 8 1 (some 10)) 11) 8 2 (some 11)) 12) 8 3 (some 12)) 13) 8 4 (some 13)) 14) 6 42
  refine go_putFr (ci := 2) (i := 8) (f := 5) (r := some 14) cl2.2.2.1 cl2.2.2.2 cl2.1 inX4 rfl (by decide) tw_120 rfl rfl rfl (Or.inr ⟨_, rfl⟩) dX4_init_49 ?_
  have hcl12 : g_cl0 (SH.take 15) (gWR (gCL (gWR (gCL (gWR (gCL (gWR (gCL (gWR (gCL (gWR (gCL (μ) 9) 8 0 (some 9)) 10) 8 1 (some 10)) 11) 8 2 (some 11)) 12) 8 3 (some 12)) 13) 8 4 (some 13)) 14) 8 5 (some 14)) := cl_WR hcl11 (by decide)
  change g_go X _ _ _ _ _ _ _ 52 [(0, .ref (ad6 8))] [] ad6 (SH.take 15) (gWR (gCL (gWR (gCL (gWR (gCL (gWR (gCL (gWR (gCL (gWR (gCL (μ) 9) 8 0 (some 9)) 10) 8 1 (some 10)) 11) 8 2 (some 11)) 12) 8 3 (some 12)) 13) 8 4 (some 13)) 14) 8 5 (some 14)) 6 42
  refine go_aload_n rfl 0 rfl dX4_init_52 ?_
  refine go_iconst kz_iconst_0 dX4_init_53 ?_
  refine go_puti (ci := 2) (i := 8) (f := 6) cl2.2.2.1 cl2.2.2.2 cl2.1 inX4 rfl (by decide) tw_122 rfl rfl dX4_init_54 ?_
  have hcl13 : g_cl0 (SH.take 15) (gWI (gWR (gCL (gWR (gCL (gWR (gCL (gWR (gCL (gWR (gCL (gWR (gCL (μ) 9) 8 0 (some 9)) 10) 8 1 (some 10)) 11) 8 2 (some 11)) 12) 8 3 (some 12)) 13) 8 4 (some 13)) 14) 8 5 (some 14)) 8 6 0) := cl_WI hcl12
  change g_go X _ _ _ _ _ _ _ 57 [(0, .ref (ad6 8))] [] ad6 (SH.take 15) (gWI (gWR (gCL (gWR (gCL (gWR (gCL (gWR (gCL (gWR (gCL (gWR (gCL (μ) 9) 8 0 (some 9)) 10) 8 1 (some 10)) 11) 8 2 (some 11)) 12) 8 3 (some 12)) 13) 8 4 (some 13)) 14) 8 5 (some 14)) 8 6 0) 6 42
  refine go_aload_n rfl 0 rfl dX4_init_57 ?_
  refine go_lconst (v := 0) rfl dX4_init_58 ?_
  refine go_putl (ci := 2) (i := 8) (f := 7) cl2.2.2.1 cl2.2.2.2 cl2.1 inX4 rfl (by decide) tw_126 rfl rfl dX4_init_59 ?_
  have hcl14 : g_cl0 (SH.take 15) (gWL (gWI (gWR (gCL (gWR (gCL (gWR (gCL (gWR (gCL (gWR (gCL (gWR (gCL (μ) 9) 8 0 (some 9)) 10) 8 1 (some 10)) 11) 8 2 (some 11)) 12) 8 3 (some 12)) 13) 8 4 (some 13)) 14) 8 5 (some 14)) 8 6 0) 8 7 0) := cl_WL hcl13
  change g_go X _ _ _ _ _ _ _ 62 [(0, .ref (ad6 8))] [] ad6 (SH.take 15) (gWL (gWI (gWR (gCL (gWR (gCL (gWR (gCL (gWR (gCL (gWR (gCL (gWR (gCL (μ) 9) 8 0 (some 9)) 10) 8 1 (some 10)) 11) 8 2 (some 11)) 12) 8 3 (some 12)) 13) 8 4 (some 13)) 14) 8 5 (some 14)) 8 6 0) 8 7 0) 6 42
  refine go_aload_n rfl 0 rfl dX4_init_62 ?_
  refine go_iconst kz_iconst_2 dX4_init_63 ?_
  refine go_puti (ci := 2) (i := 8) (f := 8) cl2.2.2.1 cl2.2.2.2 cl2.1 inX4 rfl (by decide) tw_128 rfl rfl dX4_init_64 ?_
  have hcl15 : g_cl0 (SH.take 15) (gWI (gWL (gWI (gWR (gCL (gWR (gCL (gWR (gCL (gWR (gCL (gWR (gCL (gWR (gCL (μ) 9) 8 0 (some 9)) 10) 8 1 (some 10)) 11) 8 2 (some 11)) 12) 8 3 (some 12)) 13) 8 4 (some 13)) 14) 8 5 (some 14)) 8 6 0) 8 7 0) 8 8 2) := cl_WI hcl14
  change g_go X _ _ _ _ _ _ _ 67 [(0, .ref (ad6 8))] [] ad6 (SH.take 15) (gWI (gWL (gWI (gWR (gCL (gWR (gCL (gWR (gCL (gWR (gCL (gWR (gCL (gWR (gCL (μ) 9) 8 0 (some 9)) 10) 8 1 (some 10)) 11) 8 2 (some 11)) 12) 8 3 (some 12)) 13) 8 4 (some 13)) 14) 8 5 (some 14)) 8 6 0) 8 7 0) 8 8 2) 6 42
  refine go_aload_n rfl 0 rfl dX4_init_67 ?_
  refine go_bipush kz_bipush_20 dX4_init_68 ?_
  refine go_puti (ci := 2) (i := 8) (f := 9) cl2.2.2.1 cl2.2.2.2 cl2.1 inX4 rfl (by decide) tw_132 rfl rfl dX4_init_70 ?_
  have hcl16 : g_cl0 (SH.take 15) (gWI (gWI (gWL (gWI (gWR (gCL (gWR (gCL (gWR (gCL (gWR (gCL (gWR (gCL (gWR (gCL (μ) 9) 8 0 (some 9)) 10) 8 1 (some 10)) 11) 8 2 (some 11)) 12) 8 3 (some 12)) 13) 8 4 (some 13)) 14) 8 5 (some 14)) 8 6 0) 8 7 0) 8 8 2) 8 9 20) := cl_WI hcl15
  change g_go X _ _ _ _ _ _ _ 73 [(0, .ref (ad6 8))] [] ad6 (SH.take 15) (gWI (gWI (gWL (gWI (gWR (gCL (gWR (gCL (gWR (gCL (gWR (gCL (gWR (gCL (gWR (gCL (μ) 9) 8 0 (some 9)) 10) 8 1 (some 10)) 11) 8 2 (some 11)) 12) 8 3 (some 12)) 13) 8 4 (some 13)) 14) 8 5 (some 14)) 8 6 0) 8 7 0) 8 8 2) 8 9 20) 6 42
  refine go_aload_n rfl 0 rfl dX4_init_73 ?_
  refine go_iconst kz_iconst_0 dX4_init_74 ?_
  refine go_puti (ci := 2) (i := 8) (f := 10) cl2.2.2.1 cl2.2.2.2 cl2.1 inX4 rfl (by decide) tw_136 rfl rfl dX4_init_75 ?_
  have hcl17 : g_cl0 (SH.take 15) (gWI (gWI (gWI (gWL (gWI (gWR (gCL (gWR (gCL (gWR (gCL (gWR (gCL (gWR (gCL (gWR (gCL (μ) 9) 8 0 (some 9)) 10) 8 1 (some 10)) 11) 8 2 (some 11)) 12) 8 3 (some 12)) 13) 8 4 (some 13)) 14) 8 5 (some 14)) 8 6 0) 8 7 0) 8 8 2) 8 9 20) 8 10 0) := cl_WI hcl16
  change g_go X _ _ _ _ _ _ _ 78 [(0, .ref (ad6 8))] [] ad6 (SH.take 15) (gWI (gWI (gWI (gWL (gWI (gWR (gCL (gWR (gCL (gWR (gCL (gWR (gCL (gWR (gCL (gWR (gCL (μ) 9) 8 0 (some 9)) 10) 8 1 (some 10)) 11) 8 2 (some 11)) 12) 8 3 (some 12)) 13) 8 4 (some 13)) 14) 8 5 (some 14)) 8 6 0) 8 7 0) 8 8 2) 8 9 20) 8 10 0) 6 42
  refine go_aload_n rfl 0 rfl dX4_init_78 ?_
  refine go_iconst kz_iconst_0 dX4_init_79 ?_
  refine go_puti (ci := 2) (i := 8) (f := 11) cl2.2.2.1 cl2.2.2.2 cl2.1 inX4 rfl (by decide) tw_139 rfl rfl dX4_init_80 ?_
  have hcl18 : g_cl0 (SH.take 15) (gWI (gWI (gWI (gWI (gWL (gWI (gWR (gCL (gWR (gCL (gWR (gCL (gWR (gCL (gWR (gCL (gWR (gCL (μ) 9) 8 0 (some 9)) 10) 8 1 (some 10)) 11) 8 2 (some 11)) 12) 8 3 (some 12)) 13) 8 4 (some 13)) 14) 8 5 (some 14)) 8 6 0) 8 7 0) 8 8 2) 8 9 20) 8 10 0) 8 11 0) := cl_WI hcl17
  change g_go X _ _ _ _ _ _ _ 83 [(0, .ref (ad6 8))] [] ad6 (SH.take 15) (gWI (gWI (gWI (gWI (gWL (gWI (gWR (gCL (gWR (gCL (gWR (gCL (gWR (gCL (gWR (gCL (gWR (gCL (μ) 9) 8 0 (some 9)) 10) 8 1 (some 10)) 11) 8 2 (some 11)) 12) 8 3 (some 12)) 13) 8 4 (some 13)) 14) 8 5 (some 14)) 8 6 0) 8 7 0) 8 8 2) 8 9 20) 8 10 0) 8 11 0) 6 42
  refine go_aload_n rfl 0 rfl dX4_init_83 ?_
  refine go_iconst kz_iconst_1 dX4_init_84 ?_
  refine go_puti (ci := 2) (i := 8) (f := 12) cl2.2.2.1 cl2.2.2.2 cl2.1 inX4 rfl (by decide) tw_141 rfl rfl dX4_init_85 ?_
  have hcl19 : g_cl0 (SH.take 15) (gWI (gWI (gWI (gWI (gWI (gWL (gWI (gWR (gCL (gWR (gCL (gWR (gCL (gWR (gCL (gWR (gCL (gWR (gCL (μ) 9) 8 0 (some 9)) 10) 8 1 (some 10)) 11) 8 2 (some 11)) 12) 8 3 (some 12)) 13) 8 4 (some 13)) 14) 8 5 (some 14)) 8 6 0) 8 7 0) 8 8 2) 8 9 20) 8 10 0) 8 11 0) 8 12 1) := cl_WI hcl18
  change g_go X _ _ _ _ _ _ _ 88 [(0, .ref (ad6 8))] [] ad6 (SH.take 15) (gWI (gWI (gWI (gWI (gWI (gWL (gWI (gWR (gCL (gWR (gCL (gWR (gCL (gWR (gCL (gWR (gCL (gWR (gCL (μ) 9) 8 0 (some 9)) 10) 8 1 (some 10)) 11) 8 2 (some 11)) 12) 8 3 (some 12)) 13) 8 4 (some 13)) 14) 8 5 (some 14)) 8 6 0) 8 7 0) 8 8 2) 8 9 20) 8 10 0) 8 11 0) 8 12 1) 6 42
  exact go_vret (mc := 6) (ms := 42) dX4_init_88 rfl ⟨rfl, fun i hi => ((he6 i (Nat.lt_of_lt_of_le hi (by decide))).trans ((he5 i (Nat.lt_of_lt_of_le hi (by decide))).trans ((he4 i (Nat.lt_of_lt_of_le hi (by decide))).trans ((he3 i (Nat.lt_of_lt_of_le hi (by decide))).trans ((he2 i (Nat.lt_of_lt_of_le hi (by decide))).trans (he1 i (Nat.lt_of_lt_of_le hi (by decide)))))))), rfl, rfl, hcl19⟩
set_option maxRecDepth 20000 in
set_option maxHeartbeats 4000000 in
theorem i_X4_init_15 {X : gX} {ad : Nat → Nat} (μ : gM) (hcl : g_cl0 (SH.take 16) (μ)) : g_ct X yX4_init cX4_init 1 none 2 6 42 [.ref (ad 15)] ad (SH.take 16) (μ) (c_Φ 16 ad (SH.take 22) (C_X4 15 μ)) := by
  refine g_ct_of (l := [(0, .ref (ad 15))]) (by decide) (Nat.le_of_ble_eq_true rfl) rfl ?_
  refine go_aload_n rfl 0 rfl dX4_init_0 ?_
  refine go_objInit tw_104 tw_97 tw_98 (by decide) (Nat.le_of_ble_eq_true rfl) dX4_init_1 ?_
  refine go_aload_n rfl 0 rfl dX4_init_4 ?_
  refine go_bipush kz_bipush_7 dX4_init_5 ?_
  refine go_newaI (N := 7) hcl tw_170 (by decide) (by decide) (by decide) (by decide) dX4_init_7 (fun ad1 he1 => ?_)
  rw [← he1 15 (by decide)]
  have hcl1 : g_cl0 (SH.take 17) (gCL (μ) 16) := cl_push hcl
  change g_go X _ _ _ _ _ _ _ 9 [(0, .ref (ad1 15))] [.ref (ad1 16), .ref (ad1 15)] ad1 (SH.take 17) (gCL (μ) 16) 1 7
  refine go_putFr (ci := 2) (i := 15) (f := 0) (r := some 16) cl2.2.2.1 cl2.2.2.2 cl2.1 inX4 rfl (by decide) tw_105 rfl rfl rfl (Or.inr ⟨_, rfl⟩) dX4_init_9 ?_
  have hcl2 : g_cl0 (SH.take 17) (gWR (gCL (μ) 16) 15 0 (some 16)) := cl_WR hcl1 (by decide)
  change g_go X _ _ _ _ _ _ _ 12 [(0, .ref (ad1 15))] [] ad1 (SH.take 17) (gWR (gCL (μ) 16) 15 0 (some 16)) 1 7
  refine go_aload_n rfl 0 rfl dX4_init_12 ?_
  refine go_bipush kz_bipush_7 dX4_init_13 ?_
  refine go_newaI (N := 7) hcl2 tw_170 (by decide) (by decide) (by decide) (by decide) dX4_init_15 (fun ad2 he2 => ?_)
  rw [← he2 15 (by decide)]
  have hcl3 : g_cl0 (SH.take 18) (gCL (gWR (gCL (μ) 16) 15 0 (some 16)) 17) := cl_push hcl2
  change g_go X _ _ _ _ _ _ _ 17 [(0, .ref (ad2 15))] [.ref (ad2 17), .ref (ad2 15)] ad2 (SH.take 18) (gCL (gWR (gCL (μ) 16) 15 0 (some 16)) 17) 2 14
  refine go_putFr (ci := 2) (i := 15) (f := 1) (r := some 17) cl2.2.2.1 cl2.2.2.2 cl2.1 inX4 rfl (by decide) tw_108 rfl rfl rfl (Or.inr ⟨_, rfl⟩) dX4_init_17 ?_
  have hcl4 : g_cl0 (SH.take 18) (gWR (gCL (gWR (gCL (μ) 16) 15 0 (some 16)) 17) 15 1 (some 17)) := cl_WR hcl3 (by decide)
  change g_go X _ _ _ _ _ _ _ 20 [(0, .ref (ad2 15))] [] ad2 (SH.take 18) (gWR (gCL (gWR (gCL (μ) 16) 15 0 (some 16)) 17) 15 1 (some 17)) 2 14
  refine go_aload_n rfl 0 rfl dX4_init_20 ?_
  refine go_bipush kz_bipush_7 dX4_init_21 ?_
  refine go_newaI (N := 7) hcl4 tw_170 (by decide) (by decide) (by decide) (by decide) dX4_init_23 (fun ad3 he3 => ?_)
  rw [← he3 15 (by decide)]
  have hcl5 : g_cl0 (SH.take 19) (gCL (gWR (gCL (gWR (gCL (μ) 16) 15 0 (some 16)) 17) 15 1 (some 17)) 18) := cl_push hcl4
  change g_go X _ _ _ _ _ _ _ 25 [(0, .ref (ad3 15))] [.ref (ad3 18), .ref (ad3 15)] ad3 (SH.take 19) (gCL (gWR (gCL (gWR (gCL (μ) 16) 15 0 (some 16)) 17) 15 1 (some 17)) 18) 3 21
  refine go_putFr (ci := 2) (i := 15) (f := 2) (r := some 18) cl2.2.2.1 cl2.2.2.2 cl2.1 inX4 rfl (by decide) tw_112 rfl rfl rfl (Or.inr ⟨_, rfl⟩) dX4_init_25 ?_
  have hcl6 : g_cl0 (SH.take 19) (gWR (gCL (gWR (gCL (gWR (gCL (μ) 16) 15 0 (some 16)) 17) 15 1 (some 17)) 18) 15 2 (some 18)) := cl_WR hcl5 (by decide)
  change g_go X _ _ _ _ _ _ _ 28 [(0, .ref (ad3 15))] [] ad3 (SH.take 19) (gWR (gCL (gWR (gCL (gWR (gCL (μ) 16) 15 0 (some 16)) 17) 15 1 (some 17)) 18) 15 2 (some 18)) 3 21
  refine go_aload_n rfl 0 rfl dX4_init_28 ?_
  refine go_bipush kz_bipush_7 dX4_init_29 ?_
  refine go_newaI (N := 7) hcl6 tw_170 (by decide) (by decide) (by decide) (by decide) dX4_init_31 (fun ad4 he4 => ?_)
  rw [← he4 15 (by decide)]
  have hcl7 : g_cl0 (SH.take 20) (gCL (gWR (gCL (gWR (gCL (gWR (gCL (μ) 16) 15 0 (some 16)) 17) 15 1 (some 17)) 18) 15 2 (some 18)) 19) := cl_push hcl6
  change g_go X _ _ _ _ _ _ _ 33 [(0, .ref (ad4 15))] [.ref (ad4 19), .ref (ad4 15)] ad4 (SH.take 20) (gCL (gWR (gCL (gWR (gCL (gWR (gCL (μ) 16) 15 0 (some 16)) 17) 15 1 (some 17)) 18) 15 2 (some 18)) 19) 4 28
  refine go_putFr (ci := 2) (i := 15) (f := 3) (r := some 19) cl2.2.2.1 cl2.2.2.2 cl2.1 inX4 rfl (by decide) tw_115 rfl rfl rfl (Or.inr ⟨_, rfl⟩) dX4_init_33 ?_
  have hcl8 : g_cl0 (SH.take 20) (gWR (gCL (gWR (gCL (gWR (gCL (gWR (gCL (μ) 16) 15 0 (some 16)) 17) 15 1 (some 17)) 18) 15 2 (some 18)) 19) 15 3 (some 19)) := cl_WR hcl7 (by decide)
  change g_go X _ _ _ _ _ _ _ 36 [(0, .ref (ad4 15))] [] ad4 (SH.take 20) (gWR (gCL (gWR (gCL (gWR (gCL (gWR (gCL (μ) 16) 15 0 (some 16)) 17) 15 1 (some 17)) 18) 15 2 (some 18)) 19) 15 3 (some 19)) 4 28
  refine go_aload_n rfl 0 rfl dX4_init_36 ?_
  refine go_bipush kz_bipush_7 dX4_init_37 ?_
  refine go_newaI (N := 7) hcl8 tw_170 (by decide) (by decide) (by decide) (by decide) dX4_init_39 (fun ad5 he5 => ?_)
  rw [← he5 15 (by decide)]
  have hcl9 : g_cl0 (SH.take 21) (gCL (gWR (gCL (gWR (gCL (gWR (gCL (gWR (gCL (μ) 16) 15 0 (some 16)) 17) 15 1 (some 17)) 18) 15 2 (some 18)) 19) 15 3 (some 19)) 20) := cl_push hcl8
  change g_go X _ _ _ _ _ _ _ 41 [(0, .ref (ad5 15))] [.ref (ad5 20), .ref (ad5 15)] ad5 (SH.take 21) (gCL (gWR (gCL (gWR (gCL (gWR (gCL (gWR (gCL (μ) 16) 15 0 (some 16)) 17) 15 1 (some 17)) 18) 15 2 (some 18)) 19) 15 3 (some 19)) 20) 5 35
  refine go_putFr (ci := 2) (i := 15) (f := 4) (r := some 20) cl2.2.2.1 cl2.2.2.2 cl2.1 inX4 rfl (by decide) tw_117 rfl rfl rfl (Or.inr ⟨_, rfl⟩) dX4_init_41 ?_
  have hcl10 : g_cl0 (SH.take 21) (gWR (gCL (gWR (gCL (gWR (gCL (gWR (gCL (gWR (gCL (μ) 16) 15 0 (some 16)) 17) 15 1 (some 17)) 18) 15 2 (some 18)) 19) 15 3 (some 19)) 20) 15 4 (some 20)) := cl_WR hcl9 (by decide)
  change g_go X _ _ _ _ _ _ _ 44 [(0, .ref (ad5 15))] [] ad5 (SH.take 21) (gWR (gCL (gWR (gCL (gWR (gCL (gWR (gCL (gWR (gCL (μ) 16) 15 0 (some 16)) 17) 15 1 (some 17)) 18) 15 2 (some 18)) 19) 15 3 (some 19)) 20) 15 4 (some 20)) 5 35
  refine go_aload_n rfl 0 rfl dX4_init_44 ?_
  refine go_bipush kz_bipush_7 dX4_init_45 ?_
  refine go_newaI (N := 7) hcl10 tw_170 (by decide) (by decide) (by decide) (by decide) dX4_init_47 (fun ad6 he6 => ?_)
  rw [← he6 15 (by decide)]
  have hcl11 : g_cl0 (SH.take 22) (gCL (gWR (gCL (gWR (gCL (gWR (gCL (gWR (gCL (gWR (gCL (μ) 16) 15 0 (some 16)) 17) 15 1 (some 17)) 18) 15 2 (some 18)) 19) 15 3 (some 19)) 20) 15 4 (some 20)) 21) := cl_push hcl10
  change g_go X _ _ _ _ _ _ _ 49 [(0, .ref (ad6 15))] [.ref (ad6 21), .ref (ad6 15)] ad6 (SH.take 22) (gCL (gWR (gCL (gWR (gCL (gWR (gCL (gWR (gCL (gWR (gCL (μ) 16) 15 0 (some 16)) 17) 15 1 (some 17)) 18) 15 2 (some 18)) 19) 15 3 (some 19)) 20) 15 4 (some 20)) 21) 6 42
  refine go_putFr (ci := 2) (i := 15) (f := 5) (r := some 21) cl2.2.2.1 cl2.2.2.2 cl2.1 inX4 rfl (by decide) tw_120 rfl rfl rfl (Or.inr ⟨_, rfl⟩) dX4_init_49 ?_
  have hcl12 : g_cl0 (SH.take 22) (gWR (gCL (gWR (gCL (gWR (gCL (gWR (gCL (gWR (gCL (gWR (gCL (μ) 16) 15 0 (some 16)) 17) 15 1 (some 17)) 18) 15 2 (some 18)) 19) 15 3 (some 19)) 20) 15 4 (some 20)) 21) 15 5 (some 21)) := cl_WR hcl11 (by decide)
  change g_go X _ _ _ _ _ _ _ 52 [(0, .ref (ad6 15))] [] ad6 (SH.take 22) (gWR (gCL (gWR (gCL (gWR (gCL (gWR (gCL (gWR (gCL (gWR (gCL (μ) 16) 15 0 (some 16)) 17) 15 1 (some 17)) 18) 15 2 (some 18)) 19) 15 3 (some 19)) 20) 15 4 (some 20)) 21) 15 5 (some 21)) 6 42
  refine go_aload_n rfl 0 rfl dX4_init_52 ?_
  refine go_iconst kz_iconst_0 dX4_init_53 ?_
  refine go_puti (ci := 2) (i := 15) (f := 6) cl2.2.2.1 cl2.2.2.2 cl2.1 inX4 rfl (by decide) tw_122 rfl rfl dX4_init_54 ?_
  have hcl13 : g_cl0 (SH.take 22) (gWI (gWR (gCL (gWR (gCL (gWR (gCL (gWR (gCL (gWR (gCL (gWR (gCL (μ) 16) 15 0 (some 16)) 17) 15 1 (some 17)) 18) 15 2 (some 18)) 19) 15 3 (some 19)) 20) 15 4 (some 20)) 21) 15 5 (some 21)) 15 6 0) := cl_WI hcl12
  change g_go X _ _ _ _ _ _ _ 57 [(0, .ref (ad6 15))] [] ad6 (SH.take 22) (gWI (gWR (gCL (gWR (gCL (gWR (gCL (gWR (gCL (gWR (gCL (gWR (gCL (μ) 16) 15 0 (some 16)) 17) 15 1 (some 17)) 18) 15 2 (some 18)) 19) 15 3 (some 19)) 20) 15 4 (some 20)) 21) 15 5 (some 21)) 15 6 0) 6 42
  refine go_aload_n rfl 0 rfl dX4_init_57 ?_
  refine go_lconst (v := 0) rfl dX4_init_58 ?_
  refine go_putl (ci := 2) (i := 15) (f := 7) cl2.2.2.1 cl2.2.2.2 cl2.1 inX4 rfl (by decide) tw_126 rfl rfl dX4_init_59 ?_
  have hcl14 : g_cl0 (SH.take 22) (gWL (gWI (gWR (gCL (gWR (gCL (gWR (gCL (gWR (gCL (gWR (gCL (gWR (gCL (μ) 16) 15 0 (some 16)) 17) 15 1 (some 17)) 18) 15 2 (some 18)) 19) 15 3 (some 19)) 20) 15 4 (some 20)) 21) 15 5 (some 21)) 15 6 0) 15 7 0) := cl_WL hcl13
  change g_go X _ _ _ _ _ _ _ 62 [(0, .ref (ad6 15))] [] ad6 (SH.take 22) (gWL (gWI (gWR (gCL (gWR (gCL (gWR (gCL (gWR (gCL (gWR (gCL (gWR (gCL (μ) 16) 15 0 (some 16)) 17) 15 1 (some 17)) 18) 15 2 (some 18)) 19) 15 3 (some 19)) 20) 15 4 (some 20)) 21) 15 5 (some 21)) 15 6 0) 15 7 0) 6 42
  refine go_aload_n rfl 0 rfl dX4_init_62 ?_
  refine go_iconst kz_iconst_2 dX4_init_63 ?_
  refine go_puti (ci := 2) (i := 15) (f := 8) cl2.2.2.1 cl2.2.2.2 cl2.1 inX4 rfl (by decide) tw_128 rfl rfl dX4_init_64 ?_
  have hcl15 : g_cl0 (SH.take 22) (gWI (gWL (gWI (gWR (gCL (gWR (gCL (gWR (gCL (gWR (gCL (gWR (gCL (gWR (gCL (μ) 16) 15 0 (some 16)) 17) 15 1 (some 17)) 18) 15 2 (some 18)) 19) 15 3 (some 19)) 20) 15 4 (some 20)) 21) 15 5 (some 21)) 15 6 0) 15 7 0) 15 8 2) := cl_WI hcl14
  change g_go X _ _ _ _ _ _ _ 67 [(0, .ref (ad6 15))] [] ad6 (SH.take 22) (gWI (gWL (gWI (gWR (gCL (gWR (gCL (gWR (gCL (gWR (gCL (gWR (gCL (gWR (gCL (μ) 16) 15 0 (some 16)) 17) 15 1 (some 17)) 18) 15 2 (some 18)) 19) 15 3 (some 19)) 20) 15 4 (some 20)) 21) 15 5 (some 21)) 15 6 0) 15 7 0) 15 8 2) 6 42
  refine go_aload_n rfl 0 rfl dX4_init_67 ?_
  refine go_bipush kz_bipush_20 dX4_init_68 ?_
  refine go_puti (ci := 2) (i := 15) (f := 9) cl2.2.2.1 cl2.2.2.2 cl2.1 inX4 rfl (by decide) tw_132 rfl rfl dX4_init_70 ?_
  have hcl16 : g_cl0 (SH.take 22) (gWI (gWI (gWL (gWI (gWR (gCL (gWR (gCL (gWR (gCL (gWR (gCL (gWR (gCL (gWR (gCL (μ) 16) 15 0 (some 16)) 17) 15 1 (some 17)) 18) 15 2 (some 18)) 19) 15 3 (some 19)) 20) 15 4 (some 20)) 21) 15 5 (some 21)) 15 6 0) 15 7 0) 15 8 2) 15 9 20) := cl_WI hcl15
  change g_go X _ _ _ _ _ _ _ 73 [(0, .ref (ad6 15))] [] ad6 (SH.take 22) (gWI (gWI (gWL (gWI (gWR (gCL (gWR (gCL (gWR (gCL (gWR (gCL (gWR (gCL (gWR (gCL (μ) 16) 15 0 (some 16)) 17) 15 1 (some 17)) 18) 15 2 (some 18)) 19) 15 3 (some 19)) 20) 15 4 (some 20)) 21) 15 5 (some 21)) 15 6 0) 15 7 0) 15 8 2) 15 9 20) 6 42
  refine go_aload_n rfl 0 rfl dX4_init_73 ?_
  refine go_iconst kz_iconst_0 dX4_init_74 ?_
  refine go_puti (ci := 2) (i := 15) (f := 10) cl2.2.2.1 cl2.2.2.2 cl2.1 inX4 rfl (by decide) tw_136 rfl rfl dX4_init_75 ?_
  have hcl17 : g_cl0 (SH.take 22) (gWI (gWI (gWI (gWL (gWI (gWR (gCL (gWR (gCL (gWR (gCL (gWR (gCL (gWR (gCL (gWR (gCL (μ) 16) 15 0 (some 16)) 17) 15 1 (some 17)) 18) 15 2 (some 18)) 19) 15 3 (some 19)) 20) 15 4 (some 20)) 21) 15 5 (some 21)) 15 6 0) 15 7 0) 15 8 2) 15 9 20) 15 10 0) := cl_WI hcl16
  change g_go X _ _ _ _ _ _ _ 78 [(0, .ref (ad6 15))] [] ad6 (SH.take 22) (gWI (gWI (gWI (gWL (gWI (gWR (gCL (gWR (gCL (gWR (gCL (gWR (gCL (gWR (gCL (gWR (gCL (μ) 16) 15 0 (some 16)) 17) 15 1 (some 17)) 18) 15 2 (some 18)) 19) 15 3 (some 19)) 20) 15 4 (some 20)) 21) 15 5 (some 21)) 15 6 0) 15 7 0) 15 8 2) 15 9 20) 15 10 0) 6 42
  refine go_aload_n rfl 0 rfl dX4_init_78 ?_
  refine go_iconst kz_iconst_0 dX4_init_79 ?_
  refine go_puti (ci := 2) (i := 15) (f := 11) cl2.2.2.1 cl2.2.2.2 cl2.1 inX4 rfl (by decide) tw_139 rfl rfl dX4_init_80 ?_
  have hcl18 : g_cl0 (SH.take 22) (gWI (gWI (gWI (gWI (gWL (gWI (gWR (gCL (gWR (gCL (gWR (gCL (gWR (gCL (gWR (gCL (gWR (gCL (μ) 16) 15 0 (some 16)) 17) 15 1 (some 17)) 18) 15 2 (some 18)) 19) 15 3 (some 19)) 20) 15 4 (some 20)) 21) 15 5 (some 21)) 15 6 0) 15 7 0) 15 8 2) 15 9 20) 15 10 0) 15 11 0) := cl_WI hcl17
  change g_go X _ _ _ _ _ _ _ 83 [(0, .ref (ad6 15))] [] ad6 (SH.take 22) (gWI (gWI (gWI (gWI (gWL (gWI (gWR (gCL (gWR (gCL (gWR (gCL (gWR (gCL (gWR (gCL (gWR (gCL (μ) 16) 15 0 (some 16)) 17) 15 1 (some 17)) 18) 15 2 (some 18)) 19) 15 3 (some 19)) 20) 15 4 (some 20)) 21) 15 5 (some 21)) 15 6 0) 15 7 0) 15 8 2) 15 9 20) 15 10 0) 15 11 0) 6 42
  refine go_aload_n rfl 0 rfl dX4_init_83 ?_
  refine go_iconst kz_iconst_1 dX4_init_84 ?_
  refine go_puti (ci := 2) (i := 15) (f := 12) cl2.2.2.1 cl2.2.2.2 cl2.1 inX4 rfl (by decide) tw_141 rfl rfl dX4_init_85 ?_
  have hcl19 : g_cl0 (SH.take 22) (gWI (gWI (gWI (gWI (gWI (gWL (gWI (gWR (gCL (gWR (gCL (gWR (gCL (gWR (gCL (gWR (gCL (gWR (gCL (μ) 16) 15 0 (some 16)) 17) 15 1 (some 17)) 18) 15 2 (some 18)) 19) 15 3 (some 19)) 20) 15 4 (some 20)) 21) 15 5 (some 21)) 15 6 0) 15 7 0) 15 8 2) 15 9 20) 15 10 0) 15 11 0) 15 12 1) := cl_WI hcl18
  change g_go X _ _ _ _ _ _ _ 88 [(0, .ref (ad6 15))] [] ad6 (SH.take 22) (gWI (gWI (gWI (gWI (gWI (gWL (gWI (gWR (gCL (gWR (gCL (gWR (gCL (gWR (gCL (gWR (gCL (gWR (gCL (μ) 16) 15 0 (some 16)) 17) 15 1 (some 17)) 18) 15 2 (some 18)) 19) 15 3 (some 19)) 20) 15 4 (some 20)) 21) 15 5 (some 21)) 15 6 0) 15 7 0) 15 8 2) 15 9 20) 15 10 0) 15 11 0) 15 12 1) 6 42
  exact go_vret (mc := 6) (ms := 42) dX4_init_88 rfl ⟨rfl, fun i hi => ((he6 i (Nat.lt_of_lt_of_le hi (by decide))).trans ((he5 i (Nat.lt_of_lt_of_le hi (by decide))).trans ((he4 i (Nat.lt_of_lt_of_le hi (by decide))).trans ((he3 i (Nat.lt_of_lt_of_le hi (by decide))).trans ((he2 i (Nat.lt_of_lt_of_le hi (by decide))).trans (he1 i (Nat.lt_of_lt_of_le hi (by decide)))))))), rfl, rfl, hcl19⟩
def C_X7 (p : Nat) (μ : gM) : gM := gWR (gCL (gWR (gCL (gWR (gCL (gWR (gCL (gWR (gCL (μ) (p + 1)) p 0 (some (p + 1))) (p + 2)) p 1 (some (p + 2))) (p + 3)) p 2 (some (p + 3))) (p + 4)) p 3 (some (p + 4))) (p + 5)) p 4 (some (p + 5))
theorem me_X7_init : g_me yX7_init cX7_init 1 none 0 := ⟨tw_177, tw_74, ⟨by decide +kernel, by decide +kernel, by decide +kernel⟩, by decide⟩
set_option maxRecDepth 20000 in
set_option maxHeartbeats 4000000 in
theorem i_X7_init_24 {X : gX} {ad : Nat → Nat} (μ : gM) (hcl : g_cl0 (SH.take 25) (μ)) : g_ct X yX7_init cX7_init 1 none 2 5 245 [.ref (ad 24)] ad (SH.take 25) (μ) (c_Φ 25 ad (SH.take 30) (C_X7 24 μ)) := by
  refine g_ct_of (l := [(0, .ref (ad 24))]) (by decide) (Nat.le_of_ble_eq_true rfl) rfl ?_
  refine go_aload_n rfl 0 rfl dX7_init_0 ?_
  refine go_objInit tw_178 tw_97 tw_98 (by decide) (Nat.le_of_ble_eq_true rfl) dX7_init_1 ?_
  refine go_aload_n rfl 0 rfl dX7_init_4 ?_
  refine go_bipush kz_bipush_49 dX7_init_5 ?_
  refine go_newaI (N := 49) hcl tw_170 (by decide) (by decide) (by decide) (by decide) dX7_init_7 (fun ad1 he1 => ?_)
  rw [← he1 24 (by decide)]
  have hcl1 : g_cl0 (SH.take 26) (gCL (μ) 25) := cl_push hcl
  change g_go X _ _ _ _ _ _ _ 9 [(0, .ref (ad1 24))] [.ref (ad1 25), .ref (ad1 24)] ad1 (SH.take 26) (gCL (μ) 25) 1 49
  refine go_putFr (ci := 5) (i := 24) (f := 0) (r := some 25) cl5.2.2.1 cl5.2.2.2 cl5.1 inX7 rfl (by decide) tw_179 rfl rfl rfl (Or.inr ⟨_, rfl⟩) dX7_init_9 ?_
  have hcl2 : g_cl0 (SH.take 26) (gWR (gCL (μ) 25) 24 0 (some 25)) := cl_WR hcl1 (by decide)
  change g_go X _ _ _ _ _ _ _ 12 [(0, .ref (ad1 24))] [] ad1 (SH.take 26) (gWR (gCL (μ) 25) 24 0 (some 25)) 1 49
  refine go_aload_n rfl 0 rfl dX7_init_12 ?_
  refine go_bipush kz_bipush_49 dX7_init_13 ?_
  refine go_newaI (N := 49) hcl2 tw_170 (by decide) (by decide) (by decide) (by decide) dX7_init_15 (fun ad2 he2 => ?_)
  rw [← he2 24 (by decide)]
  have hcl3 : g_cl0 (SH.take 27) (gCL (gWR (gCL (μ) 25) 24 0 (some 25)) 26) := cl_push hcl2
  change g_go X _ _ _ _ _ _ _ 17 [(0, .ref (ad2 24))] [.ref (ad2 26), .ref (ad2 24)] ad2 (SH.take 27) (gCL (gWR (gCL (μ) 25) 24 0 (some 25)) 26) 2 98
  refine go_putFr (ci := 5) (i := 24) (f := 1) (r := some 26) cl5.2.2.1 cl5.2.2.2 cl5.1 inX7 rfl (by decide) tw_182 rfl rfl rfl (Or.inr ⟨_, rfl⟩) dX7_init_17 ?_
  have hcl4 : g_cl0 (SH.take 27) (gWR (gCL (gWR (gCL (μ) 25) 24 0 (some 25)) 26) 24 1 (some 26)) := cl_WR hcl3 (by decide)
  change g_go X _ _ _ _ _ _ _ 20 [(0, .ref (ad2 24))] [] ad2 (SH.take 27) (gWR (gCL (gWR (gCL (μ) 25) 24 0 (some 25)) 26) 24 1 (some 26)) 2 98
  refine go_aload_n rfl 0 rfl dX7_init_20 ?_
  refine go_bipush kz_bipush_49 dX7_init_21 ?_
  refine go_newaI (N := 49) hcl4 tw_170 (by decide) (by decide) (by decide) (by decide) dX7_init_23 (fun ad3 he3 => ?_)
  rw [← he3 24 (by decide)]
  have hcl5 : g_cl0 (SH.take 28) (gCL (gWR (gCL (gWR (gCL (μ) 25) 24 0 (some 25)) 26) 24 1 (some 26)) 27) := cl_push hcl4
  change g_go X _ _ _ _ _ _ _ 25 [(0, .ref (ad3 24))] [.ref (ad3 27), .ref (ad3 24)] ad3 (SH.take 28) (gCL (gWR (gCL (gWR (gCL (μ) 25) 24 0 (some 25)) 26) 24 1 (some 26)) 27) 3 147
  refine go_putFr (ci := 5) (i := 24) (f := 2) (r := some 27) cl5.2.2.1 cl5.2.2.2 cl5.1 inX7 rfl (by decide) tw_183 rfl rfl rfl (Or.inr ⟨_, rfl⟩) dX7_init_25 ?_
  have hcl6 : g_cl0 (SH.take 28) (gWR (gCL (gWR (gCL (gWR (gCL (μ) 25) 24 0 (some 25)) 26) 24 1 (some 26)) 27) 24 2 (some 27)) := cl_WR hcl5 (by decide)
  change g_go X _ _ _ _ _ _ _ 28 [(0, .ref (ad3 24))] [] ad3 (SH.take 28) (gWR (gCL (gWR (gCL (gWR (gCL (μ) 25) 24 0 (some 25)) 26) 24 1 (some 26)) 27) 24 2 (some 27)) 3 147
  refine go_aload_n rfl 0 rfl dX7_init_28 ?_
  refine go_bipush kz_bipush_49 dX7_init_29 ?_
  refine go_newaI (N := 49) hcl6 tw_170 (by decide) (by decide) (by decide) (by decide) dX7_init_31 (fun ad4 he4 => ?_)
  rw [← he4 24 (by decide)]
  have hcl7 : g_cl0 (SH.take 29) (gCL (gWR (gCL (gWR (gCL (gWR (gCL (μ) 25) 24 0 (some 25)) 26) 24 1 (some 26)) 27) 24 2 (some 27)) 28) := cl_push hcl6
  change g_go X _ _ _ _ _ _ _ 33 [(0, .ref (ad4 24))] [.ref (ad4 28), .ref (ad4 24)] ad4 (SH.take 29) (gCL (gWR (gCL (gWR (gCL (gWR (gCL (μ) 25) 24 0 (some 25)) 26) 24 1 (some 26)) 27) 24 2 (some 27)) 28) 4 196
  refine go_putFr (ci := 5) (i := 24) (f := 3) (r := some 28) cl5.2.2.1 cl5.2.2.2 cl5.1 inX7 rfl (by decide) tw_184 rfl rfl rfl (Or.inr ⟨_, rfl⟩) dX7_init_33 ?_
  have hcl8 : g_cl0 (SH.take 29) (gWR (gCL (gWR (gCL (gWR (gCL (gWR (gCL (μ) 25) 24 0 (some 25)) 26) 24 1 (some 26)) 27) 24 2 (some 27)) 28) 24 3 (some 28)) := cl_WR hcl7 (by decide)
  change g_go X _ _ _ _ _ _ _ 36 [(0, .ref (ad4 24))] [] ad4 (SH.take 29) (gWR (gCL (gWR (gCL (gWR (gCL (gWR (gCL (μ) 25) 24 0 (some 25)) 26) 24 1 (some 26)) 27) 24 2 (some 27)) 28) 24 3 (some 28)) 4 196
  refine go_aload_n rfl 0 rfl dX7_init_36 ?_
  refine go_bipush kz_bipush_49 dX7_init_37 ?_
  refine go_newaI (N := 49) hcl8 tw_170 (by decide) (by decide) (by decide) (by decide) dX7_init_39 (fun ad5 he5 => ?_)
  rw [← he5 24 (by decide)]
  have hcl9 : g_cl0 (SH.take 30) (gCL (gWR (gCL (gWR (gCL (gWR (gCL (gWR (gCL (μ) 25) 24 0 (some 25)) 26) 24 1 (some 26)) 27) 24 2 (some 27)) 28) 24 3 (some 28)) 29) := cl_push hcl8
  change g_go X _ _ _ _ _ _ _ 41 [(0, .ref (ad5 24))] [.ref (ad5 29), .ref (ad5 24)] ad5 (SH.take 30) (gCL (gWR (gCL (gWR (gCL (gWR (gCL (gWR (gCL (μ) 25) 24 0 (some 25)) 26) 24 1 (some 26)) 27) 24 2 (some 27)) 28) 24 3 (some 28)) 29) 5 245
  refine go_putFr (ci := 5) (i := 24) (f := 4) (r := some 29) cl5.2.2.1 cl5.2.2.2 cl5.1 inX7 rfl (by decide) tw_186 rfl rfl rfl (Or.inr ⟨_, rfl⟩) dX7_init_41 ?_
  have hcl10 : g_cl0 (SH.take 30) (gWR (gCL (gWR (gCL (gWR (gCL (gWR (gCL (gWR (gCL (μ) 25) 24 0 (some 25)) 26) 24 1 (some 26)) 27) 24 2 (some 27)) 28) 24 3 (some 28)) 29) 24 4 (some 29)) := cl_WR hcl9 (by decide)
  change g_go X _ _ _ _ _ _ _ 44 [(0, .ref (ad5 24))] [] ad5 (SH.take 30) (gWR (gCL (gWR (gCL (gWR (gCL (gWR (gCL (gWR (gCL (μ) 25) 24 0 (some 25)) 26) 24 1 (some 26)) 27) 24 2 (some 27)) 28) 24 3 (some 28)) 29) 24 4 (some 29)) 5 245
  exact go_vret (mc := 5) (ms := 245) dX7_init_44 rfl ⟨rfl, fun i hi => ((he5 i (Nat.lt_of_lt_of_le hi (by decide))).trans ((he4 i (Nat.lt_of_lt_of_le hi (by decide))).trans ((he3 i (Nat.lt_of_lt_of_le hi (by decide))).trans ((he2 i (Nat.lt_of_lt_of_le hi (by decide))).trans (he1 i (Nat.lt_of_lt_of_le hi (by decide))))))), rfl, rfl, hcl10⟩
def C_X2 (p : Nat) (μ : gM) : gM := gWR (gCL (gWR (gCL (μ) (p + 1)) p 0 (some (p + 1))) (p + 2)) p 1 (some (p + 2))
theorem me_X2_init : g_me yX2_init cX2_init 1 none 0 := ⟨tw_202, tw_75, ⟨by decide +kernel, by decide +kernel, by decide +kernel⟩, by decide⟩
set_option maxRecDepth 20000 in
set_option maxHeartbeats 4000000 in
theorem i_X2_init_30 {X : gX} {ad : Nat → Nat} (μ : gM) (hcl : g_cl0 (SH.take 31) (μ)) : g_ct X yX2_init cX2_init 1 none 2 2 38 [.ref (ad 30)] ad (SH.take 31) (μ) (c_Φ 31 ad (SH.take 33) (C_X2 30 μ)) := by
  refine g_ct_of (l := [(0, .ref (ad 30))]) (by decide) (Nat.le_of_ble_eq_true rfl) rfl ?_
  refine go_aload_n rfl 0 rfl dX2_init_0 ?_
  refine go_objInit tw_203 tw_97 tw_98 (by decide) (Nat.le_of_ble_eq_true rfl) dX2_init_1 ?_
  refine go_aload_n rfl 0 rfl dX2_init_4 ?_
  refine go_bipush kz_bipush_7 dX2_init_5 ?_
  refine go_newaI (N := 7) hcl tw_170 (by decide) (by decide) (by decide) (by decide) dX2_init_7 (fun ad1 he1 => ?_)
  rw [← he1 30 (by decide)]
  have hcl1 : g_cl0 (SH.take 32) (gCL (μ) 31) := cl_push hcl
  change g_go X _ _ _ _ _ _ _ 9 [(0, .ref (ad1 30))] [.ref (ad1 31), .ref (ad1 30)] ad1 (SH.take 32) (gCL (μ) 31) 1 7
  refine go_putFr (ci := 1) (i := 30) (f := 0) (r := some 31) cl1.2.2.1 cl1.2.2.2 cl1.1 inX2 rfl (by decide) tw_204 rfl rfl rfl (Or.inr ⟨_, rfl⟩) dX2_init_9 ?_
  have hcl2 : g_cl0 (SH.take 32) (gWR (gCL (μ) 31) 30 0 (some 31)) := cl_WR hcl1 (by decide)
  change g_go X _ _ _ _ _ _ _ 12 [(0, .ref (ad1 30))] [] ad1 (SH.take 32) (gWR (gCL (μ) 31) 30 0 (some 31)) 1 7
  refine go_aload_n rfl 0 rfl dX2_init_12 ?_
  refine go_bipush kz_bipush_31 dX2_init_13 ?_
  refine go_newaJ (N := 31) hcl2 tw_213 (by decide) (by decide) (by decide) (by decide) dX2_init_15 (fun ad2 he2 => ?_)
  rw [← he2 30 (by decide)]
  have hcl3 : g_cl0 (SH.take 33) (gCL (gWR (gCL (μ) 31) 30 0 (some 31)) 32) := cl_push hcl2
  change g_go X _ _ _ _ _ _ _ 17 [(0, .ref (ad2 30))] [.ref (ad2 32), .ref (ad2 30)] ad2 (SH.take 33) (gCL (gWR (gCL (μ) 31) 30 0 (some 31)) 32) 2 38
  refine go_putFr (ci := 1) (i := 30) (f := 1) (r := some 32) cl1.2.2.1 cl1.2.2.2 cl1.1 inX2 rfl (by decide) tw_206 rfl rfl rfl (Or.inr ⟨_, rfl⟩) dX2_init_17 ?_
  have hcl4 : g_cl0 (SH.take 33) (gWR (gCL (gWR (gCL (μ) 31) 30 0 (some 31)) 32) 30 1 (some 32)) := cl_WR hcl3 (by decide)
  change g_go X _ _ _ _ _ _ _ 20 [(0, .ref (ad2 30))] [] ad2 (SH.take 33) (gWR (gCL (gWR (gCL (μ) 31) 30 0 (some 31)) 32) 30 1 (some 32)) 2 38
  exact go_vret (mc := 2) (ms := 38) dX2_init_20 rfl ⟨rfl, fun i hi => ((he2 i (Nat.lt_of_lt_of_le hi (by decide))).trans (he1 i (Nat.lt_of_lt_of_le hi (by decide)))), rfl, rfl, hcl4⟩
def C_X5 (p : Nat) (μ : gM) : gM := gWI (gWI (gWI (gWI (gWR (gCL (μ) (p + 1)) p 0 (some (p + 1))) p 1 0) p 2 0) p 3 0) p 4 (-1)
theorem me_X5_init : g_me yX5_init cX5_init 1 none 0 := ⟨tw_218, tw_76, ⟨by decide +kernel, by decide +kernel, by decide +kernel⟩, by decide⟩
set_option maxRecDepth 20000 in
set_option maxHeartbeats 4000000 in
theorem i_X5_init_33 {X : gX} {ad : Nat → Nat} (μ : gM) (hcl : g_cl0 (SH.take 34) (μ)) : g_ct X yX5_init cX5_init 1 none 2 1 160 [.ref (ad 33)] ad (SH.take 34) (μ) (c_Φ 34 ad (SH.take 35) (C_X5 33 μ)) := by
  refine g_ct_of (l := [(0, .ref (ad 33))]) (by decide) (Nat.le_of_ble_eq_true rfl) rfl ?_
  refine go_aload_n rfl 0 rfl dX5_init_0 ?_
  refine go_objInit tw_219 tw_97 tw_98 (by decide) (Nat.le_of_ble_eq_true rfl) dX5_init_1 ?_
  refine go_aload_n rfl 0 rfl dX5_init_4 ?_
  refine go_sipush kz_sipush_160 dX5_init_5 ?_
  refine go_newaI (N := 160) hcl tw_170 (by decide) (by decide) (by decide) (by decide) dX5_init_8 (fun ad1 he1 => ?_)
  rw [← he1 33 (by decide)]
  have hcl1 : g_cl0 (SH.take 35) (gCL (μ) 34) := cl_push hcl
  change g_go X _ _ _ _ _ _ _ 10 [(0, .ref (ad1 33))] [.ref (ad1 34), .ref (ad1 33)] ad1 (SH.take 35) (gCL (μ) 34) 1 160
  refine go_putFr (ci := 3) (i := 33) (f := 0) (r := some 34) cl3.2.2.1 cl3.2.2.2 cl3.1 inX5 rfl (by decide) tw_220 rfl rfl rfl (Or.inr ⟨_, rfl⟩) dX5_init_10 ?_
  have hcl2 : g_cl0 (SH.take 35) (gWR (gCL (μ) 34) 33 0 (some 34)) := cl_WR hcl1 (by decide)
  change g_go X _ _ _ _ _ _ _ 13 [(0, .ref (ad1 33))] [] ad1 (SH.take 35) (gWR (gCL (μ) 34) 33 0 (some 34)) 1 160
  refine go_aload_n rfl 0 rfl dX5_init_13 ?_
  refine go_iconst kz_iconst_0 dX5_init_14 ?_
  refine go_puti (ci := 3) (i := 33) (f := 1) cl3.2.2.1 cl3.2.2.2 cl3.1 inX5 rfl (by decide) tw_221 rfl rfl dX5_init_15 ?_
  have hcl3 : g_cl0 (SH.take 35) (gWI (gWR (gCL (μ) 34) 33 0 (some 34)) 33 1 0) := cl_WI hcl2
  change g_go X _ _ _ _ _ _ _ 18 [(0, .ref (ad1 33))] [] ad1 (SH.take 35) (gWI (gWR (gCL (μ) 34) 33 0 (some 34)) 33 1 0) 1 160
  refine go_aload_n rfl 0 rfl dX5_init_18 ?_
  refine go_iconst kz_iconst_0 dX5_init_19 ?_
  refine go_puti (ci := 3) (i := 33) (f := 2) cl3.2.2.1 cl3.2.2.2 cl3.1 inX5 rfl (by decide) tw_222 rfl rfl dX5_init_20 ?_
  have hcl4 : g_cl0 (SH.take 35) (gWI (gWI (gWR (gCL (μ) 34) 33 0 (some 34)) 33 1 0) 33 2 0) := cl_WI hcl3
  change g_go X _ _ _ _ _ _ _ 23 [(0, .ref (ad1 33))] [] ad1 (SH.take 35) (gWI (gWI (gWR (gCL (μ) 34) 33 0 (some 34)) 33 1 0) 33 2 0) 1 160
  refine go_aload_n rfl 0 rfl dX5_init_23 ?_
  refine go_iconst kz_iconst_0 dX5_init_24 ?_
  refine go_puti (ci := 3) (i := 33) (f := 3) cl3.2.2.1 cl3.2.2.2 cl3.1 inX5 rfl (by decide) tw_223 rfl rfl dX5_init_25 ?_
  have hcl5 : g_cl0 (SH.take 35) (gWI (gWI (gWI (gWR (gCL (μ) 34) 33 0 (some 34)) 33 1 0) 33 2 0) 33 3 0) := cl_WI hcl4
  change g_go X _ _ _ _ _ _ _ 28 [(0, .ref (ad1 33))] [] ad1 (SH.take 35) (gWI (gWI (gWI (gWR (gCL (μ) 34) 33 0 (some 34)) 33 1 0) 33 2 0) 33 3 0) 1 160
  refine go_aload_n rfl 0 rfl dX5_init_28 ?_
  refine go_iconst kz_iconst_m1 dX5_init_29 ?_
  refine go_puti (ci := 3) (i := 33) (f := 4) cl3.2.2.1 cl3.2.2.2 cl3.1 inX5 rfl (by decide) tw_224 rfl rfl dX5_init_30 ?_
  have hcl6 : g_cl0 (SH.take 35) (gWI (gWI (gWI (gWI (gWR (gCL (μ) 34) 33 0 (some 34)) 33 1 0) 33 2 0) 33 3 0) 33 4 (-1)) := cl_WI hcl5
  change g_go X _ _ _ _ _ _ _ 33 [(0, .ref (ad1 33))] [] ad1 (SH.take 35) (gWI (gWI (gWI (gWI (gWR (gCL (μ) 34) 33 0 (some 34)) 33 1 0) 33 2 0) 33 3 0) 33 4 (-1)) 1 160
  exact go_vret (mc := 1) (ms := 160) dX5_init_33 rfl ⟨rfl, fun i hi => (he1 i (Nat.lt_of_lt_of_le hi (by decide))), rfl, rfl, hcl6⟩
def C_X1 (p : Nat) (μ : gM) : gM := gWI (gWI (gWI (gWI (gWR (gCL (μ) (p + 1)) p 0 (some (p + 1))) p 1 0) p 2 0) p 3 0) p 4 0
theorem me_X1_init : g_me yX1_init cX1_init 1 none 0 := ⟨tw_241, tw_77, ⟨by decide +kernel, by decide +kernel, by decide +kernel⟩, by decide⟩
set_option maxRecDepth 20000 in
set_option maxHeartbeats 4000000 in
theorem i_X1_init_35 {X : gX} {ad : Nat → Nat} (μ : gM) (hcl : g_cl0 (SH.take 36) (μ)) : g_ct X yX1_init cX1_init 1 none 2 1 20 [.ref (ad 35)] ad (SH.take 36) (μ) (c_Φ 36 ad (SH.take 37) (C_X1 35 μ)) := by
  refine g_ct_of (l := [(0, .ref (ad 35))]) (by decide) (Nat.le_of_ble_eq_true rfl) rfl ?_
  refine go_aload_n rfl 0 rfl dX1_init_0 ?_
  refine go_objInit tw_242 tw_97 tw_98 (by decide) (Nat.le_of_ble_eq_true rfl) dX1_init_1 ?_
  refine go_aload_n rfl 0 rfl dX1_init_4 ?_
  refine go_bipush kz_bipush_20 dX1_init_5 ?_
  refine go_newaI (N := 20) hcl tw_170 (by decide) (by decide) (by decide) (by decide) dX1_init_7 (fun ad1 he1 => ?_)
  rw [← he1 35 (by decide)]
  have hcl1 : g_cl0 (SH.take 37) (gCL (μ) 36) := cl_push hcl
  change g_go X _ _ _ _ _ _ _ 9 [(0, .ref (ad1 35))] [.ref (ad1 36), .ref (ad1 35)] ad1 (SH.take 37) (gCL (μ) 36) 1 20
  refine go_putFr (ci := 0) (i := 35) (f := 0) (r := some 36) cl0.2.2.1 cl0.2.2.2 cl0.1 inX1 rfl (by decide) tw_243 rfl rfl rfl (Or.inr ⟨_, rfl⟩) dX1_init_9 ?_
  have hcl2 : g_cl0 (SH.take 37) (gWR (gCL (μ) 36) 35 0 (some 36)) := cl_WR hcl1 (by decide)
  change g_go X _ _ _ _ _ _ _ 12 [(0, .ref (ad1 35))] [] ad1 (SH.take 37) (gWR (gCL (μ) 36) 35 0 (some 36)) 1 20
  refine go_aload_n rfl 0 rfl dX1_init_12 ?_
  refine go_iconst kz_iconst_0 dX1_init_13 ?_
  refine go_puti (ci := 0) (i := 35) (f := 1) cl0.2.2.1 cl0.2.2.2 cl0.1 inX1 rfl (by decide) tw_244 rfl rfl dX1_init_14 ?_
  have hcl3 : g_cl0 (SH.take 37) (gWI (gWR (gCL (μ) 36) 35 0 (some 36)) 35 1 0) := cl_WI hcl2
  change g_go X _ _ _ _ _ _ _ 17 [(0, .ref (ad1 35))] [] ad1 (SH.take 37) (gWI (gWR (gCL (μ) 36) 35 0 (some 36)) 35 1 0) 1 20
  refine go_aload_n rfl 0 rfl dX1_init_17 ?_
  refine go_iconst kz_iconst_0 dX1_init_18 ?_
  refine go_puti (ci := 0) (i := 35) (f := 2) cl0.2.2.1 cl0.2.2.2 cl0.1 inX1 rfl (by decide) tw_246 rfl rfl dX1_init_19 ?_
  have hcl4 : g_cl0 (SH.take 37) (gWI (gWI (gWR (gCL (μ) 36) 35 0 (some 36)) 35 1 0) 35 2 0) := cl_WI hcl3
  change g_go X _ _ _ _ _ _ _ 22 [(0, .ref (ad1 35))] [] ad1 (SH.take 37) (gWI (gWI (gWR (gCL (μ) 36) 35 0 (some 36)) 35 1 0) 35 2 0) 1 20
  refine go_aload_n rfl 0 rfl dX1_init_22 ?_
  refine go_iconst kz_iconst_0 dX1_init_23 ?_
  refine go_puti (ci := 0) (i := 35) (f := 3) cl0.2.2.1 cl0.2.2.2 cl0.1 inX1 rfl (by decide) tw_247 rfl rfl dX1_init_24 ?_
  have hcl5 : g_cl0 (SH.take 37) (gWI (gWI (gWI (gWR (gCL (μ) 36) 35 0 (some 36)) 35 1 0) 35 2 0) 35 3 0) := cl_WI hcl4
  change g_go X _ _ _ _ _ _ _ 27 [(0, .ref (ad1 35))] [] ad1 (SH.take 37) (gWI (gWI (gWI (gWR (gCL (μ) 36) 35 0 (some 36)) 35 1 0) 35 2 0) 35 3 0) 1 20
  refine go_aload_n rfl 0 rfl dX1_init_27 ?_
  refine go_iconst kz_iconst_0 dX1_init_28 ?_
  refine go_puti (ci := 0) (i := 35) (f := 4) cl0.2.2.1 cl0.2.2.2 cl0.1 inX1 rfl (by decide) tw_248 rfl rfl dX1_init_29 ?_
  have hcl6 : g_cl0 (SH.take 37) (gWI (gWI (gWI (gWI (gWR (gCL (μ) 36) 35 0 (some 36)) 35 1 0) 35 2 0) 35 3 0) 35 4 0) := cl_WI hcl5
  change g_go X _ _ _ _ _ _ _ 32 [(0, .ref (ad1 35))] [] ad1 (SH.take 37) (gWI (gWI (gWI (gWI (gWR (gCL (μ) 36) 35 0 (some 36)) 35 1 0) 35 2 0) 35 3 0) 35 4 0) 1 20
  exact go_vret (mc := 1) (ms := 20) dX1_init_32 rfl ⟨rfl, fun i hi => (he1 i (Nat.lt_of_lt_of_le hi (by decide))), rfl, rfl, hcl6⟩
def C_X6 (p : Nat) (μ : gM) : gM := gWI (gWI (gWR (gCL (μ) (p + 1)) p 0 (some (p + 1))) p 1 (-1)) p 2 0
theorem me_X6_init : g_me yX6_init cX6_init 1 none 0 := ⟨tw_263, tw_78, ⟨by decide +kernel, by decide +kernel, by decide +kernel⟩, by decide⟩
set_option maxRecDepth 20000 in
set_option maxHeartbeats 4000000 in
theorem i_X6_init_37 {X : gX} {ad : Nat → Nat} (μ : gM) (hcl : g_cl0 (SH.take 38) (μ)) : g_ct X yX6_init cX6_init 1 none 2 1 160 [.ref (ad 37)] ad (SH.take 38) (μ) (c_Φ 38 ad (SH.take 39) (C_X6 37 μ)) := by
  refine g_ct_of (l := [(0, .ref (ad 37))]) (by decide) (Nat.le_of_ble_eq_true rfl) rfl ?_
  refine go_aload_n rfl 0 rfl dX6_init_0 ?_
  refine go_objInit tw_264 tw_97 tw_98 (by decide) (Nat.le_of_ble_eq_true rfl) dX6_init_1 ?_
  refine go_aload_n rfl 0 rfl dX6_init_4 ?_
  refine go_sipush kz_sipush_160 dX6_init_5 ?_
  refine go_newaJ (N := 160) hcl tw_213 (by decide) (by decide) (by decide) (by decide) dX6_init_8 (fun ad1 he1 => ?_)
  rw [← he1 37 (by decide)]
  have hcl1 : g_cl0 (SH.take 39) (gCL (μ) 38) := cl_push hcl
  change g_go X _ _ _ _ _ _ _ 10 [(0, .ref (ad1 37))] [.ref (ad1 38), .ref (ad1 37)] ad1 (SH.take 39) (gCL (μ) 38) 1 160
  refine go_putFr (ci := 4) (i := 37) (f := 0) (r := some 38) cl4.2.2.1 cl4.2.2.2 cl4.1 inX6 rfl (by decide) tw_265 rfl rfl rfl (Or.inr ⟨_, rfl⟩) dX6_init_10 ?_
  have hcl2 : g_cl0 (SH.take 39) (gWR (gCL (μ) 38) 37 0 (some 38)) := cl_WR hcl1 (by decide)
  change g_go X _ _ _ _ _ _ _ 13 [(0, .ref (ad1 37))] [] ad1 (SH.take 39) (gWR (gCL (μ) 38) 37 0 (some 38)) 1 160
  refine go_aload_n rfl 0 rfl dX6_init_13 ?_
  refine go_iconst kz_iconst_m1 dX6_init_14 ?_
  refine go_puti (ci := 4) (i := 37) (f := 1) cl4.2.2.1 cl4.2.2.2 cl4.1 inX6 rfl (by decide) tw_267 rfl rfl dX6_init_15 ?_
  have hcl3 : g_cl0 (SH.take 39) (gWI (gWR (gCL (μ) 38) 37 0 (some 38)) 37 1 (-1)) := cl_WI hcl2
  change g_go X _ _ _ _ _ _ _ 18 [(0, .ref (ad1 37))] [] ad1 (SH.take 39) (gWI (gWR (gCL (μ) 38) 37 0 (some 38)) 37 1 (-1)) 1 160
  refine go_aload_n rfl 0 rfl dX6_init_18 ?_
  refine go_iconst kz_iconst_0 dX6_init_19 ?_
  refine go_puti (ci := 4) (i := 37) (f := 2) cl4.2.2.1 cl4.2.2.2 cl4.1 inX6 rfl (by decide) tw_269 rfl rfl dX6_init_20 ?_
  have hcl4 : g_cl0 (SH.take 39) (gWI (gWI (gWR (gCL (μ) 38) 37 0 (some 38)) 37 1 (-1)) 37 2 0) := cl_WI hcl3
  change g_go X _ _ _ _ _ _ _ 23 [(0, .ref (ad1 37))] [] ad1 (SH.take 39) (gWI (gWI (gWR (gCL (μ) 38) 37 0 (some 38)) 37 1 (-1)) 37 2 0) 1 160
  exact go_vret (mc := 1) (ms := 160) dX6_init_23 rfl ⟨rfl, fun i hi => (he1 i (Nat.lt_of_lt_of_le hi (by decide))), rfl, rfl, hcl4⟩
set_option maxRecDepth 20000 in
set_option maxHeartbeats 4000000 in
theorem i_X6_init_39 {X : gX} {ad : Nat → Nat} (μ : gM) (hcl : g_cl0 (SH.take 40) (μ)) : g_ct X yX6_init cX6_init 1 none 2 1 160 [.ref (ad 39)] ad (SH.take 40) (μ) (c_Φ 40 ad (SH.take 41) (C_X6 39 μ)) := by
  refine g_ct_of (l := [(0, .ref (ad 39))]) (by decide) (Nat.le_of_ble_eq_true rfl) rfl ?_
  refine go_aload_n rfl 0 rfl dX6_init_0 ?_
  refine go_objInit tw_264 tw_97 tw_98 (by decide) (Nat.le_of_ble_eq_true rfl) dX6_init_1 ?_
  refine go_aload_n rfl 0 rfl dX6_init_4 ?_
  refine go_sipush kz_sipush_160 dX6_init_5 ?_
  refine go_newaJ (N := 160) hcl tw_213 (by decide) (by decide) (by decide) (by decide) dX6_init_8 (fun ad1 he1 => ?_)
  rw [← he1 39 (by decide)]
  have hcl1 : g_cl0 (SH.take 41) (gCL (μ) 40) := cl_push hcl
  change g_go X _ _ _ _ _ _ _ 10 [(0, .ref (ad1 39))] [.ref (ad1 40), .ref (ad1 39)] ad1 (SH.take 41) (gCL (μ) 40) 1 160
  refine go_putFr (ci := 4) (i := 39) (f := 0) (r := some 40) cl4.2.2.1 cl4.2.2.2 cl4.1 inX6 rfl (by decide) tw_265 rfl rfl rfl (Or.inr ⟨_, rfl⟩) dX6_init_10 ?_
  have hcl2 : g_cl0 (SH.take 41) (gWR (gCL (μ) 40) 39 0 (some 40)) := cl_WR hcl1 (by decide)
  change g_go X _ _ _ _ _ _ _ 13 [(0, .ref (ad1 39))] [] ad1 (SH.take 41) (gWR (gCL (μ) 40) 39 0 (some 40)) 1 160
  refine go_aload_n rfl 0 rfl dX6_init_13 ?_
  refine go_iconst kz_iconst_m1 dX6_init_14 ?_
  refine go_puti (ci := 4) (i := 39) (f := 1) cl4.2.2.1 cl4.2.2.2 cl4.1 inX6 rfl (by decide) tw_267 rfl rfl dX6_init_15 ?_
  have hcl3 : g_cl0 (SH.take 41) (gWI (gWR (gCL (μ) 40) 39 0 (some 40)) 39 1 (-1)) := cl_WI hcl2
  change g_go X _ _ _ _ _ _ _ 18 [(0, .ref (ad1 39))] [] ad1 (SH.take 41) (gWI (gWR (gCL (μ) 40) 39 0 (some 40)) 39 1 (-1)) 1 160
  refine go_aload_n rfl 0 rfl dX6_init_18 ?_
  refine go_iconst kz_iconst_0 dX6_init_19 ?_
  refine go_puti (ci := 4) (i := 39) (f := 2) cl4.2.2.1 cl4.2.2.2 cl4.1 inX6 rfl (by decide) tw_269 rfl rfl dX6_init_20 ?_
  have hcl4 : g_cl0 (SH.take 41) (gWI (gWI (gWR (gCL (μ) 40) 39 0 (some 40)) 39 1 (-1)) 39 2 0) := cl_WI hcl3
  change g_go X _ _ _ _ _ _ _ 23 [(0, .ref (ad1 39))] [] ad1 (SH.take 41) (gWI (gWI (gWR (gCL (μ) 40) 39 0 (some 40)) 39 1 (-1)) 39 2 0) 1 160
  exact go_vret (mc := 1) (ms := 160) dX6_init_23 rfl ⟨rfl, fun i hi => (he1 i (Nat.lt_of_lt_of_le hi (by decide))), rfl, rfl, hcl4⟩
set_option maxRecDepth 20000 in
set_option maxHeartbeats 4000000 in
theorem i_X6_init_41 {X : gX} {ad : Nat → Nat} (μ : gM) (hcl : g_cl0 (SH.take 42) (μ)) : g_ct X yX6_init cX6_init 1 none 2 1 160 [.ref (ad 41)] ad (SH.take 42) (μ) (c_Φ 42 ad (SH.take 43) (C_X6 41 μ)) := by
  refine g_ct_of (l := [(0, .ref (ad 41))]) (by decide) (Nat.le_of_ble_eq_true rfl) rfl ?_
  refine go_aload_n rfl 0 rfl dX6_init_0 ?_
  refine go_objInit tw_264 tw_97 tw_98 (by decide) (Nat.le_of_ble_eq_true rfl) dX6_init_1 ?_
  refine go_aload_n rfl 0 rfl dX6_init_4 ?_
  refine go_sipush kz_sipush_160 dX6_init_5 ?_
  refine go_newaJ (N := 160) hcl tw_213 (by decide) (by decide) (by decide) (by decide) dX6_init_8 (fun ad1 he1 => ?_)
  rw [← he1 41 (by decide)]
  have hcl1 : g_cl0 (SH.take 43) (gCL (μ) 42) := cl_push hcl
  change g_go X _ _ _ _ _ _ _ 10 [(0, .ref (ad1 41))] [.ref (ad1 42), .ref (ad1 41)] ad1 (SH.take 43) (gCL (μ) 42) 1 160
  refine go_putFr (ci := 4) (i := 41) (f := 0) (r := some 42) cl4.2.2.1 cl4.2.2.2 cl4.1 inX6 rfl (by decide) tw_265 rfl rfl rfl (Or.inr ⟨_, rfl⟩) dX6_init_10 ?_
  have hcl2 : g_cl0 (SH.take 43) (gWR (gCL (μ) 42) 41 0 (some 42)) := cl_WR hcl1 (by decide)
  change g_go X _ _ _ _ _ _ _ 13 [(0, .ref (ad1 41))] [] ad1 (SH.take 43) (gWR (gCL (μ) 42) 41 0 (some 42)) 1 160
  refine go_aload_n rfl 0 rfl dX6_init_13 ?_
  refine go_iconst kz_iconst_m1 dX6_init_14 ?_
  refine go_puti (ci := 4) (i := 41) (f := 1) cl4.2.2.1 cl4.2.2.2 cl4.1 inX6 rfl (by decide) tw_267 rfl rfl dX6_init_15 ?_
  have hcl3 : g_cl0 (SH.take 43) (gWI (gWR (gCL (μ) 42) 41 0 (some 42)) 41 1 (-1)) := cl_WI hcl2
  change g_go X _ _ _ _ _ _ _ 18 [(0, .ref (ad1 41))] [] ad1 (SH.take 43) (gWI (gWR (gCL (μ) 42) 41 0 (some 42)) 41 1 (-1)) 1 160
  refine go_aload_n rfl 0 rfl dX6_init_18 ?_
  refine go_iconst kz_iconst_0 dX6_init_19 ?_
  refine go_puti (ci := 4) (i := 41) (f := 2) cl4.2.2.1 cl4.2.2.2 cl4.1 inX6 rfl (by decide) tw_269 rfl rfl dX6_init_20 ?_
  have hcl4 : g_cl0 (SH.take 43) (gWI (gWI (gWR (gCL (μ) 42) 41 0 (some 42)) 41 1 (-1)) 41 2 0) := cl_WI hcl3
  change g_go X _ _ _ _ _ _ _ 23 [(0, .ref (ad1 41))] [] ad1 (SH.take 43) (gWI (gWI (gWR (gCL (μ) 42) 41 0 (some 42)) 41 1 (-1)) 41 2 0) 1 160
  exact go_vret (mc := 1) (ms := 160) dX6_init_23 rfl ⟨rfl, fun i hi => (he1 i (Nat.lt_of_lt_of_le hi (by decide))), rfl, rfl, hcl4⟩
set_option maxRecDepth 20000 in
set_option maxHeartbeats 4000000 in
theorem i_X6_init_43 {X : gX} {ad : Nat → Nat} (μ : gM) (hcl : g_cl0 (SH.take 44) (μ)) : g_ct X yX6_init cX6_init 1 none 2 1 160 [.ref (ad 43)] ad (SH.take 44) (μ) (c_Φ 44 ad (SH.take 45) (C_X6 43 μ)) := by
  refine g_ct_of (l := [(0, .ref (ad 43))]) (by decide) (Nat.le_of_ble_eq_true rfl) rfl ?_
  refine go_aload_n rfl 0 rfl dX6_init_0 ?_
  refine go_objInit tw_264 tw_97 tw_98 (by decide) (Nat.le_of_ble_eq_true rfl) dX6_init_1 ?_
  refine go_aload_n rfl 0 rfl dX6_init_4 ?_
  refine go_sipush kz_sipush_160 dX6_init_5 ?_
  refine go_newaJ (N := 160) hcl tw_213 (by decide) (by decide) (by decide) (by decide) dX6_init_8 (fun ad1 he1 => ?_)
  rw [← he1 43 (by decide)]
  have hcl1 : g_cl0 (SH.take 45) (gCL (μ) 44) := cl_push hcl
  change g_go X _ _ _ _ _ _ _ 10 [(0, .ref (ad1 43))] [.ref (ad1 44), .ref (ad1 43)] ad1 (SH.take 45) (gCL (μ) 44) 1 160
  refine go_putFr (ci := 4) (i := 43) (f := 0) (r := some 44) cl4.2.2.1 cl4.2.2.2 cl4.1 inX6 rfl (by decide) tw_265 rfl rfl rfl (Or.inr ⟨_, rfl⟩) dX6_init_10 ?_
  have hcl2 : g_cl0 (SH.take 45) (gWR (gCL (μ) 44) 43 0 (some 44)) := cl_WR hcl1 (by decide)
  change g_go X _ _ _ _ _ _ _ 13 [(0, .ref (ad1 43))] [] ad1 (SH.take 45) (gWR (gCL (μ) 44) 43 0 (some 44)) 1 160
  refine go_aload_n rfl 0 rfl dX6_init_13 ?_
  refine go_iconst kz_iconst_m1 dX6_init_14 ?_
  refine go_puti (ci := 4) (i := 43) (f := 1) cl4.2.2.1 cl4.2.2.2 cl4.1 inX6 rfl (by decide) tw_267 rfl rfl dX6_init_15 ?_
  have hcl3 : g_cl0 (SH.take 45) (gWI (gWR (gCL (μ) 44) 43 0 (some 44)) 43 1 (-1)) := cl_WI hcl2
  change g_go X _ _ _ _ _ _ _ 18 [(0, .ref (ad1 43))] [] ad1 (SH.take 45) (gWI (gWR (gCL (μ) 44) 43 0 (some 44)) 43 1 (-1)) 1 160
  refine go_aload_n rfl 0 rfl dX6_init_18 ?_
  refine go_iconst kz_iconst_0 dX6_init_19 ?_
  refine go_puti (ci := 4) (i := 43) (f := 2) cl4.2.2.1 cl4.2.2.2 cl4.1 inX6 rfl (by decide) tw_269 rfl rfl dX6_init_20 ?_
  have hcl4 : g_cl0 (SH.take 45) (gWI (gWI (gWR (gCL (μ) 44) 43 0 (some 44)) 43 1 (-1)) 43 2 0) := cl_WI hcl3
  change g_go X _ _ _ _ _ _ _ 23 [(0, .ref (ad1 43))] [] ad1 (SH.take 45) (gWI (gWI (gWR (gCL (μ) 44) 43 0 (some 44)) 43 1 (-1)) 43 2 0) 1 160
  exact go_vret (mc := 1) (ms := 160) dX6_init_23 rfl ⟨rfl, fun i hi => (he1 i (Nat.lt_of_lt_of_le hi (by decide))), rfl, rfl, hcl4⟩
set_option maxRecDepth 20000 in
set_option maxHeartbeats 4000000 in
theorem i_X6_init_45 {X : gX} {ad : Nat → Nat} (μ : gM) (hcl : g_cl0 (SH.take 46) (μ)) : g_ct X yX6_init cX6_init 1 none 2 1 160 [.ref (ad 45)] ad (SH.take 46) (μ) (c_Φ 46 ad (SH.take 47) (C_X6 45 μ)) := by
  refine g_ct_of (l := [(0, .ref (ad 45))]) (by decide) (Nat.le_of_ble_eq_true rfl) rfl ?_
  refine go_aload_n rfl 0 rfl dX6_init_0 ?_
  refine go_objInit tw_264 tw_97 tw_98 (by decide) (Nat.le_of_ble_eq_true rfl) dX6_init_1 ?_
  refine go_aload_n rfl 0 rfl dX6_init_4 ?_
  refine go_sipush kz_sipush_160 dX6_init_5 ?_
  refine go_newaJ (N := 160) hcl tw_213 (by decide) (by decide) (by decide) (by decide) dX6_init_8 (fun ad1 he1 => ?_)
  rw [← he1 45 (by decide)]
  have hcl1 : g_cl0 (SH.take 47) (gCL (μ) 46) := cl_push hcl
  change g_go X _ _ _ _ _ _ _ 10 [(0, .ref (ad1 45))] [.ref (ad1 46), .ref (ad1 45)] ad1 (SH.take 47) (gCL (μ) 46) 1 160
  refine go_putFr (ci := 4) (i := 45) (f := 0) (r := some 46) cl4.2.2.1 cl4.2.2.2 cl4.1 inX6 rfl (by decide) tw_265 rfl rfl rfl (Or.inr ⟨_, rfl⟩) dX6_init_10 ?_
  have hcl2 : g_cl0 (SH.take 47) (gWR (gCL (μ) 46) 45 0 (some 46)) := cl_WR hcl1 (by decide)
  change g_go X _ _ _ _ _ _ _ 13 [(0, .ref (ad1 45))] [] ad1 (SH.take 47) (gWR (gCL (μ) 46) 45 0 (some 46)) 1 160
  refine go_aload_n rfl 0 rfl dX6_init_13 ?_
  refine go_iconst kz_iconst_m1 dX6_init_14 ?_
  refine go_puti (ci := 4) (i := 45) (f := 1) cl4.2.2.1 cl4.2.2.2 cl4.1 inX6 rfl (by decide) tw_267 rfl rfl dX6_init_15 ?_
  have hcl3 : g_cl0 (SH.take 47) (gWI (gWR (gCL (μ) 46) 45 0 (some 46)) 45 1 (-1)) := cl_WI hcl2
  change g_go X _ _ _ _ _ _ _ 18 [(0, .ref (ad1 45))] [] ad1 (SH.take 47) (gWI (gWR (gCL (μ) 46) 45 0 (some 46)) 45 1 (-1)) 1 160
  refine go_aload_n rfl 0 rfl dX6_init_18 ?_
  refine go_iconst kz_iconst_0 dX6_init_19 ?_
  refine go_puti (ci := 4) (i := 45) (f := 2) cl4.2.2.1 cl4.2.2.2 cl4.1 inX6 rfl (by decide) tw_269 rfl rfl dX6_init_20 ?_
  have hcl4 : g_cl0 (SH.take 47) (gWI (gWI (gWR (gCL (μ) 46) 45 0 (some 46)) 45 1 (-1)) 45 2 0) := cl_WI hcl3
  change g_go X _ _ _ _ _ _ _ 23 [(0, .ref (ad1 45))] [] ad1 (SH.take 47) (gWI (gWI (gWR (gCL (μ) 46) 45 0 (some 46)) 45 1 (-1)) 45 2 0) 1 160
  exact go_vret (mc := 1) (ms := 160) dX6_init_23 rfl ⟨rfl, fun i hi => (he1 i (Nat.lt_of_lt_of_le hi (by decide))), rfl, rfl, hcl4⟩
set_option maxRecDepth 20000 in
set_option maxHeartbeats 4000000 in
theorem i_X6_init_47 {X : gX} {ad : Nat → Nat} (μ : gM) (hcl : g_cl0 (SH.take 48) (μ)) : g_ct X yX6_init cX6_init 1 none 2 1 160 [.ref (ad 47)] ad (SH.take 48) (μ) (c_Φ 48 ad (SH.take 49) (C_X6 47 μ)) := by
  refine g_ct_of (l := [(0, .ref (ad 47))]) (by decide) (Nat.le_of_ble_eq_true rfl) rfl ?_
  refine go_aload_n rfl 0 rfl dX6_init_0 ?_
  refine go_objInit tw_264 tw_97 tw_98 (by decide) (Nat.le_of_ble_eq_true rfl) dX6_init_1 ?_
  refine go_aload_n rfl 0 rfl dX6_init_4 ?_
  refine go_sipush kz_sipush_160 dX6_init_5 ?_
  refine go_newaJ (N := 160) hcl tw_213 (by decide) (by decide) (by decide) (by decide) dX6_init_8 (fun ad1 he1 => ?_)
  rw [← he1 47 (by decide)]
  have hcl1 : g_cl0 (SH.take 49) (gCL (μ) 48) := cl_push hcl
  change g_go X _ _ _ _ _ _ _ 10 [(0, .ref (ad1 47))] [.ref (ad1 48), .ref (ad1 47)] ad1 (SH.take 49) (gCL (μ) 48) 1 160
  refine go_putFr (ci := 4) (i := 47) (f := 0) (r := some 48) cl4.2.2.1 cl4.2.2.2 cl4.1 inX6 rfl (by decide) tw_265 rfl rfl rfl (Or.inr ⟨_, rfl⟩) dX6_init_10 ?_
  have hcl2 : g_cl0 (SH.take 49) (gWR (gCL (μ) 48) 47 0 (some 48)) := cl_WR hcl1 (by decide)
  change g_go X _ _ _ _ _ _ _ 13 [(0, .ref (ad1 47))] [] ad1 (SH.take 49) (gWR (gCL (μ) 48) 47 0 (some 48)) 1 160
  refine go_aload_n rfl 0 rfl dX6_init_13 ?_
  refine go_iconst kz_iconst_m1 dX6_init_14 ?_
  refine go_puti (ci := 4) (i := 47) (f := 1) cl4.2.2.1 cl4.2.2.2 cl4.1 inX6 rfl (by decide) tw_267 rfl rfl dX6_init_15 ?_
  have hcl3 : g_cl0 (SH.take 49) (gWI (gWR (gCL (μ) 48) 47 0 (some 48)) 47 1 (-1)) := cl_WI hcl2
  change g_go X _ _ _ _ _ _ _ 18 [(0, .ref (ad1 47))] [] ad1 (SH.take 49) (gWI (gWR (gCL (μ) 48) 47 0 (some 48)) 47 1 (-1)) 1 160
  refine go_aload_n rfl 0 rfl dX6_init_18 ?_
  refine go_iconst kz_iconst_0 dX6_init_19 ?_
  refine go_puti (ci := 4) (i := 47) (f := 2) cl4.2.2.1 cl4.2.2.2 cl4.1 inX6 rfl (by decide) tw_269 rfl rfl dX6_init_20 ?_
  have hcl4 : g_cl0 (SH.take 49) (gWI (gWI (gWR (gCL (μ) 48) 47 0 (some 48)) 47 1 (-1)) 47 2 0) := cl_WI hcl3
  change g_go X _ _ _ _ _ _ _ 23 [(0, .ref (ad1 47))] [] ad1 (SH.take 49) (gWI (gWI (gWR (gCL (μ) 48) 47 0 (some 48)) 47 1 (-1)) 47 2 0) 1 160
  exact go_vret (mc := 1) (ms := 160) dX6_init_23 rfl ⟨rfl, fun i hi => (he1 i (Nat.lt_of_lt_of_le hi (by decide))), rfl, rfl, hcl4⟩
set_option maxRecDepth 20000 in
set_option maxHeartbeats 4000000 in
theorem i_X6_init_49 {X : gX} {ad : Nat → Nat} (μ : gM) (hcl : g_cl0 (SH.take 50) (μ)) : g_ct X yX6_init cX6_init 1 none 2 1 160 [.ref (ad 49)] ad (SH.take 50) (μ) (c_Φ 50 ad (SH.take 51) (C_X6 49 μ)) := by
  refine g_ct_of (l := [(0, .ref (ad 49))]) (by decide) (Nat.le_of_ble_eq_true rfl) rfl ?_
  refine go_aload_n rfl 0 rfl dX6_init_0 ?_
  refine go_objInit tw_264 tw_97 tw_98 (by decide) (Nat.le_of_ble_eq_true rfl) dX6_init_1 ?_
  refine go_aload_n rfl 0 rfl dX6_init_4 ?_
  refine go_sipush kz_sipush_160 dX6_init_5 ?_
  refine go_newaJ (N := 160) hcl tw_213 (by decide) (by decide) (by decide) (by decide) dX6_init_8 (fun ad1 he1 => ?_)
  rw [← he1 49 (by decide)]
  have hcl1 : g_cl0 (SH.take 51) (gCL (μ) 50) := cl_push hcl
  change g_go X _ _ _ _ _ _ _ 10 [(0, .ref (ad1 49))] [.ref (ad1 50), .ref (ad1 49)] ad1 (SH.take 51) (gCL (μ) 50) 1 160
  refine go_putFr (ci := 4) (i := 49) (f := 0) (r := some 50) cl4.2.2.1 cl4.2.2.2 cl4.1 inX6 rfl (by decide) tw_265 rfl rfl rfl (Or.inr ⟨_, rfl⟩) dX6_init_10 ?_
  have hcl2 : g_cl0 (SH.take 51) (gWR (gCL (μ) 50) 49 0 (some 50)) := cl_WR hcl1 (by decide)
  change g_go X _ _ _ _ _ _ _ 13 [(0, .ref (ad1 49))] [] ad1 (SH.take 51) (gWR (gCL (μ) 50) 49 0 (some 50)) 1 160
  refine go_aload_n rfl 0 rfl dX6_init_13 ?_
  refine go_iconst kz_iconst_m1 dX6_init_14 ?_
  refine go_puti (ci := 4) (i := 49) (f := 1) cl4.2.2.1 cl4.2.2.2 cl4.1 inX6 rfl (by decide) tw_267 rfl rfl dX6_init_15 ?_
  have hcl3 : g_cl0 (SH.take 51) (gWI (gWR (gCL (μ) 50) 49 0 (some 50)) 49 1 (-1)) := cl_WI hcl2
  change g_go X _ _ _ _ _ _ _ 18 [(0, .ref (ad1 49))] [] ad1 (SH.take 51) (gWI (gWR (gCL (μ) 50) 49 0 (some 50)) 49 1 (-1)) 1 160
  refine go_aload_n rfl 0 rfl dX6_init_18 ?_
  refine go_iconst kz_iconst_0 dX6_init_19 ?_
  refine go_puti (ci := 4) (i := 49) (f := 2) cl4.2.2.1 cl4.2.2.2 cl4.1 inX6 rfl (by decide) tw_269 rfl rfl dX6_init_20 ?_
  have hcl4 : g_cl0 (SH.take 51) (gWI (gWI (gWR (gCL (μ) 50) 49 0 (some 50)) 49 1 (-1)) 49 2 0) := cl_WI hcl3
  change g_go X _ _ _ _ _ _ _ 23 [(0, .ref (ad1 49))] [] ad1 (SH.take 51) (gWI (gWI (gWR (gCL (μ) 50) 49 0 (some 50)) 49 1 (-1)) 49 2 0) 1 160
  exact go_vret (mc := 1) (ms := 160) dX6_init_23 rfl ⟨rfl, fun i hi => (he1 i (Nat.lt_of_lt_of_le hi (by decide))), rfl, rfl, hcl4⟩
set_option maxRecDepth 20000 in
set_option maxHeartbeats 4000000 in
theorem i_X6_init_51 {X : gX} {ad : Nat → Nat} (μ : gM) (hcl : g_cl0 (SH.take 52) (μ)) : g_ct X yX6_init cX6_init 1 none 2 1 160 [.ref (ad 51)] ad (SH.take 52) (μ) (c_Φ 52 ad (SH.take 53) (C_X6 51 μ)) := by
  refine g_ct_of (l := [(0, .ref (ad 51))]) (by decide) (Nat.le_of_ble_eq_true rfl) rfl ?_
  refine go_aload_n rfl 0 rfl dX6_init_0 ?_
  refine go_objInit tw_264 tw_97 tw_98 (by decide) (Nat.le_of_ble_eq_true rfl) dX6_init_1 ?_
  refine go_aload_n rfl 0 rfl dX6_init_4 ?_
  refine go_sipush kz_sipush_160 dX6_init_5 ?_
  refine go_newaJ (N := 160) hcl tw_213 (by decide) (by decide) (by decide) (by decide) dX6_init_8 (fun ad1 he1 => ?_)
  rw [← he1 51 (by decide)]
  have hcl1 : g_cl0 (SH.take 53) (gCL (μ) 52) := cl_push hcl
  change g_go X _ _ _ _ _ _ _ 10 [(0, .ref (ad1 51))] [.ref (ad1 52), .ref (ad1 51)] ad1 (SH.take 53) (gCL (μ) 52) 1 160
  refine go_putFr (ci := 4) (i := 51) (f := 0) (r := some 52) cl4.2.2.1 cl4.2.2.2 cl4.1 inX6 rfl (by decide) tw_265 rfl rfl rfl (Or.inr ⟨_, rfl⟩) dX6_init_10 ?_
  have hcl2 : g_cl0 (SH.take 53) (gWR (gCL (μ) 52) 51 0 (some 52)) := cl_WR hcl1 (by decide)
  change g_go X _ _ _ _ _ _ _ 13 [(0, .ref (ad1 51))] [] ad1 (SH.take 53) (gWR (gCL (μ) 52) 51 0 (some 52)) 1 160
  refine go_aload_n rfl 0 rfl dX6_init_13 ?_
  refine go_iconst kz_iconst_m1 dX6_init_14 ?_
  refine go_puti (ci := 4) (i := 51) (f := 1) cl4.2.2.1 cl4.2.2.2 cl4.1 inX6 rfl (by decide) tw_267 rfl rfl dX6_init_15 ?_
  have hcl3 : g_cl0 (SH.take 53) (gWI (gWR (gCL (μ) 52) 51 0 (some 52)) 51 1 (-1)) := cl_WI hcl2
  change g_go X _ _ _ _ _ _ _ 18 [(0, .ref (ad1 51))] [] ad1 (SH.take 53) (gWI (gWR (gCL (μ) 52) 51 0 (some 52)) 51 1 (-1)) 1 160
  refine go_aload_n rfl 0 rfl dX6_init_18 ?_
  refine go_iconst kz_iconst_0 dX6_init_19 ?_
  refine go_puti (ci := 4) (i := 51) (f := 2) cl4.2.2.1 cl4.2.2.2 cl4.1 inX6 rfl (by decide) tw_269 rfl rfl dX6_init_20 ?_
  have hcl4 : g_cl0 (SH.take 53) (gWI (gWI (gWR (gCL (μ) 52) 51 0 (some 52)) 51 1 (-1)) 51 2 0) := cl_WI hcl3
  change g_go X _ _ _ _ _ _ _ 23 [(0, .ref (ad1 51))] [] ad1 (SH.take 53) (gWI (gWI (gWR (gCL (μ) 52) 51 0 (some 52)) 51 1 (-1)) 51 2 0) 1 160
  exact go_vret (mc := 1) (ms := 160) dX6_init_23 rfl ⟨rfl, fun i hi => (he1 i (Nat.lt_of_lt_of_le hi (by decide))), rfl, rfl, hcl4⟩
def MA : gM := gCL M0 0
theorem me_X8_init : g_me yX8_init cX8_init 2 none 0 := ⟨tw_95, tw_72, ⟨by decide +kernel, by decide +kernel, by decide +kernel⟩, by decide⟩
def MB_1 : gM := gCL (MA) 1
def MB_2 : gM := C_X4 1 (MB_1)
def MB_3 : gM := gWR (MB_2) 0 0 (some 1)
def MB_4 : gM := gCL (MB_3) 8
def MB_5 : gM := C_X4 8 (MB_4)
def MB_6 : gM := gWR (MB_5) 0 1 (some 8)
def MB_7 : gM := gCL (MB_6) 15
def MB_8 : gM := C_X4 15 (MB_7)
def MB_9 : gM := gWR (MB_8) 0 2 (some 15)
def MB_10 : gM := gCL (MB_9) 22
def MB_11 : gM := gWR (MB_10) 0 3 (some 22)
def MB_12 : gM := gCL (MB_11) 23
def MB_13 : gM := gWR (MB_12) 0 4 (some 23)
def MB_14 : gM := gCL (MB_13) 24
def MB_15 : gM := C_X7 24 (MB_14)
def MB_16 : gM := gWR (MB_15) 0 5 (some 24)
def MB_17 : gM := gCL (MB_16) 30
def MB_18 : gM := C_X2 30 (MB_17)
def MB_19 : gM := gWR (MB_18) 0 6 (some 30)
def MB_20 : gM := gCL (MB_19) 33
def MB_21 : gM := C_X5 33 (MB_20)
def MB_22 : gM := gWR (MB_21) 0 7 (some 33)
def MB_23 : gM := gCL (MB_22) 35
def MB_24 : gM := C_X1 35 (MB_23)
def MB_25 : gM := gWR (MB_24) 0 8 (some 35)
def MB_26 : gM := gWI (MB_25) 0 9 0
def MB_27 : gM := gWI (MB_26) 0 10 (-1)
def MB_28 : gM := gCL (MB_27) 37
def MB_29 : gM := C_X6 37 (MB_28)
def MB_30 : gM := gWR (MB_29) 22 (0 : Int32).toNatClampNeg (some 37)
def MB_31 : gM := gCL (MB_30) 39
def MB_32 : gM := C_X6 39 (MB_31)
def MB_33 : gM := gWR (MB_32) 22 (1 : Int32).toNatClampNeg (some 39)
def MB_34 : gM := gCL (MB_33) 41
def MB_35 : gM := C_X6 41 (MB_34)
def MB_36 : gM := gWR (MB_35) 22 (2 : Int32).toNatClampNeg (some 41)
def MB_37 : gM := gCL (MB_36) 43
def MB_38 : gM := C_X6 43 (MB_37)
def MB_39 : gM := gWR (MB_38) 22 (3 : Int32).toNatClampNeg (some 43)
def MB_40 : gM := gCL (MB_39) 45
def MB_41 : gM := C_X6 45 (MB_40)
def MB_42 : gM := gWR (MB_41) 22 (4 : Int32).toNatClampNeg (some 45)
def MB_43 : gM := gCL (MB_42) 47
def MB_44 : gM := C_X6 47 (MB_43)
def MB_45 : gM := gWR (MB_44) 22 (5 : Int32).toNatClampNeg (some 47)
def MB_46 : gM := gCL (MB_45) 49
def MB_47 : gM := C_X6 49 (MB_46)
def MB_48 : gM := gWR (MB_47) 22 (6 : Int32).toNatClampNeg (some 49)
def MB_49 : gM := gCL (MB_48) 51
def MB_50 : gM := C_X6 51 (MB_49)
def MB_51 : gM := gWR (MB_50) 22 (7 : Int32).toNatClampNeg (some 51)
set_option maxRecDepth 20000 in
set_option maxHeartbeats 4000000 in
theorem i_X8_init_0 {X : gX} {ad : Nat → Nat} (_ : Unit) (hcl : g_cl0 (SH.take 1) (MA)) : g_ct X yX8_init cX8_init 2 none 4 52 1965 [.ref (ad 0)] ad (SH.take 1) (MA) (c_Φ 1 ad (SH.take 53) (MB_51)) := by
  refine g_ct_of (l := [(0, .ref (ad 0))]) (by decide) (Nat.le_of_ble_eq_true rfl) rfl ?_
  refine go_aload_n rfl 0 rfl dX8_init_0 ?_
  refine go_objInit tw_96 tw_97 tw_98 (by decide) (Nat.le_of_ble_eq_true rfl) dX8_init_1 ?_
  refine go_aload_n rfl 0 rfl dX8_init_4 ?_
  refine go_new hcl cl2.1 inX4 cl2.2.2.1 tw_99 tw_100 tw_73 (fun q hq => dv_ok ((by decide : ∀ q, q < 13 → g_okT (g_ty 2 q) = true) q hq)) (by decide) dX8_init_5 (fun ad1 he1 => ?_)
  rw [← he1 0 (by decide)]
  have hcl1 : g_cl0 (SH.take 2) (MB_1) := cl_push hcl
  change g_go X _ _ _ _ _ _ _ 8 [(0, .ref (ad1 0))] [.ref (ad1 1), .ref (ad1 0)] ad1 (SH.take 2) (MB_1) 1 13
  refine go_dup rfl dX8_init_8 ?_
  refine go_callIN (st := [.ref (ad1 1), .ref (ad1 0)]) (As := []) (i_X4_init_1 _ hcl1) tw_101 tw_102 rfl me_X4_init.1 me_X4_init.2.1 me_X4_init.2.2.1 me_X4_init.2.2.2 (by decide) rfl (Nat.le_of_ble_eq_true rfl) (by decide) dX8_init_9 (fun v ad2 sh1 μ1 hq => ?_)
  obtain ⟨rfl, he2, rfl, rfl, hcx2⟩ := hq
  rw [← he2 0 (by decide)]
  rw [← he2 1 (by decide)]
  have hcl2 : g_cl0 (SH.take 8) (MB_2) := hcx2
  change g_go X _ _ _ _ _ _ _ 12 [(0, .ref (ad2 0))] [.ref (ad2 1), .ref (ad2 0)] ad2 (SH.take 8) (MB_2) 7 55
  refine go_putFr (ci := 6) (i := 0) (f := 0) (r := some 1) cl6.2.2.1 cl6.2.2.2 cl6.1 inX8 rfl (by decide) tw_279 rfl rfl rfl (Or.inl ⟨_, rfl⟩) dX8_init_12 ?_
  have hcl3 : g_cl0 (SH.take 8) (MB_3) := cl_WR hcl2 (by decide)
  change g_go X _ _ _ _ _ _ _ 15 [(0, .ref (ad2 0))] [] ad2 (SH.take 8) (MB_3) 7 55
  refine go_aload_n rfl 0 rfl dX8_init_15 ?_
  refine go_new hcl3 cl2.1 inX4 cl2.2.2.1 tw_99 tw_100 tw_73 (fun q hq => dv_ok ((by decide : ∀ q, q < 13 → g_okT (g_ty 2 q) = true) q hq)) (by decide) dX8_init_16 (fun ad3 he3 => ?_)
  rw [← he3 0 (by decide)]
  have hcl4 : g_cl0 (SH.take 9) (MB_4) := cl_push hcl3
  change g_go X _ _ _ _ _ _ _ 19 [(0, .ref (ad3 0))] [.ref (ad3 8), .ref (ad3 0)] ad3 (SH.take 9) (MB_4) 8 68
  refine go_dup rfl dX8_init_19 ?_
  refine go_callIN (st := [.ref (ad3 8), .ref (ad3 0)]) (As := []) (i_X4_init_8 _ hcl4) tw_101 tw_102 rfl me_X4_init.1 me_X4_init.2.1 me_X4_init.2.2.1 me_X4_init.2.2.2 (by decide) rfl (Nat.le_of_ble_eq_true rfl) (by decide) dX8_init_20 (fun v ad4 sh1 μ1 hq => ?_)
  obtain ⟨rfl, he4, rfl, rfl, hcx4⟩ := hq
  rw [← he4 0 (by decide)]
  rw [← he4 8 (by decide)]
  have hcl5 : g_cl0 (SH.take 15) (MB_5) := hcx4
  change g_go X _ _ _ _ _ _ _ 23 [(0, .ref (ad4 0))] [.ref (ad4 8), .ref (ad4 0)] ad4 (SH.take 15) (MB_5) 14 110
  refine go_putFr (ci := 6) (i := 0) (f := 1) (r := some 8) cl6.2.2.1 cl6.2.2.2 cl6.1 inX8 rfl (by decide) tw_280 rfl rfl rfl (Or.inl ⟨_, rfl⟩) dX8_init_23 ?_
  have hcl6 : g_cl0 (SH.take 15) (MB_6) := cl_WR hcl5 (by decide)
  change g_go X _ _ _ _ _ _ _ 26 [(0, .ref (ad4 0))] [] ad4 (SH.take 15) (MB_6) 14 110
  refine go_aload_n rfl 0 rfl dX8_init_26 ?_
  refine go_new hcl6 cl2.1 inX4 cl2.2.2.1 tw_99 tw_100 tw_73 (fun q hq => dv_ok ((by decide : ∀ q, q < 13 → g_okT (g_ty 2 q) = true) q hq)) (by decide) dX8_init_27 (fun ad5 he5 => ?_)
  rw [← he5 0 (by decide)]
  have hcl7 : g_cl0 (SH.take 16) (MB_7) := cl_push hcl6
  change g_go X _ _ _ _ _ _ _ 30 [(0, .ref (ad5 0))] [.ref (ad5 15), .ref (ad5 0)] ad5 (SH.take 16) (MB_7) 15 123
  refine go_dup rfl dX8_init_30 ?_
  refine go_callIN (st := [.ref (ad5 15), .ref (ad5 0)]) (As := []) (i_X4_init_15 _ hcl7) tw_101 tw_102 rfl me_X4_init.1 me_X4_init.2.1 me_X4_init.2.2.1 me_X4_init.2.2.2 (by decide) rfl (Nat.le_of_ble_eq_true rfl) (by decide) dX8_init_31 (fun v ad6 sh1 μ1 hq => ?_)
  obtain ⟨rfl, he6, rfl, rfl, hcx6⟩ := hq
  rw [← he6 0 (by decide)]
  rw [← he6 15 (by decide)]
  have hcl8 : g_cl0 (SH.take 22) (MB_8) := hcx6
  change g_go X _ _ _ _ _ _ _ 34 [(0, .ref (ad6 0))] [.ref (ad6 15), .ref (ad6 0)] ad6 (SH.take 22) (MB_8) 21 165
  refine go_putFr (ci := 6) (i := 0) (f := 2) (r := some 15) cl6.2.2.1 cl6.2.2.2 cl6.1 inX8 rfl (by decide) tw_281 rfl rfl rfl (Or.inl ⟨_, rfl⟩) dX8_init_34 ?_
  have hcl9 : g_cl0 (SH.take 22) (MB_9) := cl_WR hcl8 (by decide)
  change g_go X _ _ _ _ _ _ _ 37 [(0, .ref (ad6 0))] [] ad6 (SH.take 22) (MB_9) 21 165
  refine go_aload_n rfl 0 rfl dX8_init_37 ?_
  refine go_bipush kz_bipush_8 dX8_init_38 ?_
  refine go_newaS (N := 8) hcl9 tw_171 (by decide) (by decide) (by decide) (by decide) dX8_init_40 (fun ad7 he7 => ?_)
  rw [← he7 0 (by decide)]
  have hcl10 : g_cl0 (SH.take 23) (MB_10) := cl_push hcl9
  change g_go X _ _ _ _ _ _ _ 43 [(0, .ref (ad7 0))] [.ref (ad7 22), .ref (ad7 0)] ad7 (SH.take 23) (MB_10) 22 173
  refine go_putFr (ci := 6) (i := 0) (f := 3) (r := some 22) cl6.2.2.1 cl6.2.2.2 cl6.1 inX8 rfl (by decide) tw_282 rfl rfl rfl (Or.inr ⟨_, rfl⟩) dX8_init_43 ?_
  have hcl11 : g_cl0 (SH.take 23) (MB_11) := cl_WR hcl10 (by decide)
  change g_go X _ _ _ _ _ _ _ 46 [(0, .ref (ad7 0))] [] ad7 (SH.take 23) (MB_11) 22 173
  refine go_aload_n rfl 0 rfl dX8_init_46 ?_
  refine go_bipush kz_bipush_8 dX8_init_47 ?_
  refine go_newaI (N := 8) hcl11 tw_170 (by decide) (by decide) (by decide) (by decide) dX8_init_49 (fun ad8 he8 => ?_)
  rw [← he8 0 (by decide)]
  have hcl12 : g_cl0 (SH.take 24) (MB_12) := cl_push hcl11
  change g_go X _ _ _ _ _ _ _ 51 [(0, .ref (ad8 0))] [.ref (ad8 23), .ref (ad8 0)] ad8 (SH.take 24) (MB_12) 23 181
  refine go_putFr (ci := 6) (i := 0) (f := 4) (r := some 23) cl6.2.2.1 cl6.2.2.2 cl6.1 inX8 rfl (by decide) tw_283 rfl rfl rfl (Or.inr ⟨_, rfl⟩) dX8_init_51 ?_
  have hcl13 : g_cl0 (SH.take 24) (MB_13) := cl_WR hcl12 (by decide)
  change g_go X _ _ _ _ _ _ _ 54 [(0, .ref (ad8 0))] [] ad8 (SH.take 24) (MB_13) 23 181
  refine go_aload_n rfl 0 rfl dX8_init_54 ?_
  refine go_new hcl13 cl5.1 inX7 cl5.2.2.1 tw_173 tw_174 tw_74 (fun q hq => dv_ok ((by decide : ∀ q, q < 5 → g_okT (g_ty 5 q) = true) q hq)) (by decide) dX8_init_55 (fun ad9 he9 => ?_)
  rw [← he9 0 (by decide)]
  have hcl14 : g_cl0 (SH.take 25) (MB_14) := cl_push hcl13
  change g_go X _ _ _ _ _ _ _ 58 [(0, .ref (ad9 0))] [.ref (ad9 24), .ref (ad9 0)] ad9 (SH.take 25) (MB_14) 24 186
  refine go_dup rfl dX8_init_58 ?_
  refine go_callIN (st := [.ref (ad9 24), .ref (ad9 0)]) (As := []) (i_X7_init_24 _ hcl14) tw_175 tw_176 rfl me_X7_init.1 me_X7_init.2.1 me_X7_init.2.2.1 me_X7_init.2.2.2 (by decide) rfl (Nat.le_of_ble_eq_true rfl) (by decide) dX8_init_59 (fun v ad10 sh1 μ1 hq => ?_)
  obtain ⟨rfl, he10, rfl, rfl, hcx10⟩ := hq
  rw [← he10 0 (by decide)]
  rw [← he10 24 (by decide)]
  have hcl15 : g_cl0 (SH.take 30) (MB_15) := hcx10
  change g_go X _ _ _ _ _ _ _ 62 [(0, .ref (ad10 0))] [.ref (ad10 24), .ref (ad10 0)] ad10 (SH.take 30) (MB_15) 29 431
  refine go_putFr (ci := 6) (i := 0) (f := 5) (r := some 24) cl6.2.2.1 cl6.2.2.2 cl6.1 inX8 rfl (by decide) tw_284 rfl rfl rfl (Or.inl ⟨_, rfl⟩) dX8_init_62 ?_
  have hcl16 : g_cl0 (SH.take 30) (MB_16) := cl_WR hcl15 (by decide)
  change g_go X _ _ _ _ _ _ _ 65 [(0, .ref (ad10 0))] [] ad10 (SH.take 30) (MB_16) 29 431
  refine go_aload_n rfl 0 rfl dX8_init_65 ?_
  refine go_new hcl16 cl1.1 inX2 cl1.2.2.1 tw_198 tw_199 tw_75 (fun q hq => dv_ok ((by decide : ∀ q, q < 2 → g_okT (g_ty 1 q) = true) q hq)) (by decide) dX8_init_66 (fun ad11 he11 => ?_)
  rw [← he11 0 (by decide)]
  have hcl17 : g_cl0 (SH.take 31) (MB_17) := cl_push hcl16
  change g_go X _ _ _ _ _ _ _ 69 [(0, .ref (ad11 0))] [.ref (ad11 30), .ref (ad11 0)] ad11 (SH.take 31) (MB_17) 30 433
  refine go_dup rfl dX8_init_69 ?_
  refine go_callIN (st := [.ref (ad11 30), .ref (ad11 0)]) (As := []) (i_X2_init_30 _ hcl17) tw_200 tw_201 rfl me_X2_init.1 me_X2_init.2.1 me_X2_init.2.2.1 me_X2_init.2.2.2 (by decide) rfl (Nat.le_of_ble_eq_true rfl) (by decide) dX8_init_70 (fun v ad12 sh1 μ1 hq => ?_)
  obtain ⟨rfl, he12, rfl, rfl, hcx12⟩ := hq
  rw [← he12 0 (by decide)]
  rw [← he12 30 (by decide)]
  have hcl18 : g_cl0 (SH.take 33) (MB_18) := hcx12
  change g_go X _ _ _ _ _ _ _ 73 [(0, .ref (ad12 0))] [.ref (ad12 30), .ref (ad12 0)] ad12 (SH.take 33) (MB_18) 32 471
  refine go_putFr (ci := 6) (i := 0) (f := 6) (r := some 30) cl6.2.2.1 cl6.2.2.2 cl6.1 inX8 rfl (by decide) tw_285 rfl rfl rfl (Or.inl ⟨_, rfl⟩) dX8_init_73 ?_
  have hcl19 : g_cl0 (SH.take 33) (MB_19) := cl_WR hcl18 (by decide)
  change g_go X _ _ _ _ _ _ _ 76 [(0, .ref (ad12 0))] [] ad12 (SH.take 33) (MB_19) 32 471
  refine go_aload_n rfl 0 rfl dX8_init_76 ?_
  refine go_new hcl19 cl3.1 inX5 cl3.2.2.1 tw_214 tw_215 tw_76 (fun q hq => dv_ok ((by decide : ∀ q, q < 5 → g_okT (g_ty 3 q) = true) q hq)) (by decide) dX8_init_77 (fun ad13 he13 => ?_)
  rw [← he13 0 (by decide)]
  have hcl20 : g_cl0 (SH.take 34) (MB_20) := cl_push hcl19
  change g_go X _ _ _ _ _ _ _ 80 [(0, .ref (ad13 0))] [.ref (ad13 33), .ref (ad13 0)] ad13 (SH.take 34) (MB_20) 33 476
  refine go_dup rfl dX8_init_80 ?_
  refine go_callIN (st := [.ref (ad13 33), .ref (ad13 0)]) (As := []) (i_X5_init_33 _ hcl20) tw_216 tw_217 rfl me_X5_init.1 me_X5_init.2.1 me_X5_init.2.2.1 me_X5_init.2.2.2 (by decide) rfl (Nat.le_of_ble_eq_true rfl) (by decide) dX8_init_81 (fun v ad14 sh1 μ1 hq => ?_)
  obtain ⟨rfl, he14, rfl, rfl, hcx14⟩ := hq
  rw [← he14 0 (by decide)]
  rw [← he14 33 (by decide)]
  have hcl21 : g_cl0 (SH.take 35) (MB_21) := hcx14
  change g_go X _ _ _ _ _ _ _ 84 [(0, .ref (ad14 0))] [.ref (ad14 33), .ref (ad14 0)] ad14 (SH.take 35) (MB_21) 34 636
  refine go_putFr (ci := 6) (i := 0) (f := 7) (r := some 33) cl6.2.2.1 cl6.2.2.2 cl6.1 inX8 rfl (by decide) tw_286 rfl rfl rfl (Or.inl ⟨_, rfl⟩) dX8_init_84 ?_
  have hcl22 : g_cl0 (SH.take 35) (MB_22) := cl_WR hcl21 (by decide)
  change g_go X _ _ _ _ _ _ _ 87 [(0, .ref (ad14 0))] [] ad14 (SH.take 35) (MB_22) 34 636
  refine go_aload_n rfl 0 rfl dX8_init_87 ?_
  refine go_new hcl22 cl0.1 inX1 cl0.2.2.1 tw_237 tw_238 tw_77 (fun q hq => dv_ok ((by decide : ∀ q, q < 5 → g_okT (g_ty 0 q) = true) q hq)) (by decide) dX8_init_88 (fun ad15 he15 => ?_)
  rw [← he15 0 (by decide)]
  have hcl23 : g_cl0 (SH.take 36) (MB_23) := cl_push hcl22
  change g_go X _ _ _ _ _ _ _ 91 [(0, .ref (ad15 0))] [.ref (ad15 35), .ref (ad15 0)] ad15 (SH.take 36) (MB_23) 35 641
  refine go_dup rfl dX8_init_91 ?_
  refine go_callIN (st := [.ref (ad15 35), .ref (ad15 0)]) (As := []) (i_X1_init_35 _ hcl23) tw_239 tw_240 rfl me_X1_init.1 me_X1_init.2.1 me_X1_init.2.2.1 me_X1_init.2.2.2 (by decide) rfl (Nat.le_of_ble_eq_true rfl) (by decide) dX8_init_92 (fun v ad16 sh1 μ1 hq => ?_)
  obtain ⟨rfl, he16, rfl, rfl, hcx16⟩ := hq
  rw [← he16 0 (by decide)]
  rw [← he16 35 (by decide)]
  have hcl24 : g_cl0 (SH.take 37) (MB_24) := hcx16
  change g_go X _ _ _ _ _ _ _ 95 [(0, .ref (ad16 0))] [.ref (ad16 35), .ref (ad16 0)] ad16 (SH.take 37) (MB_24) 36 661
  refine go_putFr (ci := 6) (i := 0) (f := 8) (r := some 35) cl6.2.2.1 cl6.2.2.2 cl6.1 inX8 rfl (by decide) tw_287 rfl rfl rfl (Or.inl ⟨_, rfl⟩) dX8_init_95 ?_
  have hcl25 : g_cl0 (SH.take 37) (MB_25) := cl_WR hcl24 (by decide)
  change g_go X _ _ _ _ _ _ _ 98 [(0, .ref (ad16 0))] [] ad16 (SH.take 37) (MB_25) 36 661
  refine go_aload_n rfl 0 rfl dX8_init_98 ?_
  refine go_iconst kz_iconst_0 dX8_init_99 ?_
  refine go_putz (ci := 6) (i := 0) (f := 9) cl6.2.2.1 cl6.2.2.2 cl6.1 inX8 rfl (by decide) tw_288 rfl rfl rfl rfl dX8_init_100 ?_
  have hcl26 : g_cl0 (SH.take 37) (MB_26) := cl_WI hcl25
  change g_go X _ _ _ _ _ _ _ 103 [(0, .ref (ad16 0))] [] ad16 (SH.take 37) (MB_26) 36 661
  refine go_aload_n rfl 0 rfl dX8_init_103 ?_
  refine go_iconst kz_iconst_m1 dX8_init_104 ?_
  refine go_puti (ci := 6) (i := 0) (f := 10) cl6.2.2.1 cl6.2.2.2 cl6.1 inX8 rfl (by decide) tw_289 rfl rfl dX8_init_105 ?_
  have hcl27 : g_cl0 (SH.take 37) (MB_27) := cl_WI hcl26
  change g_go X _ _ _ _ _ _ _ 108 [(0, .ref (ad16 0))] [] ad16 (SH.take 37) (MB_27) 36 661
  refine go_iconst kz_iconst_0 dX8_init_108 ?_
  refine go_istore_n (l' := [(1, .int 0), (0, .ref (ad16 0))]) dX8_init_109 rfl (by decide) rfl ?_
  refine go_iload_n rfl 0 rfl dX8_init_110 ?_
  refine go_bipush kz_bipush_8 dX8_init_111 ?_
  refine go_icmp_ge (tgt := 135) dX8_init_113 rfl (fun hc => absurd hc (by decide)) (fun hc => ?_)
  refine go_aload_n rfl 1 rfl dX8_init_116 ?_
  have hg27 : (MB_27).2.2 0 3 = some 22 := by decide +kernel
  refine go_get (ci := 6) (i := 0) (f := 3) (v := .ref (ad16 22)) cl6.1 inX8 rfl (by decide) tw_282 (by show va_rf (((MB_27).2.2 0 3).map ad16) = _; rw [hg27]; rfl) dX8_init_117 ?_
  refine go_iload_n rfl 0 rfl dX8_init_120 ?_
  refine go_new hcl27 cl4.1 inX6 cl4.2.2.1 tw_171 tw_260 tw_78 (fun q hq => dv_ok ((by decide : ∀ q, q < 3 → g_okT (g_ty 4 q) = true) q hq)) (by decide) dX8_init_121 (fun ad17 he17 => ?_)
  rw [← he17 0 (by decide)]
  rw [← he17 22 (by decide)]
  have hcl28 : g_cl0 (SH.take 38) (MB_28) := cl_push hcl27
  change g_go X _ _ _ _ _ _ _ 124 [(1, .int 0), (0, .ref (ad17 0))] [.ref (ad17 37), .int 0, .ref (ad17 22)] ad17 (SH.take 38) (MB_28) 37 664
  refine go_dup rfl dX8_init_124 ?_
  refine go_callIN (st := [.ref (ad17 37), .int 0, .ref (ad17 22)]) (As := []) (i_X6_init_37 _ hcl28) tw_261 tw_262 rfl me_X6_init.1 me_X6_init.2.1 me_X6_init.2.2.1 me_X6_init.2.2.2 (by decide) rfl (Nat.le_of_ble_eq_true rfl) (by decide) dX8_init_125 (fun v ad18 sh1 μ1 hq => ?_)
  obtain ⟨rfl, he18, rfl, rfl, hcx18⟩ := hq
  rw [← he18 0 (by decide)]
  rw [← he18 22 (by decide)]
  rw [← he18 37 (by decide)]
  have hcl29 : g_cl0 (SH.take 39) (MB_29) := hcx18
  change g_go X _ _ _ _ _ _ _ 128 [(1, .int 0), (0, .ref (ad18 0))] [.ref (ad18 37), .int 0, .ref (ad18 22)] ad18 (SH.take 39) (MB_29) 38 824
  refine go_aast (i := 22) (N := 8) (r := 37) (c0 := 0) rfl (inb_in (by decide)) rfl dX8_init_128 ?_
  have hcl30 : g_cl0 (SH.take 39) (MB_30) := cl_WR hcl29 (by decide)
  change g_go X _ _ _ _ _ _ _ 129 [(1, .int 0), (0, .ref (ad18 0))] [] ad18 (SH.take 39) (MB_30) 38 824
  refine go_iinc (v := 1) (l' := [(1, .int 1), (0, .ref (ad18 0))]) dX8_init_129 0 rfl (by decide) (by decide) rfl ?_
  refine go_goto (tgt := 110) dX8_init_132 rfl ?_
  refine go_iload_n rfl 0 rfl dX8_init_110 ?_
  refine go_bipush kz_bipush_8 dX8_init_111 ?_
  refine go_icmp_ge (tgt := 135) dX8_init_113 rfl (fun hc => absurd hc (by decide)) (fun hc => ?_)
  refine go_aload_n rfl 1 rfl dX8_init_116 ?_
  have hg30 : (MB_30).2.2 0 3 = some 22 := by decide +kernel
  refine go_get (ci := 6) (i := 0) (f := 3) (v := .ref (ad18 22)) cl6.1 inX8 rfl (by decide) tw_282 (by show va_rf (((MB_30).2.2 0 3).map ad18) = _; rw [hg30]; rfl) dX8_init_117 ?_
  refine go_iload_n rfl 0 rfl dX8_init_120 ?_
  refine go_new hcl30 cl4.1 inX6 cl4.2.2.1 tw_171 tw_260 tw_78 (fun q hq => dv_ok ((by decide : ∀ q, q < 3 → g_okT (g_ty 4 q) = true) q hq)) (by decide) dX8_init_121 (fun ad19 he19 => ?_)
  rw [← he19 0 (by decide)]
  rw [← he19 22 (by decide)]
  have hcl31 : g_cl0 (SH.take 40) (MB_31) := cl_push hcl30
  change g_go X _ _ _ _ _ _ _ 124 [(1, .int 1), (0, .ref (ad19 0))] [.ref (ad19 39), .int 1, .ref (ad19 22)] ad19 (SH.take 40) (MB_31) 39 827
  refine go_dup rfl dX8_init_124 ?_
  refine go_callIN (st := [.ref (ad19 39), .int 1, .ref (ad19 22)]) (As := []) (i_X6_init_39 _ hcl31) tw_261 tw_262 rfl me_X6_init.1 me_X6_init.2.1 me_X6_init.2.2.1 me_X6_init.2.2.2 (by decide) rfl (Nat.le_of_ble_eq_true rfl) (by decide) dX8_init_125 (fun v ad20 sh1 μ1 hq => ?_)
  obtain ⟨rfl, he20, rfl, rfl, hcx20⟩ := hq
  rw [← he20 0 (by decide)]
  rw [← he20 22 (by decide)]
  rw [← he20 39 (by decide)]
  have hcl32 : g_cl0 (SH.take 41) (MB_32) := hcx20
  change g_go X _ _ _ _ _ _ _ 128 [(1, .int 1), (0, .ref (ad20 0))] [.ref (ad20 39), .int 1, .ref (ad20 22)] ad20 (SH.take 41) (MB_32) 40 987
  refine go_aast (i := 22) (N := 8) (r := 39) (c0 := 0) rfl (inb_in (by decide)) rfl dX8_init_128 ?_
  have hcl33 : g_cl0 (SH.take 41) (MB_33) := cl_WR hcl32 (by decide)
  change g_go X _ _ _ _ _ _ _ 129 [(1, .int 1), (0, .ref (ad20 0))] [] ad20 (SH.take 41) (MB_33) 40 987
  refine go_iinc (v := 2) (l' := [(1, .int 2), (0, .ref (ad20 0))]) dX8_init_129 0 rfl (by decide) (by decide) rfl ?_
  refine go_goto (tgt := 110) dX8_init_132 rfl ?_
  refine go_iload_n rfl 0 rfl dX8_init_110 ?_
  refine go_bipush kz_bipush_8 dX8_init_111 ?_
  refine go_icmp_ge (tgt := 135) dX8_init_113 rfl (fun hc => absurd hc (by decide)) (fun hc => ?_)
  refine go_aload_n rfl 1 rfl dX8_init_116 ?_
  have hg33 : (MB_33).2.2 0 3 = some 22 := by decide +kernel
  refine go_get (ci := 6) (i := 0) (f := 3) (v := .ref (ad20 22)) cl6.1 inX8 rfl (by decide) tw_282 (by show va_rf (((MB_33).2.2 0 3).map ad20) = _; rw [hg33]; rfl) dX8_init_117 ?_
  refine go_iload_n rfl 0 rfl dX8_init_120 ?_
  refine go_new hcl33 cl4.1 inX6 cl4.2.2.1 tw_171 tw_260 tw_78 (fun q hq => dv_ok ((by decide : ∀ q, q < 3 → g_okT (g_ty 4 q) = true) q hq)) (by decide) dX8_init_121 (fun ad21 he21 => ?_)
  rw [← he21 0 (by decide)]
  rw [← he21 22 (by decide)]
  have hcl34 : g_cl0 (SH.take 42) (MB_34) := cl_push hcl33
  change g_go X _ _ _ _ _ _ _ 124 [(1, .int 2), (0, .ref (ad21 0))] [.ref (ad21 41), .int 2, .ref (ad21 22)] ad21 (SH.take 42) (MB_34) 41 990
  refine go_dup rfl dX8_init_124 ?_
  refine go_callIN (st := [.ref (ad21 41), .int 2, .ref (ad21 22)]) (As := []) (i_X6_init_41 _ hcl34) tw_261 tw_262 rfl me_X6_init.1 me_X6_init.2.1 me_X6_init.2.2.1 me_X6_init.2.2.2 (by decide) rfl (Nat.le_of_ble_eq_true rfl) (by decide) dX8_init_125 (fun v ad22 sh1 μ1 hq => ?_)
  obtain ⟨rfl, he22, rfl, rfl, hcx22⟩ := hq
  rw [← he22 0 (by decide)]
  rw [← he22 22 (by decide)]
  rw [← he22 41 (by decide)]
  have hcl35 : g_cl0 (SH.take 43) (MB_35) := hcx22
  change g_go X _ _ _ _ _ _ _ 128 [(1, .int 2), (0, .ref (ad22 0))] [.ref (ad22 41), .int 2, .ref (ad22 22)] ad22 (SH.take 43) (MB_35) 42 1150
  refine go_aast (i := 22) (N := 8) (r := 41) (c0 := 0) rfl (inb_in (by decide)) rfl dX8_init_128 ?_
  have hcl36 : g_cl0 (SH.take 43) (MB_36) := cl_WR hcl35 (by decide)
  change g_go X _ _ _ _ _ _ _ 129 [(1, .int 2), (0, .ref (ad22 0))] [] ad22 (SH.take 43) (MB_36) 42 1150
  refine go_iinc (v := 3) (l' := [(1, .int 3), (0, .ref (ad22 0))]) dX8_init_129 0 rfl (by decide) (by decide) rfl ?_
  refine go_goto (tgt := 110) dX8_init_132 rfl ?_
  refine go_iload_n rfl 0 rfl dX8_init_110 ?_
  refine go_bipush kz_bipush_8 dX8_init_111 ?_
  refine go_icmp_ge (tgt := 135) dX8_init_113 rfl (fun hc => absurd hc (by decide)) (fun hc => ?_)
  refine go_aload_n rfl 1 rfl dX8_init_116 ?_
  have hg36 : (MB_36).2.2 0 3 = some 22 := by decide +kernel
  refine go_get (ci := 6) (i := 0) (f := 3) (v := .ref (ad22 22)) cl6.1 inX8 rfl (by decide) tw_282 (by show va_rf (((MB_36).2.2 0 3).map ad22) = _; rw [hg36]; rfl) dX8_init_117 ?_
  refine go_iload_n rfl 0 rfl dX8_init_120 ?_
  refine go_new hcl36 cl4.1 inX6 cl4.2.2.1 tw_171 tw_260 tw_78 (fun q hq => dv_ok ((by decide : ∀ q, q < 3 → g_okT (g_ty 4 q) = true) q hq)) (by decide) dX8_init_121 (fun ad23 he23 => ?_)
  rw [← he23 0 (by decide)]
  rw [← he23 22 (by decide)]
  have hcl37 : g_cl0 (SH.take 44) (MB_37) := cl_push hcl36
  change g_go X _ _ _ _ _ _ _ 124 [(1, .int 3), (0, .ref (ad23 0))] [.ref (ad23 43), .int 3, .ref (ad23 22)] ad23 (SH.take 44) (MB_37) 43 1153
  refine go_dup rfl dX8_init_124 ?_
  refine go_callIN (st := [.ref (ad23 43), .int 3, .ref (ad23 22)]) (As := []) (i_X6_init_43 _ hcl37) tw_261 tw_262 rfl me_X6_init.1 me_X6_init.2.1 me_X6_init.2.2.1 me_X6_init.2.2.2 (by decide) rfl (Nat.le_of_ble_eq_true rfl) (by decide) dX8_init_125 (fun v ad24 sh1 μ1 hq => ?_)
  obtain ⟨rfl, he24, rfl, rfl, hcx24⟩ := hq
  rw [← he24 0 (by decide)]
  rw [← he24 22 (by decide)]
  rw [← he24 43 (by decide)]
  have hcl38 : g_cl0 (SH.take 45) (MB_38) := hcx24
  change g_go X _ _ _ _ _ _ _ 128 [(1, .int 3), (0, .ref (ad24 0))] [.ref (ad24 43), .int 3, .ref (ad24 22)] ad24 (SH.take 45) (MB_38) 44 1313
  refine go_aast (i := 22) (N := 8) (r := 43) (c0 := 0) rfl (inb_in (by decide)) rfl dX8_init_128 ?_
  have hcl39 : g_cl0 (SH.take 45) (MB_39) := cl_WR hcl38 (by decide)
  change g_go X _ _ _ _ _ _ _ 129 [(1, .int 3), (0, .ref (ad24 0))] [] ad24 (SH.take 45) (MB_39) 44 1313
  refine go_iinc (v := 4) (l' := [(1, .int 4), (0, .ref (ad24 0))]) dX8_init_129 0 rfl (by decide) (by decide) rfl ?_
  refine go_goto (tgt := 110) dX8_init_132 rfl ?_
  refine go_iload_n rfl 0 rfl dX8_init_110 ?_
  refine go_bipush kz_bipush_8 dX8_init_111 ?_
  refine go_icmp_ge (tgt := 135) dX8_init_113 rfl (fun hc => absurd hc (by decide)) (fun hc => ?_)
  refine go_aload_n rfl 1 rfl dX8_init_116 ?_
  have hg39 : (MB_39).2.2 0 3 = some 22 := by decide +kernel
  refine go_get (ci := 6) (i := 0) (f := 3) (v := .ref (ad24 22)) cl6.1 inX8 rfl (by decide) tw_282 (by show va_rf (((MB_39).2.2 0 3).map ad24) = _; rw [hg39]; rfl) dX8_init_117 ?_
  refine go_iload_n rfl 0 rfl dX8_init_120 ?_
  refine go_new hcl39 cl4.1 inX6 cl4.2.2.1 tw_171 tw_260 tw_78 (fun q hq => dv_ok ((by decide : ∀ q, q < 3 → g_okT (g_ty 4 q) = true) q hq)) (by decide) dX8_init_121 (fun ad25 he25 => ?_)
  rw [← he25 0 (by decide)]
  rw [← he25 22 (by decide)]
  have hcl40 : g_cl0 (SH.take 46) (MB_40) := cl_push hcl39
  change g_go X _ _ _ _ _ _ _ 124 [(1, .int 4), (0, .ref (ad25 0))] [.ref (ad25 45), .int 4, .ref (ad25 22)] ad25 (SH.take 46) (MB_40) 45 1316
  refine go_dup rfl dX8_init_124 ?_
  refine go_callIN (st := [.ref (ad25 45), .int 4, .ref (ad25 22)]) (As := []) (i_X6_init_45 _ hcl40) tw_261 tw_262 rfl me_X6_init.1 me_X6_init.2.1 me_X6_init.2.2.1 me_X6_init.2.2.2 (by decide) rfl (Nat.le_of_ble_eq_true rfl) (by decide) dX8_init_125 (fun v ad26 sh1 μ1 hq => ?_)
  obtain ⟨rfl, he26, rfl, rfl, hcx26⟩ := hq
  rw [← he26 0 (by decide)]
  rw [← he26 22 (by decide)]
  rw [← he26 45 (by decide)]
  have hcl41 : g_cl0 (SH.take 47) (MB_41) := hcx26
  change g_go X _ _ _ _ _ _ _ 128 [(1, .int 4), (0, .ref (ad26 0))] [.ref (ad26 45), .int 4, .ref (ad26 22)] ad26 (SH.take 47) (MB_41) 46 1476
  refine go_aast (i := 22) (N := 8) (r := 45) (c0 := 0) rfl (inb_in (by decide)) rfl dX8_init_128 ?_
  have hcl42 : g_cl0 (SH.take 47) (MB_42) := cl_WR hcl41 (by decide)
  change g_go X _ _ _ _ _ _ _ 129 [(1, .int 4), (0, .ref (ad26 0))] [] ad26 (SH.take 47) (MB_42) 46 1476
  refine go_iinc (v := 5) (l' := [(1, .int 5), (0, .ref (ad26 0))]) dX8_init_129 0 rfl (by decide) (by decide) rfl ?_
  refine go_goto (tgt := 110) dX8_init_132 rfl ?_
  refine go_iload_n rfl 0 rfl dX8_init_110 ?_
  refine go_bipush kz_bipush_8 dX8_init_111 ?_
  refine go_icmp_ge (tgt := 135) dX8_init_113 rfl (fun hc => absurd hc (by decide)) (fun hc => ?_)
  refine go_aload_n rfl 1 rfl dX8_init_116 ?_
  have hg42 : (MB_42).2.2 0 3 = some 22 := by decide +kernel
  refine go_get (ci := 6) (i := 0) (f := 3) (v := .ref (ad26 22)) cl6.1 inX8 rfl (by decide) tw_282 (by show va_rf (((MB_42).2.2 0 3).map ad26) = _; rw [hg42]; rfl) dX8_init_117 ?_
  refine go_iload_n rfl 0 rfl dX8_init_120 ?_
  refine go_new hcl42 cl4.1 inX6 cl4.2.2.1 tw_171 tw_260 tw_78 (fun q hq => dv_ok ((by decide : ∀ q, q < 3 → g_okT (g_ty 4 q) = true) q hq)) (by decide) dX8_init_121 (fun ad27 he27 => ?_)
  rw [← he27 0 (by decide)]
  rw [← he27 22 (by decide)]
  have hcl43 : g_cl0 (SH.take 48) (MB_43) := cl_push hcl42
  change g_go X _ _ _ _ _ _ _ 124 [(1, .int 5), (0, .ref (ad27 0))] [.ref (ad27 47), .int 5, .ref (ad27 22)] ad27 (SH.take 48) (MB_43) 47 1479
  refine go_dup rfl dX8_init_124 ?_
  refine go_callIN (st := [.ref (ad27 47), .int 5, .ref (ad27 22)]) (As := []) (i_X6_init_47 _ hcl43) tw_261 tw_262 rfl me_X6_init.1 me_X6_init.2.1 me_X6_init.2.2.1 me_X6_init.2.2.2 (by decide) rfl (Nat.le_of_ble_eq_true rfl) (by decide) dX8_init_125 (fun v ad28 sh1 μ1 hq => ?_)
  obtain ⟨rfl, he28, rfl, rfl, hcx28⟩ := hq
  rw [← he28 0 (by decide)]
  rw [← he28 22 (by decide)]
  rw [← he28 47 (by decide)]
  have hcl44 : g_cl0 (SH.take 49) (MB_44) := hcx28
  change g_go X _ _ _ _ _ _ _ 128 [(1, .int 5), (0, .ref (ad28 0))] [.ref (ad28 47), .int 5, .ref (ad28 22)] ad28 (SH.take 49) (MB_44) 48 1639
  refine go_aast (i := 22) (N := 8) (r := 47) (c0 := 0) rfl (inb_in (by decide)) rfl dX8_init_128 ?_
  have hcl45 : g_cl0 (SH.take 49) (MB_45) := cl_WR hcl44 (by decide)
  change g_go X _ _ _ _ _ _ _ 129 [(1, .int 5), (0, .ref (ad28 0))] [] ad28 (SH.take 49) (MB_45) 48 1639
  refine go_iinc (v := 6) (l' := [(1, .int 6), (0, .ref (ad28 0))]) dX8_init_129 0 rfl (by decide) (by decide) rfl ?_
  refine go_goto (tgt := 110) dX8_init_132 rfl ?_
  refine go_iload_n rfl 0 rfl dX8_init_110 ?_
  refine go_bipush kz_bipush_8 dX8_init_111 ?_
  refine go_icmp_ge (tgt := 135) dX8_init_113 rfl (fun hc => absurd hc (by decide)) (fun hc => ?_)
  refine go_aload_n rfl 1 rfl dX8_init_116 ?_
  have hg45 : (MB_45).2.2 0 3 = some 22 := by decide +kernel
  refine go_get (ci := 6) (i := 0) (f := 3) (v := .ref (ad28 22)) cl6.1 inX8 rfl (by decide) tw_282 (by show va_rf (((MB_45).2.2 0 3).map ad28) = _; rw [hg45]; rfl) dX8_init_117 ?_
  refine go_iload_n rfl 0 rfl dX8_init_120 ?_
  refine go_new hcl45 cl4.1 inX6 cl4.2.2.1 tw_171 tw_260 tw_78 (fun q hq => dv_ok ((by decide : ∀ q, q < 3 → g_okT (g_ty 4 q) = true) q hq)) (by decide) dX8_init_121 (fun ad29 he29 => ?_)
  rw [← he29 0 (by decide)]
  rw [← he29 22 (by decide)]
  have hcl46 : g_cl0 (SH.take 50) (MB_46) := cl_push hcl45
  change g_go X _ _ _ _ _ _ _ 124 [(1, .int 6), (0, .ref (ad29 0))] [.ref (ad29 49), .int 6, .ref (ad29 22)] ad29 (SH.take 50) (MB_46) 49 1642
  refine go_dup rfl dX8_init_124 ?_
  refine go_callIN (st := [.ref (ad29 49), .int 6, .ref (ad29 22)]) (As := []) (i_X6_init_49 _ hcl46) tw_261 tw_262 rfl me_X6_init.1 me_X6_init.2.1 me_X6_init.2.2.1 me_X6_init.2.2.2 (by decide) rfl (Nat.le_of_ble_eq_true rfl) (by decide) dX8_init_125 (fun v ad30 sh1 μ1 hq => ?_)
  obtain ⟨rfl, he30, rfl, rfl, hcx30⟩ := hq
  rw [← he30 0 (by decide)]
  rw [← he30 22 (by decide)]
  rw [← he30 49 (by decide)]
  have hcl47 : g_cl0 (SH.take 51) (MB_47) := hcx30
  change g_go X _ _ _ _ _ _ _ 128 [(1, .int 6), (0, .ref (ad30 0))] [.ref (ad30 49), .int 6, .ref (ad30 22)] ad30 (SH.take 51) (MB_47) 50 1802
  refine go_aast (i := 22) (N := 8) (r := 49) (c0 := 0) rfl (inb_in (by decide)) rfl dX8_init_128 ?_
  have hcl48 : g_cl0 (SH.take 51) (MB_48) := cl_WR hcl47 (by decide)
  change g_go X _ _ _ _ _ _ _ 129 [(1, .int 6), (0, .ref (ad30 0))] [] ad30 (SH.take 51) (MB_48) 50 1802
  refine go_iinc (v := 7) (l' := [(1, .int 7), (0, .ref (ad30 0))]) dX8_init_129 0 rfl (by decide) (by decide) rfl ?_
  refine go_goto (tgt := 110) dX8_init_132 rfl ?_
  refine go_iload_n rfl 0 rfl dX8_init_110 ?_
  refine go_bipush kz_bipush_8 dX8_init_111 ?_
  refine go_icmp_ge (tgt := 135) dX8_init_113 rfl (fun hc => absurd hc (by decide)) (fun hc => ?_)
  refine go_aload_n rfl 1 rfl dX8_init_116 ?_
  have hg48 : (MB_48).2.2 0 3 = some 22 := by decide +kernel
  refine go_get (ci := 6) (i := 0) (f := 3) (v := .ref (ad30 22)) cl6.1 inX8 rfl (by decide) tw_282 (by show va_rf (((MB_48).2.2 0 3).map ad30) = _; rw [hg48]; rfl) dX8_init_117 ?_
  refine go_iload_n rfl 0 rfl dX8_init_120 ?_
  refine go_new hcl48 cl4.1 inX6 cl4.2.2.1 tw_171 tw_260 tw_78 (fun q hq => dv_ok ((by decide : ∀ q, q < 3 → g_okT (g_ty 4 q) = true) q hq)) (by decide) dX8_init_121 (fun ad31 he31 => ?_)
  rw [← he31 0 (by decide)]
  rw [← he31 22 (by decide)]
  have hcl49 : g_cl0 (SH.take 52) (MB_49) := cl_push hcl48
  change g_go X _ _ _ _ _ _ _ 124 [(1, .int 7), (0, .ref (ad31 0))] [.ref (ad31 51), .int 7, .ref (ad31 22)] ad31 (SH.take 52) (MB_49) 51 1805
  refine go_dup rfl dX8_init_124 ?_
  refine go_callIN (st := [.ref (ad31 51), .int 7, .ref (ad31 22)]) (As := []) (i_X6_init_51 _ hcl49) tw_261 tw_262 rfl me_X6_init.1 me_X6_init.2.1 me_X6_init.2.2.1 me_X6_init.2.2.2 (by decide) rfl (Nat.le_of_ble_eq_true rfl) (by decide) dX8_init_125 (fun v ad32 sh1 μ1 hq => ?_)
  obtain ⟨rfl, he32, rfl, rfl, hcx32⟩ := hq
  rw [← he32 0 (by decide)]
  rw [← he32 22 (by decide)]
  rw [← he32 51 (by decide)]
  have hcl50 : g_cl0 (SH.take 53) (MB_50) := hcx32
  change g_go X _ _ _ _ _ _ _ 128 [(1, .int 7), (0, .ref (ad32 0))] [.ref (ad32 51), .int 7, .ref (ad32 22)] ad32 (SH.take 53) (MB_50) 52 1965
  refine go_aast (i := 22) (N := 8) (r := 51) (c0 := 0) rfl (inb_in (by decide)) rfl dX8_init_128 ?_
  have hcl51 : g_cl0 (SH.take 53) (MB_51) := cl_WR hcl50 (by decide)
  change g_go X _ _ _ _ _ _ _ 129 [(1, .int 7), (0, .ref (ad32 0))] [] ad32 (SH.take 53) (MB_51) 52 1965
  refine go_iinc (v := 8) (l' := [(1, .int 8), (0, .ref (ad32 0))]) dX8_init_129 0 rfl (by decide) (by decide) rfl ?_
  refine go_goto (tgt := 110) dX8_init_132 rfl ?_
  refine go_iload_n rfl 0 rfl dX8_init_110 ?_
  refine go_bipush kz_bipush_8 dX8_init_111 ?_
  refine go_icmp_ge (tgt := 135) dX8_init_113 rfl (fun hc => ?_) (fun hc => absurd (by decide) hc)
  exact go_vret (mc := 52) (ms := 1965) dX8_init_135 rfl ⟨rfl, fun i hi => ((he32 i (Nat.lt_of_lt_of_le hi (by decide))).trans ((he31 i (Nat.lt_of_lt_of_le hi (by decide))).trans ((he30 i (Nat.lt_of_lt_of_le hi (by decide))).trans ((he29 i (Nat.lt_of_lt_of_le hi (by decide))).trans ((he28 i (Nat.lt_of_lt_of_le hi (by decide))).trans ((he27 i (Nat.lt_of_lt_of_le hi (by decide))).trans ((he26 i (Nat.lt_of_lt_of_le hi (by decide))).trans ((he25 i (Nat.lt_of_lt_of_le hi (by decide))).trans ((he24 i (Nat.lt_of_lt_of_le hi (by decide))).trans ((he23 i (Nat.lt_of_lt_of_le hi (by decide))).trans ((he22 i (Nat.lt_of_lt_of_le hi (by decide))).trans ((he21 i (Nat.lt_of_lt_of_le hi (by decide))).trans ((he20 i (Nat.lt_of_lt_of_le hi (by decide))).trans ((he19 i (Nat.lt_of_lt_of_le hi (by decide))).trans ((he18 i (Nat.lt_of_lt_of_le hi (by decide))).trans ((he17 i (Nat.lt_of_lt_of_le hi (by decide))).trans ((he16 i (Nat.lt_of_lt_of_le hi (by decide))).trans ((he15 i (Nat.lt_of_lt_of_le hi (by decide))).trans ((he14 i (Nat.lt_of_lt_of_le hi (by decide))).trans ((he13 i (Nat.lt_of_lt_of_le hi (by decide))).trans ((he12 i (Nat.lt_of_lt_of_le hi (by decide))).trans ((he11 i (Nat.lt_of_lt_of_le hi (by decide))).trans ((he10 i (Nat.lt_of_lt_of_le hi (by decide))).trans ((he9 i (Nat.lt_of_lt_of_le hi (by decide))).trans ((he8 i (Nat.lt_of_lt_of_le hi (by decide))).trans ((he7 i (Nat.lt_of_lt_of_le hi (by decide))).trans ((he6 i (Nat.lt_of_lt_of_le hi (by decide))).trans ((he5 i (Nat.lt_of_lt_of_le hi (by decide))).trans ((he4 i (Nat.lt_of_lt_of_le hi (by decide))).trans ((he3 i (Nat.lt_of_lt_of_le hi (by decide))).trans ((he2 i (Nat.lt_of_lt_of_le hi (by decide))).trans (he1 i (Nat.lt_of_lt_of_le hi (by decide)))))))))))))))))))))))))))))))))), rfl, rfl, hcl51⟩
def MC : gM := gCL MB_51 53
theorem me_X9_init : g_me yX9_init cX9_init 2 none 0 := ⟨tw_910, tw_79, ⟨by decide +kernel, by decide +kernel, by decide +kernel⟩, by decide⟩
def MD_1 : gM := gCL (MC) 54
def MD_2 : gM := gWR (MD_1) 53 1 (some 54)
def MD_3 : gM := gCL (MD_2) 55
def MD_4 : gM := gWR (MD_3) 53 2 (some 55)
def MD_5 : gM := gCL (MD_4) 56
def MD_6 : gM := gWR (MD_5) 53 3 (some 56)
def MD_7 : gM := gCL (MD_6) 57
def MD_8 : gM := gWR (MD_7) 53 4 (some 57)
def MD_9 : gM := gCL (MD_8) 58
def MD_10 : gM := gWR (MD_9) 53 5 (some 58)
def MD_11 : gM := gCL (MD_10) 59
def MD_12 : gM := gWR (MD_11) 53 6 (some 59)
def MD_13 : gM := gCL (MD_12) 60
def MD_14 : gM := gWR (MD_13) 53 7 (some 60)
def MD_15 : gM := gCL (MD_14) 61
def MD_16 : gM := gWR (MD_15) 53 8 (some 61)
def MD_17 : gM := gCL (MD_16) 62
def MD_18 : gM := gWR (MD_17) 53 10 (some 62)
def MD_19 : gM := gCL (MD_18) 63
def MD_20 : gM := gWR (MD_19) 53 11 (some 63)
def MD_21 : gM := gCL (MD_20) 64
def MD_22 : gM := gWR (MD_21) 53 12 (some 64)
def MD_23 : gM := gCL (MD_22) 65
def MD_24 : gM := gWR (MD_23) 53 15 (some 65)
def MD_25 : gM := gCL (MD_24) 66
def MD_26 : gM := gWR (MD_25) 53 17 (some 66)
def MD_27 : gM := gCL (MD_26) 67
def MD_28 : gM := gWR (MD_27) 53 19 (some 67)
def MD_29 : gM := gCL (MD_28) 68
def MD_30 : gM := gWR (MD_29) 53 20 (some 68)
def MD_31 : gM := gCL (MD_30) 69
def MD_32 : gM := gWR (MD_31) 53 22 (some 69)
def MD_33 : gM := gCL (MD_32) 70
def MD_34 : gM := gWR (MD_33) 53 25 (some 70)
def MD_35 : gM := gCL (MD_34) 71
def MD_36 : gM := gWR (MD_35) 53 26 (some 71)
def MD_37 : gM := gCL (MD_36) 72
def MD_38 : gM := gWR (MD_37) 53 27 (some 72)
def MD_39 : gM := gWI (MD_38) 61 (0 : Int32).toNatClampNeg 2
def MD_40 : gM := gWI (MD_39) 61 (1 : Int32).toNatClampNeg 20
def MD_41 : gM := gWI (MD_40) 53 9 1
def MD_42 : gM := gWI (MD_41) 53 28 (-1)
def MD_43 : gM := gWI (MD_42) 53 16 (-1)
def MD_44 : gM := gWI (MD_43) 62 (0 : Int32).toNatClampNeg (-1)
def MD_45 : gM := gWI (MD_44) 62 (1 : Int32).toNatClampNeg (-1)
def MD_46 : gM := gWI (MD_45) 62 (2 : Int32).toNatClampNeg (-1)
def MD_47 : gM := gWI (MD_46) 62 (3 : Int32).toNatClampNeg (-1)
def MD_48 : gM := gWI (MD_47) 62 (4 : Int32).toNatClampNeg (-1)
def MD_49 : gM := gWI (MD_48) 62 (5 : Int32).toNatClampNeg (-1)
def MD_50 : gM := gWI (MD_49) 62 (6 : Int32).toNatClampNeg (-1)
def MD_51 : gM := gWI (MD_50) 62 (7 : Int32).toNatClampNeg (-1)
set_option maxRecDepth 20000 in
set_option maxHeartbeats 4000000 in
theorem i_X9_init {X : gX} {ad : Nat → Nat} (_ : Unit) (hcl : g_cl0 (SH.take 54) (MC)) : g_ct X yX9_init cX9_init 2 none 2 19 1810 [.ref (ad 53)] ad (SH.take 54) (MC) (c_Φ 54 ad (SH.take 73) (MD_51)) := by
  refine g_ct_of (l := [(0, .ref (ad 53))]) (by decide) (Nat.le_of_ble_eq_true rfl) rfl ?_
  refine go_aload_n rfl 0 rfl dX9_init_0 ?_
  refine go_objInit tw_911 tw_97 tw_98 (by decide) (Nat.le_of_ble_eq_true rfl) dX9_init_1 ?_
  refine go_aload_n rfl 0 rfl dX9_init_4 ?_
  refine go_bipush kz_bipush_7 dX9_init_5 ?_
  refine go_newaI (N := 7) hcl tw_170 (by decide) (by decide) (by decide) (by decide) dX9_init_7 (fun ad1 he1 => ?_)
  rw [← he1 53 (by decide)]
  have hcl1 : g_cl0 (SH.take 55) (MD_1) := cl_push hcl
  change g_go X _ _ _ _ _ _ _ 9 [(0, .ref (ad1 53))] [.ref (ad1 54), .ref (ad1 53)] ad1 (SH.take 55) (MD_1) 1 7
  refine go_putFr (ci := 7) (i := 53) (f := 1) (r := some 54) cl7.2.2.1 cl7.2.2.2 cl7.1 inX9 rfl (by decide) tw_913 rfl rfl rfl (Or.inr ⟨_, rfl⟩) dX9_init_9 ?_
  have hcl2 : g_cl0 (SH.take 55) (MD_2) := cl_WR hcl1 (by decide)
  change g_go X _ _ _ _ _ _ _ 12 [(0, .ref (ad1 53))] [] ad1 (SH.take 55) (MD_2) 1 7
  refine go_aload_n rfl 0 rfl dX9_init_12 ?_
  refine go_bipush kz_bipush_7 dX9_init_13 ?_
  refine go_newaI (N := 7) hcl2 tw_170 (by decide) (by decide) (by decide) (by decide) dX9_init_15 (fun ad2 he2 => ?_)
  rw [← he2 53 (by decide)]
  have hcl3 : g_cl0 (SH.take 56) (MD_3) := cl_push hcl2
  change g_go X _ _ _ _ _ _ _ 17 [(0, .ref (ad2 53))] [.ref (ad2 55), .ref (ad2 53)] ad2 (SH.take 56) (MD_3) 2 14
  refine go_putFr (ci := 7) (i := 53) (f := 2) (r := some 55) cl7.2.2.1 cl7.2.2.2 cl7.1 inX9 rfl (by decide) tw_914 rfl rfl rfl (Or.inr ⟨_, rfl⟩) dX9_init_17 ?_
  have hcl4 : g_cl0 (SH.take 56) (MD_4) := cl_WR hcl3 (by decide)
  change g_go X _ _ _ _ _ _ _ 20 [(0, .ref (ad2 53))] [] ad2 (SH.take 56) (MD_4) 2 14
  refine go_aload_n rfl 0 rfl dX9_init_20 ?_
  refine go_bipush kz_bipush_7 dX9_init_21 ?_
  refine go_newaI (N := 7) hcl4 tw_170 (by decide) (by decide) (by decide) (by decide) dX9_init_23 (fun ad3 he3 => ?_)
  rw [← he3 53 (by decide)]
  have hcl5 : g_cl0 (SH.take 57) (MD_5) := cl_push hcl4
  change g_go X _ _ _ _ _ _ _ 25 [(0, .ref (ad3 53))] [.ref (ad3 56), .ref (ad3 53)] ad3 (SH.take 57) (MD_5) 3 21
  refine go_putFr (ci := 7) (i := 53) (f := 3) (r := some 56) cl7.2.2.1 cl7.2.2.2 cl7.1 inX9 rfl (by decide) tw_915 rfl rfl rfl (Or.inr ⟨_, rfl⟩) dX9_init_25 ?_
  have hcl6 : g_cl0 (SH.take 57) (MD_6) := cl_WR hcl5 (by decide)
  change g_go X _ _ _ _ _ _ _ 28 [(0, .ref (ad3 53))] [] ad3 (SH.take 57) (MD_6) 3 21
  refine go_aload_n rfl 0 rfl dX9_init_28 ?_
  refine go_bipush kz_bipush_7 dX9_init_29 ?_
  refine go_newaI (N := 7) hcl6 tw_170 (by decide) (by decide) (by decide) (by decide) dX9_init_31 (fun ad4 he4 => ?_)
  rw [← he4 53 (by decide)]
  have hcl7 : g_cl0 (SH.take 58) (MD_7) := cl_push hcl6
  change g_go X _ _ _ _ _ _ _ 33 [(0, .ref (ad4 53))] [.ref (ad4 57), .ref (ad4 53)] ad4 (SH.take 58) (MD_7) 4 28
  refine go_putFr (ci := 7) (i := 53) (f := 4) (r := some 57) cl7.2.2.1 cl7.2.2.2 cl7.1 inX9 rfl (by decide) tw_916 rfl rfl rfl (Or.inr ⟨_, rfl⟩) dX9_init_33 ?_
  have hcl8 : g_cl0 (SH.take 58) (MD_8) := cl_WR hcl7 (by decide)
  change g_go X _ _ _ _ _ _ _ 36 [(0, .ref (ad4 53))] [] ad4 (SH.take 58) (MD_8) 4 28
  refine go_aload_n rfl 0 rfl dX9_init_36 ?_
  refine go_bipush kz_bipush_7 dX9_init_37 ?_
  refine go_newaI (N := 7) hcl8 tw_170 (by decide) (by decide) (by decide) (by decide) dX9_init_39 (fun ad5 he5 => ?_)
  rw [← he5 53 (by decide)]
  have hcl9 : g_cl0 (SH.take 59) (MD_9) := cl_push hcl8
  change g_go X _ _ _ _ _ _ _ 41 [(0, .ref (ad5 53))] [.ref (ad5 58), .ref (ad5 53)] ad5 (SH.take 59) (MD_9) 5 35
  refine go_putFr (ci := 7) (i := 53) (f := 5) (r := some 58) cl7.2.2.1 cl7.2.2.2 cl7.1 inX9 rfl (by decide) tw_917 rfl rfl rfl (Or.inr ⟨_, rfl⟩) dX9_init_41 ?_
  have hcl10 : g_cl0 (SH.take 59) (MD_10) := cl_WR hcl9 (by decide)
  change g_go X _ _ _ _ _ _ _ 44 [(0, .ref (ad5 53))] [] ad5 (SH.take 59) (MD_10) 5 35
  refine go_aload_n rfl 0 rfl dX9_init_44 ?_
  refine go_bipush kz_bipush_7 dX9_init_45 ?_
  refine go_newaI (N := 7) hcl10 tw_170 (by decide) (by decide) (by decide) (by decide) dX9_init_47 (fun ad6 he6 => ?_)
  rw [← he6 53 (by decide)]
  have hcl11 : g_cl0 (SH.take 60) (MD_11) := cl_push hcl10
  change g_go X _ _ _ _ _ _ _ 49 [(0, .ref (ad6 53))] [.ref (ad6 59), .ref (ad6 53)] ad6 (SH.take 60) (MD_11) 6 42
  refine go_putFr (ci := 7) (i := 53) (f := 6) (r := some 59) cl7.2.2.1 cl7.2.2.2 cl7.1 inX9 rfl (by decide) tw_918 rfl rfl rfl (Or.inr ⟨_, rfl⟩) dX9_init_49 ?_
  have hcl12 : g_cl0 (SH.take 60) (MD_12) := cl_WR hcl11 (by decide)
  change g_go X _ _ _ _ _ _ _ 52 [(0, .ref (ad6 53))] [] ad6 (SH.take 60) (MD_12) 6 42
  refine go_aload_n rfl 0 rfl dX9_init_52 ?_
  refine go_bipush kz_bipush_49 dX9_init_53 ?_
  refine go_newaZ (N := 49) hcl12 tw_1000 (by decide) (by decide) (by decide) (by decide) dX9_init_55 (fun ad7 he7 => ?_)
  rw [← he7 53 (by decide)]
  have hcl13 : g_cl0 (SH.take 61) (MD_13) := cl_push hcl12
  change g_go X _ _ _ _ _ _ _ 57 [(0, .ref (ad7 53))] [.ref (ad7 60), .ref (ad7 53)] ad7 (SH.take 61) (MD_13) 7 91
  refine go_putFr (ci := 7) (i := 53) (f := 7) (r := some 60) cl7.2.2.1 cl7.2.2.2 cl7.1 inX9 rfl (by decide) tw_919 rfl rfl rfl (Or.inr ⟨_, rfl⟩) dX9_init_57 ?_
  have hcl14 : g_cl0 (SH.take 61) (MD_14) := cl_WR hcl13 (by decide)
  change g_go X _ _ _ _ _ _ _ 60 [(0, .ref (ad7 53))] [] ad7 (SH.take 61) (MD_14) 7 91
  refine go_aload_n rfl 0 rfl dX9_init_60 ?_
  refine go_iconst kz_iconst_4 dX9_init_61 ?_
  refine go_newaI (N := 4) hcl14 tw_170 (by decide) (by decide) (by decide) (by decide) dX9_init_62 (fun ad8 he8 => ?_)
  rw [← he8 53 (by decide)]
  have hcl15 : g_cl0 (SH.take 62) (MD_15) := cl_push hcl14
  change g_go X _ _ _ _ _ _ _ 64 [(0, .ref (ad8 53))] [.ref (ad8 61), .ref (ad8 53)] ad8 (SH.take 62) (MD_15) 8 95
  refine go_putFr (ci := 7) (i := 53) (f := 8) (r := some 61) cl7.2.2.1 cl7.2.2.2 cl7.1 inX9 rfl (by decide) tw_920 rfl rfl rfl (Or.inr ⟨_, rfl⟩) dX9_init_64 ?_
  have hcl16 : g_cl0 (SH.take 62) (MD_16) := cl_WR hcl15 (by decide)
  change g_go X _ _ _ _ _ _ _ 67 [(0, .ref (ad8 53))] [] ad8 (SH.take 62) (MD_16) 8 95
  refine go_aload_n rfl 0 rfl dX9_init_67 ?_
  refine go_bipush kz_bipush_8 dX9_init_68 ?_
  refine go_newaI (N := 8) hcl16 tw_170 (by decide) (by decide) (by decide) (by decide) dX9_init_70 (fun ad9 he9 => ?_)
  rw [← he9 53 (by decide)]
  have hcl17 : g_cl0 (SH.take 63) (MD_17) := cl_push hcl16
  change g_go X _ _ _ _ _ _ _ 72 [(0, .ref (ad9 53))] [.ref (ad9 62), .ref (ad9 53)] ad9 (SH.take 63) (MD_17) 9 103
  refine go_putFr (ci := 7) (i := 53) (f := 10) (r := some 62) cl7.2.2.1 cl7.2.2.2 cl7.1 inX9 rfl (by decide) tw_922 rfl rfl rfl (Or.inr ⟨_, rfl⟩) dX9_init_72 ?_
  have hcl18 : g_cl0 (SH.take 63) (MD_18) := cl_WR hcl17 (by decide)
  change g_go X _ _ _ _ _ _ _ 75 [(0, .ref (ad9 53))] [] ad9 (SH.take 63) (MD_18) 9 103
  refine go_aload_n rfl 0 rfl dX9_init_75 ?_
  refine go_bipush kz_bipush_8 dX9_init_76 ?_
  refine go_newaI (N := 8) hcl18 tw_170 (by decide) (by decide) (by decide) (by decide) dX9_init_78 (fun ad10 he10 => ?_)
  rw [← he10 53 (by decide)]
  have hcl19 : g_cl0 (SH.take 64) (MD_19) := cl_push hcl18
  change g_go X _ _ _ _ _ _ _ 80 [(0, .ref (ad10 53))] [.ref (ad10 63), .ref (ad10 53)] ad10 (SH.take 64) (MD_19) 10 111
  refine go_putFr (ci := 7) (i := 53) (f := 11) (r := some 63) cl7.2.2.1 cl7.2.2.2 cl7.1 inX9 rfl (by decide) tw_923 rfl rfl rfl (Or.inr ⟨_, rfl⟩) dX9_init_80 ?_
  have hcl20 : g_cl0 (SH.take 64) (MD_20) := cl_WR hcl19 (by decide)
  change g_go X _ _ _ _ _ _ _ 83 [(0, .ref (ad10 53))] [] ad10 (SH.take 64) (MD_20) 10 111
  refine go_aload_n rfl 0 rfl dX9_init_83 ?_
  refine go_sipush kz_sipush_1280 dX9_init_84 ?_
  refine go_newaJ (N := 1280) hcl20 tw_213 (by decide) (by decide) (by decide) (by decide) dX9_init_87 (fun ad11 he11 => ?_)
  rw [← he11 53 (by decide)]
  have hcl21 : g_cl0 (SH.take 65) (MD_21) := cl_push hcl20
  change g_go X _ _ _ _ _ _ _ 89 [(0, .ref (ad11 53))] [.ref (ad11 64), .ref (ad11 53)] ad11 (SH.take 65) (MD_21) 11 1391
  refine go_putFr (ci := 7) (i := 53) (f := 12) (r := some 64) cl7.2.2.1 cl7.2.2.2 cl7.1 inX9 rfl (by decide) tw_924 rfl rfl rfl (Or.inr ⟨_, rfl⟩) dX9_init_89 ?_
  have hcl22 : g_cl0 (SH.take 65) (MD_22) := cl_WR hcl21 (by decide)
  change g_go X _ _ _ _ _ _ _ 92 [(0, .ref (ad11 53))] [] ad11 (SH.take 65) (MD_22) 11 1391
  refine go_aload_n rfl 0 rfl dX9_init_92 ?_
  refine go_iconst kz_iconst_5 dX9_init_93 ?_
  refine go_newaI (N := 5) hcl22 tw_170 (by decide) (by decide) (by decide) (by decide) dX9_init_94 (fun ad12 he12 => ?_)
  rw [← he12 53 (by decide)]
  have hcl23 : g_cl0 (SH.take 66) (MD_23) := cl_push hcl22
  change g_go X _ _ _ _ _ _ _ 96 [(0, .ref (ad12 53))] [.ref (ad12 65), .ref (ad12 53)] ad12 (SH.take 66) (MD_23) 12 1396
  refine go_putFr (ci := 7) (i := 53) (f := 15) (r := some 65) cl7.2.2.1 cl7.2.2.2 cl7.1 inX9 rfl (by decide) tw_927 rfl rfl rfl (Or.inr ⟨_, rfl⟩) dX9_init_96 ?_
  have hcl24 : g_cl0 (SH.take 66) (MD_24) := cl_WR hcl23 (by decide)
  change g_go X _ _ _ _ _ _ _ 99 [(0, .ref (ad12 53))] [] ad12 (SH.take 66) (MD_24) 12 1396
  refine go_aload_n rfl 0 rfl dX9_init_99 ?_
  refine go_bipush kz_bipush_96 dX9_init_100 ?_
  refine go_newaI (N := 96) hcl24 tw_170 (by decide) (by decide) (by decide) (by decide) dX9_init_102 (fun ad13 he13 => ?_)
  rw [← he13 53 (by decide)]
  have hcl25 : g_cl0 (SH.take 67) (MD_25) := cl_push hcl24
  change g_go X _ _ _ _ _ _ _ 104 [(0, .ref (ad13 53))] [.ref (ad13 66), .ref (ad13 53)] ad13 (SH.take 67) (MD_25) 13 1492
  refine go_putFr (ci := 7) (i := 53) (f := 17) (r := some 66) cl7.2.2.1 cl7.2.2.2 cl7.1 inX9 rfl (by decide) tw_929 rfl rfl rfl (Or.inr ⟨_, rfl⟩) dX9_init_104 ?_
  have hcl26 : g_cl0 (SH.take 67) (MD_26) := cl_WR hcl25 (by decide)
  change g_go X _ _ _ _ _ _ _ 107 [(0, .ref (ad13 53))] [] ad13 (SH.take 67) (MD_26) 13 1492
  refine go_aload_n rfl 0 rfl dX9_init_107 ?_
  refine go_bipush kz_bipush_20 dX9_init_108 ?_
  refine go_newaI (N := 20) hcl26 tw_170 (by decide) (by decide) (by decide) (by decide) dX9_init_110 (fun ad14 he14 => ?_)
  rw [← he14 53 (by decide)]
  have hcl27 : g_cl0 (SH.take 68) (MD_27) := cl_push hcl26
  change g_go X _ _ _ _ _ _ _ 112 [(0, .ref (ad14 53))] [.ref (ad14 67), .ref (ad14 53)] ad14 (SH.take 68) (MD_27) 14 1512
  refine go_putFr (ci := 7) (i := 53) (f := 19) (r := some 67) cl7.2.2.1 cl7.2.2.2 cl7.1 inX9 rfl (by decide) tw_931 rfl rfl rfl (Or.inr ⟨_, rfl⟩) dX9_init_112 ?_
  have hcl28 : g_cl0 (SH.take 68) (MD_28) := cl_WR hcl27 (by decide)
  change g_go X _ _ _ _ _ _ _ 115 [(0, .ref (ad14 53))] [] ad14 (SH.take 68) (MD_28) 14 1512
  refine go_aload_n rfl 0 rfl dX9_init_115 ?_
  refine go_bipush kz_bipush_8 dX9_init_116 ?_
  refine go_newaI (N := 8) hcl28 tw_170 (by decide) (by decide) (by decide) (by decide) dX9_init_118 (fun ad15 he15 => ?_)
  rw [← he15 53 (by decide)]
  have hcl29 : g_cl0 (SH.take 69) (MD_29) := cl_push hcl28
  change g_go X _ _ _ _ _ _ _ 120 [(0, .ref (ad15 53))] [.ref (ad15 68), .ref (ad15 53)] ad15 (SH.take 69) (MD_29) 15 1520
  refine go_putFr (ci := 7) (i := 53) (f := 20) (r := some 68) cl7.2.2.1 cl7.2.2.2 cl7.1 inX9 rfl (by decide) tw_932 rfl rfl rfl (Or.inr ⟨_, rfl⟩) dX9_init_120 ?_
  have hcl30 : g_cl0 (SH.take 69) (MD_30) := cl_WR hcl29 (by decide)
  change g_go X _ _ _ _ _ _ _ 123 [(0, .ref (ad15 53))] [] ad15 (SH.take 69) (MD_30) 15 1520
  refine go_aload_n rfl 0 rfl dX9_init_123 ?_
  refine go_bipush kz_bipush_96 dX9_init_124 ?_
  refine go_newaI (N := 96) hcl30 tw_170 (by decide) (by decide) (by decide) (by decide) dX9_init_126 (fun ad16 he16 => ?_)
  rw [← he16 53 (by decide)]
  have hcl31 : g_cl0 (SH.take 70) (MD_31) := cl_push hcl30
  change g_go X _ _ _ _ _ _ _ 128 [(0, .ref (ad16 53))] [.ref (ad16 69), .ref (ad16 53)] ad16 (SH.take 70) (MD_31) 16 1616
  refine go_putFr (ci := 7) (i := 53) (f := 22) (r := some 69) cl7.2.2.1 cl7.2.2.2 cl7.1 inX9 rfl (by decide) tw_934 rfl rfl rfl (Or.inr ⟨_, rfl⟩) dX9_init_128 ?_
  have hcl32 : g_cl0 (SH.take 70) (MD_32) := cl_WR hcl31 (by decide)
  change g_go X _ _ _ _ _ _ _ 131 [(0, .ref (ad16 53))] [] ad16 (SH.take 70) (MD_32) 16 1616
  refine go_aload_n rfl 0 rfl dX9_init_131 ?_
  refine go_bipush kz_bipush_49 dX9_init_132 ?_
  refine go_newaI (N := 49) hcl32 tw_170 (by decide) (by decide) (by decide) (by decide) dX9_init_134 (fun ad17 he17 => ?_)
  rw [← he17 53 (by decide)]
  have hcl33 : g_cl0 (SH.take 71) (MD_33) := cl_push hcl32
  change g_go X _ _ _ _ _ _ _ 136 [(0, .ref (ad17 53))] [.ref (ad17 70), .ref (ad17 53)] ad17 (SH.take 71) (MD_33) 17 1665
  refine go_putFr (ci := 7) (i := 53) (f := 25) (r := some 70) cl7.2.2.1 cl7.2.2.2 cl7.1 inX9 rfl (by decide) tw_937 rfl rfl rfl (Or.inr ⟨_, rfl⟩) dX9_init_136 ?_
  have hcl34 : g_cl0 (SH.take 71) (MD_34) := cl_WR hcl33 (by decide)
  change g_go X _ _ _ _ _ _ _ 139 [(0, .ref (ad17 53))] [] ad17 (SH.take 71) (MD_34) 17 1665
  refine go_aload_n rfl 0 rfl dX9_init_139 ?_
  refine go_bipush kz_bipush_49 dX9_init_140 ?_
  refine go_newaI (N := 49) hcl34 tw_170 (by decide) (by decide) (by decide) (by decide) dX9_init_142 (fun ad18 he18 => ?_)
  rw [← he18 53 (by decide)]
  have hcl35 : g_cl0 (SH.take 72) (MD_35) := cl_push hcl34
  change g_go X _ _ _ _ _ _ _ 144 [(0, .ref (ad18 53))] [.ref (ad18 71), .ref (ad18 53)] ad18 (SH.take 72) (MD_35) 18 1714
  refine go_putFr (ci := 7) (i := 53) (f := 26) (r := some 71) cl7.2.2.1 cl7.2.2.2 cl7.1 inX9 rfl (by decide) tw_938 rfl rfl rfl (Or.inr ⟨_, rfl⟩) dX9_init_144 ?_
  have hcl36 : g_cl0 (SH.take 72) (MD_36) := cl_WR hcl35 (by decide)
  change g_go X _ _ _ _ _ _ _ 147 [(0, .ref (ad18 53))] [] ad18 (SH.take 72) (MD_36) 18 1714
  refine go_aload_n rfl 0 rfl dX9_init_147 ?_
  refine go_bipush kz_bipush_96 dX9_init_148 ?_
  refine go_newaI (N := 96) hcl36 tw_170 (by decide) (by decide) (by decide) (by decide) dX9_init_150 (fun ad19 he19 => ?_)
  rw [← he19 53 (by decide)]
  have hcl37 : g_cl0 (SH.take 73) (MD_37) := cl_push hcl36
  change g_go X _ _ _ _ _ _ _ 152 [(0, .ref (ad19 53))] [.ref (ad19 72), .ref (ad19 53)] ad19 (SH.take 73) (MD_37) 19 1810
  refine go_putFr (ci := 7) (i := 53) (f := 27) (r := some 72) cl7.2.2.1 cl7.2.2.2 cl7.1 inX9 rfl (by decide) tw_939 rfl rfl rfl (Or.inr ⟨_, rfl⟩) dX9_init_152 ?_
  have hcl38 : g_cl0 (SH.take 73) (MD_38) := cl_WR hcl37 (by decide)
  change g_go X _ _ _ _ _ _ _ 155 [(0, .ref (ad19 53))] [] ad19 (SH.take 73) (MD_38) 19 1810
  refine go_aload_n rfl 0 rfl dX9_init_155 ?_
  have hg38 : (MD_38).2.2 53 8 = some 61 := by decide +kernel
  refine go_get (ci := 7) (i := 53) (f := 8) (v := .ref (ad19 61)) cl7.1 inX9 rfl (by decide) tw_920 (by show va_rf (((MD_38).2.2 53 8).map ad19) = _; rw [hg38]; rfl) dX9_init_156 ?_
  refine go_iconst kz_iconst_0 dX9_init_159 ?_
  refine go_iconst kz_iconst_2 dX9_init_160 ?_
  refine go_iast (i := 61) (N := 4) rfl (inb_in (by decide)) dX9_init_161 ?_
  have hcl39 : g_cl0 (SH.take 73) (MD_39) := cl_WI hcl38
  change g_go X _ _ _ _ _ _ _ 162 [(0, .ref (ad19 53))] [] ad19 (SH.take 73) (MD_39) 19 1810
  refine go_aload_n rfl 0 rfl dX9_init_162 ?_
  have hg39 : (MD_39).2.2 53 8 = some 61 := by decide +kernel
  refine go_get (ci := 7) (i := 53) (f := 8) (v := .ref (ad19 61)) cl7.1 inX9 rfl (by decide) tw_920 (by show va_rf (((MD_39).2.2 53 8).map ad19) = _; rw [hg39]; rfl) dX9_init_163 ?_
  refine go_iconst kz_iconst_1 dX9_init_166 ?_
  refine go_bipush kz_bipush_20 dX9_init_167 ?_
  refine go_iast (i := 61) (N := 4) rfl (inb_in (by decide)) dX9_init_169 ?_
  have hcl40 : g_cl0 (SH.take 73) (MD_40) := cl_WI hcl39
  change g_go X _ _ _ _ _ _ _ 170 [(0, .ref (ad19 53))] [] ad19 (SH.take 73) (MD_40) 19 1810
  refine go_aload_n rfl 0 rfl dX9_init_170 ?_
  refine go_iconst kz_iconst_1 dX9_init_171 ?_
  refine go_puti (ci := 7) (i := 53) (f := 9) cl7.2.2.1 cl7.2.2.2 cl7.1 inX9 rfl (by decide) tw_921 rfl rfl dX9_init_172 ?_
  have hcl41 : g_cl0 (SH.take 73) (MD_41) := cl_WI hcl40
  change g_go X _ _ _ _ _ _ _ 175 [(0, .ref (ad19 53))] [] ad19 (SH.take 73) (MD_41) 19 1810
  refine go_aload_n rfl 0 rfl dX9_init_175 ?_
  refine go_iconst kz_iconst_m1 dX9_init_176 ?_
  refine go_puti (ci := 7) (i := 53) (f := 28) cl7.2.2.1 cl7.2.2.2 cl7.1 inX9 rfl (by decide) tw_940 rfl rfl dX9_init_177 ?_
  have hcl42 : g_cl0 (SH.take 73) (MD_42) := cl_WI hcl41
  change g_go X _ _ _ _ _ _ _ 180 [(0, .ref (ad19 53))] [] ad19 (SH.take 73) (MD_42) 19 1810
  refine go_aload_n rfl 0 rfl dX9_init_180 ?_
  refine go_iconst kz_iconst_m1 dX9_init_181 ?_
  refine go_puti (ci := 7) (i := 53) (f := 16) cl7.2.2.1 cl7.2.2.2 cl7.1 inX9 rfl (by decide) tw_928 rfl rfl dX9_init_182 ?_
  have hcl43 : g_cl0 (SH.take 73) (MD_43) := cl_WI hcl42
  change g_go X _ _ _ _ _ _ _ 185 [(0, .ref (ad19 53))] [] ad19 (SH.take 73) (MD_43) 19 1810
  refine go_iconst kz_iconst_0 dX9_init_185 ?_
  refine go_istore_n (l' := [(1, .int 0), (0, .ref (ad19 53))]) dX9_init_186 rfl (by decide) rfl ?_
  refine go_iload_n rfl 0 rfl dX9_init_187 ?_
  refine go_bipush kz_bipush_8 dX9_init_188 ?_
  refine go_icmp_ge (tgt := 206) dX9_init_190 rfl (fun hc => absurd hc (by decide)) (fun hc => ?_)
  refine go_aload_n rfl 1 rfl dX9_init_193 ?_
  have hg43 : (MD_43).2.2 53 10 = some 62 := by decide +kernel
  refine go_get (ci := 7) (i := 53) (f := 10) (v := .ref (ad19 62)) cl7.1 inX9 rfl (by decide) tw_922 (by show va_rf (((MD_43).2.2 53 10).map ad19) = _; rw [hg43]; rfl) dX9_init_194 ?_
  refine go_iload_n rfl 0 rfl dX9_init_197 ?_
  refine go_iconst kz_iconst_m1 dX9_init_198 ?_
  refine go_iast (i := 62) (N := 8) rfl (inb_in (by decide)) dX9_init_199 ?_
  have hcl44 : g_cl0 (SH.take 73) (MD_44) := cl_WI hcl43
  change g_go X _ _ _ _ _ _ _ 200 [(1, .int 0), (0, .ref (ad19 53))] [] ad19 (SH.take 73) (MD_44) 19 1810
  refine go_iinc (v := 1) (l' := [(1, .int 1), (0, .ref (ad19 53))]) dX9_init_200 0 rfl (by decide) (by decide) rfl ?_
  refine go_goto (tgt := 187) dX9_init_203 rfl ?_
  refine go_iload_n rfl 0 rfl dX9_init_187 ?_
  refine go_bipush kz_bipush_8 dX9_init_188 ?_
  refine go_icmp_ge (tgt := 206) dX9_init_190 rfl (fun hc => absurd hc (by decide)) (fun hc => ?_)
  refine go_aload_n rfl 1 rfl dX9_init_193 ?_
  have hg44 : (MD_44).2.2 53 10 = some 62 := by decide +kernel
  refine go_get (ci := 7) (i := 53) (f := 10) (v := .ref (ad19 62)) cl7.1 inX9 rfl (by decide) tw_922 (by show va_rf (((MD_44).2.2 53 10).map ad19) = _; rw [hg44]; rfl) dX9_init_194 ?_
  refine go_iload_n rfl 0 rfl dX9_init_197 ?_
  refine go_iconst kz_iconst_m1 dX9_init_198 ?_
  refine go_iast (i := 62) (N := 8) rfl (inb_in (by decide)) dX9_init_199 ?_
  have hcl45 : g_cl0 (SH.take 73) (MD_45) := cl_WI hcl44
  change g_go X _ _ _ _ _ _ _ 200 [(1, .int 1), (0, .ref (ad19 53))] [] ad19 (SH.take 73) (MD_45) 19 1810
  refine go_iinc (v := 2) (l' := [(1, .int 2), (0, .ref (ad19 53))]) dX9_init_200 0 rfl (by decide) (by decide) rfl ?_
  refine go_goto (tgt := 187) dX9_init_203 rfl ?_
  refine go_iload_n rfl 0 rfl dX9_init_187 ?_
  refine go_bipush kz_bipush_8 dX9_init_188 ?_
  refine go_icmp_ge (tgt := 206) dX9_init_190 rfl (fun hc => absurd hc (by decide)) (fun hc => ?_)
  refine go_aload_n rfl 1 rfl dX9_init_193 ?_
  have hg45 : (MD_45).2.2 53 10 = some 62 := by decide +kernel
  refine go_get (ci := 7) (i := 53) (f := 10) (v := .ref (ad19 62)) cl7.1 inX9 rfl (by decide) tw_922 (by show va_rf (((MD_45).2.2 53 10).map ad19) = _; rw [hg45]; rfl) dX9_init_194 ?_
  refine go_iload_n rfl 0 rfl dX9_init_197 ?_
  refine go_iconst kz_iconst_m1 dX9_init_198 ?_
  refine go_iast (i := 62) (N := 8) rfl (inb_in (by decide)) dX9_init_199 ?_
  have hcl46 : g_cl0 (SH.take 73) (MD_46) := cl_WI hcl45
  change g_go X _ _ _ _ _ _ _ 200 [(1, .int 2), (0, .ref (ad19 53))] [] ad19 (SH.take 73) (MD_46) 19 1810
  refine go_iinc (v := 3) (l' := [(1, .int 3), (0, .ref (ad19 53))]) dX9_init_200 0 rfl (by decide) (by decide) rfl ?_
  refine go_goto (tgt := 187) dX9_init_203 rfl ?_
  refine go_iload_n rfl 0 rfl dX9_init_187 ?_
  refine go_bipush kz_bipush_8 dX9_init_188 ?_
  refine go_icmp_ge (tgt := 206) dX9_init_190 rfl (fun hc => absurd hc (by decide)) (fun hc => ?_)
  refine go_aload_n rfl 1 rfl dX9_init_193 ?_
  have hg46 : (MD_46).2.2 53 10 = some 62 := by decide +kernel
  refine go_get (ci := 7) (i := 53) (f := 10) (v := .ref (ad19 62)) cl7.1 inX9 rfl (by decide) tw_922 (by show va_rf (((MD_46).2.2 53 10).map ad19) = _; rw [hg46]; rfl) dX9_init_194 ?_
  refine go_iload_n rfl 0 rfl dX9_init_197 ?_
  refine go_iconst kz_iconst_m1 dX9_init_198 ?_
  refine go_iast (i := 62) (N := 8) rfl (inb_in (by decide)) dX9_init_199 ?_
  have hcl47 : g_cl0 (SH.take 73) (MD_47) := cl_WI hcl46
  change g_go X _ _ _ _ _ _ _ 200 [(1, .int 3), (0, .ref (ad19 53))] [] ad19 (SH.take 73) (MD_47) 19 1810
  refine go_iinc (v := 4) (l' := [(1, .int 4), (0, .ref (ad19 53))]) dX9_init_200 0 rfl (by decide) (by decide) rfl ?_
  refine go_goto (tgt := 187) dX9_init_203 rfl ?_
  refine go_iload_n rfl 0 rfl dX9_init_187 ?_
  refine go_bipush kz_bipush_8 dX9_init_188 ?_
  refine go_icmp_ge (tgt := 206) dX9_init_190 rfl (fun hc => absurd hc (by decide)) (fun hc => ?_)
  refine go_aload_n rfl 1 rfl dX9_init_193 ?_
  have hg47 : (MD_47).2.2 53 10 = some 62 := by decide +kernel
  refine go_get (ci := 7) (i := 53) (f := 10) (v := .ref (ad19 62)) cl7.1 inX9 rfl (by decide) tw_922 (by show va_rf (((MD_47).2.2 53 10).map ad19) = _; rw [hg47]; rfl) dX9_init_194 ?_
  refine go_iload_n rfl 0 rfl dX9_init_197 ?_
  refine go_iconst kz_iconst_m1 dX9_init_198 ?_
  refine go_iast (i := 62) (N := 8) rfl (inb_in (by decide)) dX9_init_199 ?_
  have hcl48 : g_cl0 (SH.take 73) (MD_48) := cl_WI hcl47
  change g_go X _ _ _ _ _ _ _ 200 [(1, .int 4), (0, .ref (ad19 53))] [] ad19 (SH.take 73) (MD_48) 19 1810
  refine go_iinc (v := 5) (l' := [(1, .int 5), (0, .ref (ad19 53))]) dX9_init_200 0 rfl (by decide) (by decide) rfl ?_
  refine go_goto (tgt := 187) dX9_init_203 rfl ?_
  refine go_iload_n rfl 0 rfl dX9_init_187 ?_
  refine go_bipush kz_bipush_8 dX9_init_188 ?_
  refine go_icmp_ge (tgt := 206) dX9_init_190 rfl (fun hc => absurd hc (by decide)) (fun hc => ?_)
  refine go_aload_n rfl 1 rfl dX9_init_193 ?_
  have hg48 : (MD_48).2.2 53 10 = some 62 := by decide +kernel
  refine go_get (ci := 7) (i := 53) (f := 10) (v := .ref (ad19 62)) cl7.1 inX9 rfl (by decide) tw_922 (by show va_rf (((MD_48).2.2 53 10).map ad19) = _; rw [hg48]; rfl) dX9_init_194 ?_
  refine go_iload_n rfl 0 rfl dX9_init_197 ?_
  refine go_iconst kz_iconst_m1 dX9_init_198 ?_
  refine go_iast (i := 62) (N := 8) rfl (inb_in (by decide)) dX9_init_199 ?_
  have hcl49 : g_cl0 (SH.take 73) (MD_49) := cl_WI hcl48
  change g_go X _ _ _ _ _ _ _ 200 [(1, .int 5), (0, .ref (ad19 53))] [] ad19 (SH.take 73) (MD_49) 19 1810
  refine go_iinc (v := 6) (l' := [(1, .int 6), (0, .ref (ad19 53))]) dX9_init_200 0 rfl (by decide) (by decide) rfl ?_
  refine go_goto (tgt := 187) dX9_init_203 rfl ?_
  refine go_iload_n rfl 0 rfl dX9_init_187 ?_
  refine go_bipush kz_bipush_8 dX9_init_188 ?_
  refine go_icmp_ge (tgt := 206) dX9_init_190 rfl (fun hc => absurd hc (by decide)) (fun hc => ?_)
  refine go_aload_n rfl 1 rfl dX9_init_193 ?_
  have hg49 : (MD_49).2.2 53 10 = some 62 := by decide +kernel
  refine go_get (ci := 7) (i := 53) (f := 10) (v := .ref (ad19 62)) cl7.1 inX9 rfl (by decide) tw_922 (by show va_rf (((MD_49).2.2 53 10).map ad19) = _; rw [hg49]; rfl) dX9_init_194 ?_
  refine go_iload_n rfl 0 rfl dX9_init_197 ?_
  refine go_iconst kz_iconst_m1 dX9_init_198 ?_
  refine go_iast (i := 62) (N := 8) rfl (inb_in (by decide)) dX9_init_199 ?_
  have hcl50 : g_cl0 (SH.take 73) (MD_50) := cl_WI hcl49
  change g_go X _ _ _ _ _ _ _ 200 [(1, .int 6), (0, .ref (ad19 53))] [] ad19 (SH.take 73) (MD_50) 19 1810
  refine go_iinc (v := 7) (l' := [(1, .int 7), (0, .ref (ad19 53))]) dX9_init_200 0 rfl (by decide) (by decide) rfl ?_
  refine go_goto (tgt := 187) dX9_init_203 rfl ?_
  refine go_iload_n rfl 0 rfl dX9_init_187 ?_
  refine go_bipush kz_bipush_8 dX9_init_188 ?_
  refine go_icmp_ge (tgt := 206) dX9_init_190 rfl (fun hc => absurd hc (by decide)) (fun hc => ?_)
  refine go_aload_n rfl 1 rfl dX9_init_193 ?_
  have hg50 : (MD_50).2.2 53 10 = some 62 := by decide +kernel
  refine go_get (ci := 7) (i := 53) (f := 10) (v := .ref (ad19 62)) cl7.1 inX9 rfl (by decide) tw_922 (by show va_rf (((MD_50).2.2 53 10).map ad19) = _; rw [hg50]; rfl) dX9_init_194 ?_
  refine go_iload_n rfl 0 rfl dX9_init_197 ?_
  refine go_iconst kz_iconst_m1 dX9_init_198 ?_
  refine go_iast (i := 62) (N := 8) rfl (inb_in (by decide)) dX9_init_199 ?_
  have hcl51 : g_cl0 (SH.take 73) (MD_51) := cl_WI hcl50
  change g_go X _ _ _ _ _ _ _ 200 [(1, .int 7), (0, .ref (ad19 53))] [] ad19 (SH.take 73) (MD_51) 19 1810
  refine go_iinc (v := 8) (l' := [(1, .int 8), (0, .ref (ad19 53))]) dX9_init_200 0 rfl (by decide) (by decide) rfl ?_
  refine go_goto (tgt := 187) dX9_init_203 rfl ?_
  refine go_iload_n rfl 0 rfl dX9_init_187 ?_
  refine go_bipush kz_bipush_8 dX9_init_188 ?_
  refine go_icmp_ge (tgt := 206) dX9_init_190 rfl (fun hc => ?_) (fun hc => absurd (by decide) hc)
  exact go_vret (mc := 19) (ms := 1810) dX9_init_206 rfl ⟨rfl, fun i hi => ((he19 i (Nat.lt_of_lt_of_le hi (by decide))).trans ((he18 i (Nat.lt_of_lt_of_le hi (by decide))).trans ((he17 i (Nat.lt_of_lt_of_le hi (by decide))).trans ((he16 i (Nat.lt_of_lt_of_le hi (by decide))).trans ((he15 i (Nat.lt_of_lt_of_le hi (by decide))).trans ((he14 i (Nat.lt_of_lt_of_le hi (by decide))).trans ((he13 i (Nat.lt_of_lt_of_le hi (by decide))).trans ((he12 i (Nat.lt_of_lt_of_le hi (by decide))).trans ((he11 i (Nat.lt_of_lt_of_le hi (by decide))).trans ((he10 i (Nat.lt_of_lt_of_le hi (by decide))).trans ((he9 i (Nat.lt_of_lt_of_le hi (by decide))).trans ((he8 i (Nat.lt_of_lt_of_le hi (by decide))).trans ((he7 i (Nat.lt_of_lt_of_le hi (by decide))).trans ((he6 i (Nat.lt_of_lt_of_le hi (by decide))).trans ((he5 i (Nat.lt_of_lt_of_le hi (by decide))).trans ((he4 i (Nat.lt_of_lt_of_le hi (by decide))).trans ((he3 i (Nat.lt_of_lt_of_le hi (by decide))).trans ((he2 i (Nat.lt_of_lt_of_le hi (by decide))).trans (he1 i (Nat.lt_of_lt_of_le hi (by decide))))))))))))))))))))), rfl, rfl, hcl51⟩
def ME : gM := MD_51
