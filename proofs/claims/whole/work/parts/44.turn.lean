/-! ONE TURN of the law's loop, out of a call's lemma -/
theorem both_st {f g : gN → Option (Int32 × gN)} {Z : zS} {ν : gN} (hb : both f g Z) (hC : IC Z ν) (hM : IM Z ν) : ∃ a Z' ν1 ν2, okZ Z' ∧ f ν = some (a, ν1) ∧ g ν1 = some (a, ν2) ∧ IC Z' ν2 ∧ IM Z' ν2 := by
  obtain ⟨a, Z', hZ', hf, hg⟩ := hb
  obtain ⟨ν1, e1, e2, e3⟩ := hf ν hC
  obtain ⟨ν2, g1, g2, g3⟩ := hg ν1 (hM.cls e3)
  exact ⟨a, Z', ν1, ν2, hZ', e1, g1, e2.mdl g3, g2⟩
theorem turn {f g : gN → Option (Int32 × gN)} {Z : zS} {ν : gN} {K : gN → Option (Int32 × gN)} (hb : both f g Z) (hC : IC Z ν) (hM : IM Z ν) (hK : ∀ Z' ν', okZ Z' → IC Z' ν' → IM Z' ν' → ∃ r, K ν' = some r ∧ r.1 = 1) : ∃ r, (f ν).bind (fun r1 => (g r1.2).bind (fun r2 => if r1.1 = r2.1 then K r2.2 else some (0, r2.2))) = some r ∧ r.1 = 1 := by
  obtain ⟨a, Z', ν1, ν2, h1, h2, h3, h4, h5⟩ := both_st hb hC hM
  obtain ⟨r, k1, k2⟩ := hK Z' ν2 h1 h4 h5
  refine ⟨r, ?_, k2⟩
  rw [h2, Option.bind_some]
  show (g ν1).bind _ = _
  rw [h3, Option.bind_some, if_pos rfl]
  exact k1
theorem turnL {x y : Int32} {Z : zS} {ν : gN} {K : gN → Option (Int32 × gN)} (hZ : okZ Z) (hC : IC Z ν) (hM : IM Z ν) (hK : ∀ Z' ν', okZ Z' → IC Z' ν' → IM Z' ν' → ∃ r, K ν' = some r ∧ r.1 = 1) : ∃ r, (f_X8_element x y ν).bind (fun r1 => (f_X9_element x y r1.2).bind (fun r2 => if lg_cmp r1.1 r2.1 = 0 then K r2.2 else some (0, r2.2))) = some r ∧ r.1 = 1 := by
  obtain ⟨a, h8, h9⟩ := op_element x y hZ
  obtain ⟨r, k1, k2⟩ := hK Z ν hZ hC hM
  refine ⟨r, ?_, k2⟩
  rw [h8 ν hC, Option.bind_some]
  show (f_X9_element x y ν).bind _ = _
  rw [h9 ν hM, Option.bind_some, if_pos (by rw [lcz])]
  exact k1
