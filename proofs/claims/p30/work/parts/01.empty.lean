/-! EVIDENCE, no proof of the property: the premises of this statement can't be met. The law's entry has an exception table in its class file (claim/JAVAP.txt, the last rows of 'law': from 861 to 875, handler 879), and the statement speaks of it by the word 'code', which a file answers only for a method WITHOUT an exception table. So no launch has the statement's lists, and what is claimed of every such launch holds of none. -/
theorem em_code : classFile.hasCode x code maxLocals ret = false := by decide +kernel
theorem em_lists (l : Launch) : ¬ Lists l classFile x code maxLocals ret tables_1 room_1 := by
  intro h
  obtain ⟨-, hf, hL, -⟩ := h
  have h1 := hL.1 (x, code, maxLocals, ret) (by
    apply List.mem_append_left
    show _ ∈ (allAtoms (Cond.code x code maxLocals ret :: tables_1)).codes
    simp only [allAtoms, List.foldr, Cond.codes, List.mem_append, List.mem_cons, List.mem_singleton, true_or])
  rw [hf] at h1
  simp [em_code] at h1
theorem i_vc : Claimed_1_1 ∧ Claimed_1_2 := ⟨fun l _ hL _ => absurd hL (em_lists l), fun l _ hL _ => absurd hL (em_lists l)⟩
