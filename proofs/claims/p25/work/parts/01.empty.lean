/-! EVIDENCE FOR REPORT.md, 'STATEMENT'; NO PROOF ABOUT THE PROGRAM, AND NOT HANDED IN. The printed head of this claim takes the law's own method to have no exception table. The law's method has one. So the printed list words are false of every launch, and what is owed follows from that alone: it says nothing of the class. My own text. -/
set_option maxRecDepth 100000 in
theorem pe_no_code : classFile.hasCode x code maxLocals ret = false := by decide +kernel
set_option maxRecDepth 100000 in
/-- what the class file itself has for that method: the same bytes, and three handlers -/
theorem pe_has_table : ((List.range 200).any fun k => classFile.hasCodeWith x code maxLocals ret [(11, 47, 117, k), (48, 95, 117, k), (96, 114, 117, k)]) = true := by decide +kernel
theorem pe_pinned : ¬ PinnedClaimed := fun h => by
  have h1 : classFile.hasCode x code maxLocals ret = true := h
  rw [pe_no_code] at h1
  cases h1
/-- no launch at all has what every limb of the claim begins with -/
theorem pe_lists (l : Launch) (ts : List Cond) (room : Room) : ¬ Lists l classFile x code maxLocals ret ts room := by
  rintro ⟨-, hf, hL, -⟩
  have h1 := hL.1 (x, code, maxLocals, ret) (List.mem_append_left _ (by
    show (x, code, maxLocals, ret) ∈ (Cond.code x code maxLocals ret).codes ++ (allAtoms ts).codes
    exact List.mem_append_left _ (List.mem_singleton.mpr rfl)))
  have h2 : ((l.file? x.cls).any fun f => f.hasCode x code maxLocals ret) = true := h1
  rw [hf, Option.any_some, pe_no_code] at h2
  cases h2
theorem pe_lists_1 : ¬ ListsClaimed_1 := pe_lists launch0 tables_1 room_1
theorem pe_witness_1 : ¬ WitnessClaimed_1 := by
  rintro ⟨p, e, s, m, args, below, h⟩
  exact pe_lists launch0 tables_1 room_1 h.1
/-- what is owed, out of nothing -/
theorem pe_empty : Claimed_1_1 ∧ Claimed_1_2 := ⟨fun l _ hL _ => absurd hL (pe_lists l tables_1 room_1), fun l _ hL _ => absurd hL (pe_lists l tables_1 room_1)⟩
/-- and so would be what is owed with any other end: any answer, or none -/
theorem pe_anything (Post : Tables → Env → Array Value → State → Outcome → State → Prop) : ArmFor flags0 classFile x code maxLocals ret World_1 tables_1 room_1 Calls_1 rest_1 Pre_1 Post := fun l _ hL _ => absurd hL (pe_lists l tables_1 room_1)
