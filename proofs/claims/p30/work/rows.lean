section
/-! ===== p30 AS IT IS PRINTED IS EMPTY: no launch meets what it asks, and its witness can be refuted ===== -/
/-- the law's class file, as the Statement has it: its method law has an exception table, so the word for the law's entry (code: no exception table) isn't held by the file -/
theorem pe_noCode : classFile.hasCode x code maxLocals ret = false := by decide +kernel
/-- a control: the same word with the file's own table (from 286 to 295, to 296, pool entry 56) is held by the file: nothing else is wrong with it -/
theorem pe_withTable : classFile.hasCodeWith x code maxLocals ret [(286, 295, 296, 56)] = true := by decide +kernel
/-- so no launch at all meets the lists that the Statement asks for -/
theorem pe_noLists (l : Launch) : ¬ Lists l classFile x code maxLocals ret tables_1 room_1 := by
  intro h
  obtain ⟨-, hf, ⟨hc, -⟩, -⟩ := h
  have h1 := hc (x, code, maxLocals, ret) (List.mem_append_left _ (List.mem_append_left _ (List.mem_singleton.mpr rfl)))
  have h2 : (l.file? x.cls).any (fun f => f.hasCode x code maxLocals ret) = true := h1
  rw [hf, Option.any_some, pe_noCode] at h2
  cases h2
/-- the printed witness ('a start that meets the premises') is false -/
theorem pe_noWitness : ¬ WitnessClaimed_1 := by
  intro h
  obtain ⟨p, e, s, m, args, below, h1, -⟩ := h
  exact pe_noLists launch0 h1
/-- and of a state that meets the entry's word: its method law has no exception table there, so what fly throws at 290 would leave the law (the law would not return) -/
theorem pe_noTable {args : Array Value} {s : State} {m : MethodId} (hn : s.methodNamed? x = some m) (h : (Cond.code x code maxLocals ret).before args s = true) : ∃ meth c, s.vm.method? m = some meth ∧ meth.code = some c ∧ c.exceptionTable.isEmpty = true := by
  obtain ⟨meth, c, h1, h2, -, -, -, -, h7, -⟩ := Cond.code_spec hn h
  exact ⟨meth, c, h1, h2, h7⟩
end
section
/-! ===== THE OWED STATEMENT, TRUE FOR WANT OF ANY LAUNCH: this says NOTHING of the class, and must not be counted as promise 30 ===== -/
theorem i_vc : Claimed_1_1 ∧ Claimed_1_2 := ⟨fun l _ hL _ => absurd hL (pe_noLists l), fun l _ hL _ => absurd hL (pe_noLists l)⟩
end
