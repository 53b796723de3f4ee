/-! ===== THE OWED STATEMENT, TRUE FOR WANT OF ANY LAUNCH: this says NOTHING of the class, and must not be counted as promise 30 ===== -/
theorem i_vc : Claimed_1_1 ∧ Claimed_1_2 := ⟨fun l _ hL _ => absurd hL (pe_noLists l), fun l _ hL _ => absurd hL (pe_noLists l)⟩
