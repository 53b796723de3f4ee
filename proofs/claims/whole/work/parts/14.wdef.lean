/-! ===== the law's wrappers: a call, and what its exceptions are told as ===== -/
abbrev mWsW (y : MethodName) (cc : ByteArray) (maxL : Nat) (ret : Option FieldType) (hh : List (Nat × Nat × Nat × Nat)) : List Cond := .codeWith y cc maxL ret hh :: mLA
def mPW (K : Cfg) (l : Launch) (y : MethodName) (cc : ByteArray) (maxL : Nat) (ret : Option FieldType) (hh : List (Nat × Nat × Nat × Nat)) (rm : Room) (As : List Value) (F : (Int32 → Mem → Prop) → Mem → Prop) : Prop :=
  ∀ (M : Mem) (k : Int32 → Mem → Prop), F k M → Met l y (mWsW y cc maxL ret hh) rm (mPre K M As) (mQ K (vI k)) rm.cells rm.slots (mFA K)
theorem mPW.of {K : Cfg} {l : Launch} {y : MethodName} {cc : ByteArray} {maxL : Nat} {ret : Option FieldType} {hh : List (Nat × Nat × Nat × Nat)} {rm : Room} {As : List Value} {F : (Int32 → Mem → Prop) → Mem → Prop} (hst : l.stackTraces = false) (hy : plainName y.cls = true) (hn : (lg_sl As).length ≤ maxL)
    (body : ∀ (M : Mem) (k : Int32 → Mem → Prop) (Q : Option Value → Mem → Prop), (∀ (r : Int32) (M1 : Mem), k r M1 → Q (some (.int r)) M1) → F k M → ∀ (p : Program) (e : Env) (s : State) (m : MethodId) (below : List Frame) (meth : Method) (c : Code), Cx K p l s m As.toArray c cc maxL y.cls → meth.sig.returnType = ret → meth.locks = false → c.exceptionTable.toList = tableOf hh → mh K M s.heap → ∀ ls, lv_has ls maxL (lv_args 0 As) →
      W p l e rm s m As.toArray below meth c s.heap [] 0 0 (MQ below (mQ K Q) As.toArray s rm.cells rm.slots (mFA K)) (F0 m 0 ls [])) : mPW K l y cc maxL ret hh rm As F := by
  intro M k hP
  refine va_MetW (ws' := mLA) hy rfl ?_
  intro p e s m args below meth c s₁ B hml hv
  obtain ⟨rfl, hG, hM⟩ := hv
  have hts := atoms_spec (ws := mWsW y cc maxL ret hh) B.pre
  have htab := vx_table (x := y) B (hts _ List.mem_cons_self)
  have hl := lv_entry As (n := maxL) hn
  rw [lg_entry_eq]
  generalize (lg_sl As ++ List.replicate (maxL - (lg_sl As).length) Slot.unset).toArray = ls at hl ⊢
  exact body M k (vI k) (fun r M1 h => h) hP p e s m below meth c ⟨⟨B.exec, B.bytes, hml, findClass_of_methodNamed B.named, fun w hw => hts w (List.mem_cons_of_mem _ hw)⟩, hG, hst⟩ B.returns B.notSynchronized htab hM ls hl
def mMW (own : String) (index : Nat) (y : MethodName) (cc : ByteArray) (maxL : Nat) (ret : Option FieldType) (hh : List (Nat × Nat × Nat × Nat)) (n : Nat) : Prop :=
  Cond.methodLink own index y ∈ mLA ∧ Cond.codeWith y cc maxL ret hh ∈ mLA ∧ Cond.initialized y.cls ∈ mLA ∧ Cond.static y ∈ mLA ∧ (y.cls ≠ "java/lang/invoke/MethodHandle" ∧ y.cls ≠ "java/lang/invoke/VarHandle" ∧ (parseMethodDescriptor y.desc).map (fun d => d.parameters.length) = some n)
section MW
variable {K : Cfg} {p : Program} {l : Launch} {e : Env} {R : Room} {s : State} {m : MethodId} {args : Array Value} {below : List Frame} {meth : Method} {c : Code} {H : Heap} {locs : List Loc} {cells slots : Nat} {Qf : State → Prop}
variable {cc : ByteArray} {nL : Nat} {own : String} {pc : Nat} {ls : Array Slot} {rest : List Value} {M : Mem} {index : Nat}
variable {y : MethodName} {cc' : ByteArray} {maxL' n : Nat} {ret' : Option FieldType} {hh : List (Nat × Nat × Nat × Nat)} {rm : Room} {As : List Value} {st0 : List Value}
theorem r_callW (X : Cx K p l s m args c cc nL own) (hM : mh K M H) (hS : va_S (mFA K) s.heap H locs) {F : (Int32 → Mem → Prop) → Mem → Prop} (hct : mPW K l y cc' maxL' ret' hh rm As F) {k : Int32 → Mem → Prop} (hP : F k M) (hml : mMW own index y cc' maxL' ret' hh n) (hst : st0 = As.reverse ++ rest) (hn : As.length = n) (hsize : ls.size = nL) (hW : (rest.map fun v => v.category).sum ≤ 8) (hrm : mRm rm R maxL' cells slots) (hdg : decode cc pc = .ok (.invokestatic index, 3))
    (kk : ∀ (r : Int32) (M1 : Mem) (H1 : Heap) (locs1 : List Loc), mh K M1 H1 → va_S (mFA K) s.heap H1 locs1 → k r M1 → W p l e R s m args below meth c H1 locs1 (cells + rm.cells) (slots + rm.slots) Qf (F0 m (pc + 3) ls (.int r :: rest))) : W p l e R s m args below meth c H locs cells slots Qf (F0 m pc ls st0) := by
  have hts := X.1.2.2.2.2
  refine r_call (vx_runSW X.1 (hct M k hP) (vx_cwSW n hts ?_ rfl rfl rfl hml.2.2.2.2 hrm.1) ⟨mPre_blind, fun U hU hW9 => mPre_at X.2.1 hS hM hU hW9⟩ rfl hn hsize hst (lv_room hW) hdg hrm.2) hS (fun v M1 H1 locs1 hM1 hS1 hq => by
    obtain ⟨r, rfl, h⟩ := vI_of hq
    exact kk r M1 H1 locs1 hM1 hS1 h)
  intro w hw
  rcases List.mem_append.mp hw with hw | hw
  · simp only [List.mem_cons, List.not_mem_nil, or_false] at hw
    rcases hw with rfl | rfl | rfl
    · exact ⟨hml.1, mLA_good hml.1⟩
    · exact ⟨hml.2.2.2.1, mLA_good hml.2.2.2.1⟩
    · exact ⟨hml.2.2.1, mLA_good hml.2.2.1⟩
  · rcases List.mem_cons.mp hw with hw | hw
    · rw [hw]
      exact ⟨hml.2.1, mLA_good hml.2.1⟩
    · exact ⟨hw, mLA_good hw⟩
end MW
