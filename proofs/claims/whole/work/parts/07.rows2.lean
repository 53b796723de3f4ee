/-! ===== stores, makings, calls, ends, throws ===== -/
section MROWS2
variable {K : Cfg} {p : Program} {l : Launch} {e : Env} {R : Room} {s : State} {m : MethodId} {args : Array Value} {below : List Frame} {meth : Method} {c : Code} {H : Heap} {locs : List Loc} {cells slots : Nat} {Qf : State → Prop}
variable {cc : ByteArray} {nL : Nat} {own : String} {pc : Nat} {ls : Array Slot} {rest : List Value} {M : Mem} {a ci j index : Nat} {ref C : String} {T : u_T} {N : Nat}

def mPi (K : Cfg) (l : Launch) (y : MethodName) (cc : ByteArray) (maxL : Nat) (ret : Option FieldType) (rm : Room) (As : List Value) (F : (Int32 → Mem → Prop) → Mem → Prop) : Prop := mP K l y cc maxL ret rm As (fun Q => F (fun r => Q (some (.int r))))
def mXPi (K : Cfg) (l : Launch) (y : MethodName) (cc : ByteArray) (maxL : Nat) (ret : Option FieldType) (rm : Room) (As : List Value) (F : (Int32 → Mem → Prop) → (String → Mem → Prop) → Mem → Prop) : Prop := mXP K l y cc maxL ret rm As (fun Q => F (fun r => Q (some (.int r))))
theorem mPi.of {K : Cfg} {l : Launch} {y : MethodName} {cc : ByteArray} {maxL : Nat} {ret : Option FieldType} {rm : Room} {As : List Value} {F : (Int32 → Mem → Prop) → Mem → Prop} (hst : l.stackTraces = false) (hy : plainFor y = true) (hn : (lg_sl As).length ≤ maxL)
    (body : ∀ (M : Mem) (k : Int32 → Mem → Prop) (Q : Option Value → Mem → Prop), (∀ (r : Int32) (M1 : Mem), k r M1 → Q (some (.int r)) M1) → F k M → ∀ (p : Program) (e : Env) (s : State) (m : MethodId) (below : List Frame) (meth : Method) (c : Code), Cx K p l s m As.toArray c cc maxL y.cls → meth.sig.returnType = ret → meth.locks = false → meth.name = y.name → mh K M s.heap → ∀ ls, lv_has ls maxL (lv_args 0 As) →
      W p l e rm s m As.toArray below meth c s.heap [] 0 0 (MQ below (mQ K Q) As.toArray s rm.cells rm.slots (mFA K)) (F0 m 0 ls [])) : mPi K l y cc maxL ret rm As F :=
  mP.of hst hy hn (fun M Q hP => body M _ Q (fun r M1 h => h) hP)
theorem mXPi.of {K : Cfg} {l : Launch} {y : MethodName} {cc : ByteArray} {maxL : Nat} {ret : Option FieldType} {rm : Room} {As : List Value} {F : (Int32 → Mem → Prop) → (String → Mem → Prop) → Mem → Prop} (hst : l.stackTraces = false) (hy : plainName y.cls = true) (hn : (lg_sl As).length ≤ maxL)
    (body : ∀ (M : Mem) (k : Int32 → Mem → Prop) (Q : Option Value → Mem → Prop) (QX : String → Mem → Prop), (∀ (r : Int32) (M1 : Mem), k r M1 → Q (some (.int r)) M1) → F k QX M → ∀ (p : Program) (e : Env) (s : State) (m : MethodId) (below : List Frame) (meth : Method) (c : Code), Cx K p l s m As.toArray c cc maxL y.cls → meth.sig.returnType = ret → meth.locks = false → (∀ x ∈ c.exceptionTable.toList, False) → mh K M s.heap → ∀ ls, lv_has ls maxL (lv_args 0 As) →
      W p l e rm s m As.toArray below meth c s.heap [] 0 0 (vy_MQ below (mQ K Q) (mX K QX) As.toArray s 0 0 1 6 (mFA K)) (F0 m 0 ls [])) : mXPi K l y cc maxL ret rm As F :=
  mXP.of hst hy hn (fun M Q QX hP => body M _ Q QX (fun r M1 h => h) hP)
def mPl (K : Cfg) (l : Launch) (y : MethodName) (cc : ByteArray) (maxL : Nat) (ret : Option FieldType) (rm : Room) (As : List Value) (F : (Int64 → Mem → Prop) → Mem → Prop) : Prop := mP K l y cc maxL ret rm As (fun Q => F (fun r => Q (some (.long r))))
def mXPl (K : Cfg) (l : Launch) (y : MethodName) (cc : ByteArray) (maxL : Nat) (ret : Option FieldType) (rm : Room) (As : List Value) (F : (Int64 → Mem → Prop) → (String → Mem → Prop) → Mem → Prop) : Prop := mXP K l y cc maxL ret rm As (fun Q => F (fun r => Q (some (.long r))))
theorem mPl.of {K : Cfg} {l : Launch} {y : MethodName} {cc : ByteArray} {maxL : Nat} {ret : Option FieldType} {rm : Room} {As : List Value} {F : (Int64 → Mem → Prop) → Mem → Prop} (hst : l.stackTraces = false) (hy : plainFor y = true) (hn : (lg_sl As).length ≤ maxL)
    (body : ∀ (M : Mem) (k : Int64 → Mem → Prop) (Q : Option Value → Mem → Prop), (∀ (r : Int64) (M1 : Mem), k r M1 → Q (some (.long r)) M1) → F k M → ∀ (p : Program) (e : Env) (s : State) (m : MethodId) (below : List Frame) (meth : Method) (c : Code), Cx K p l s m As.toArray c cc maxL y.cls → meth.sig.returnType = ret → meth.locks = false → meth.name = y.name → mh K M s.heap → ∀ ls, lv_has ls maxL (lv_args 0 As) →
      W p l e rm s m As.toArray below meth c s.heap [] 0 0 (MQ below (mQ K Q) As.toArray s rm.cells rm.slots (mFA K)) (F0 m 0 ls [])) : mPl K l y cc maxL ret rm As F :=
  mP.of hst hy hn (fun M Q hP => body M _ Q (fun r M1 h => h) hP)
theorem mXPl.of {K : Cfg} {l : Launch} {y : MethodName} {cc : ByteArray} {maxL : Nat} {ret : Option FieldType} {rm : Room} {As : List Value} {F : (Int64 → Mem → Prop) → (String → Mem → Prop) → Mem → Prop} (hst : l.stackTraces = false) (hy : plainName y.cls = true) (hn : (lg_sl As).length ≤ maxL)
    (body : ∀ (M : Mem) (k : Int64 → Mem → Prop) (Q : Option Value → Mem → Prop) (QX : String → Mem → Prop), (∀ (r : Int64) (M1 : Mem), k r M1 → Q (some (.long r)) M1) → F k QX M → ∀ (p : Program) (e : Env) (s : State) (m : MethodId) (below : List Frame) (meth : Method) (c : Code), Cx K p l s m As.toArray c cc maxL y.cls → meth.sig.returnType = ret → meth.locks = false → (∀ x ∈ c.exceptionTable.toList, False) → mh K M s.heap → ∀ ls, lv_has ls maxL (lv_args 0 As) →
      W p l e rm s m As.toArray below meth c s.heap [] 0 0 (vy_MQ below (mQ K Q) (mX K QX) As.toArray s 0 0 1 6 (mFA K)) (F0 m 0 ls [])) : mXPl K l y cc maxL ret rm As F :=
  mXP.of hst hy hn (fun M Q QX hP => body M _ Q QX (fun r M1 h => h) hP)
def mPf (K : Cfg) (l : Launch) (y : MethodName) (cc : ByteArray) (maxL : Nat) (ret : Option FieldType) (rm : Room) (As : List Value) (F : (UInt32 → Mem → Prop) → Mem → Prop) : Prop := mP K l y cc maxL ret rm As (fun Q => F (fun r => Q (some (.float r))))
def mXPf (K : Cfg) (l : Launch) (y : MethodName) (cc : ByteArray) (maxL : Nat) (ret : Option FieldType) (rm : Room) (As : List Value) (F : (UInt32 → Mem → Prop) → (String → Mem → Prop) → Mem → Prop) : Prop := mXP K l y cc maxL ret rm As (fun Q => F (fun r => Q (some (.float r))))
theorem mPf.of {K : Cfg} {l : Launch} {y : MethodName} {cc : ByteArray} {maxL : Nat} {ret : Option FieldType} {rm : Room} {As : List Value} {F : (UInt32 → Mem → Prop) → Mem → Prop} (hst : l.stackTraces = false) (hy : plainFor y = true) (hn : (lg_sl As).length ≤ maxL)
    (body : ∀ (M : Mem) (k : UInt32 → Mem → Prop) (Q : Option Value → Mem → Prop), (∀ (r : UInt32) (M1 : Mem), k r M1 → Q (some (.float r)) M1) → F k M → ∀ (p : Program) (e : Env) (s : State) (m : MethodId) (below : List Frame) (meth : Method) (c : Code), Cx K p l s m As.toArray c cc maxL y.cls → meth.sig.returnType = ret → meth.locks = false → meth.name = y.name → mh K M s.heap → ∀ ls, lv_has ls maxL (lv_args 0 As) →
      W p l e rm s m As.toArray below meth c s.heap [] 0 0 (MQ below (mQ K Q) As.toArray s rm.cells rm.slots (mFA K)) (F0 m 0 ls [])) : mPf K l y cc maxL ret rm As F :=
  mP.of hst hy hn (fun M Q hP => body M _ Q (fun r M1 h => h) hP)
theorem mXPf.of {K : Cfg} {l : Launch} {y : MethodName} {cc : ByteArray} {maxL : Nat} {ret : Option FieldType} {rm : Room} {As : List Value} {F : (UInt32 → Mem → Prop) → (String → Mem → Prop) → Mem → Prop} (hst : l.stackTraces = false) (hy : plainName y.cls = true) (hn : (lg_sl As).length ≤ maxL)
    (body : ∀ (M : Mem) (k : UInt32 → Mem → Prop) (Q : Option Value → Mem → Prop) (QX : String → Mem → Prop), (∀ (r : UInt32) (M1 : Mem), k r M1 → Q (some (.float r)) M1) → F k QX M → ∀ (p : Program) (e : Env) (s : State) (m : MethodId) (below : List Frame) (meth : Method) (c : Code), Cx K p l s m As.toArray c cc maxL y.cls → meth.sig.returnType = ret → meth.locks = false → (∀ x ∈ c.exceptionTable.toList, False) → mh K M s.heap → ∀ ls, lv_has ls maxL (lv_args 0 As) →
      W p l e rm s m As.toArray below meth c s.heap [] 0 0 (vy_MQ below (mQ K Q) (mX K QX) As.toArray s 0 0 1 6 (mFA K)) (F0 m 0 ls [])) : mXPf K l y cc maxL ret rm As F :=
  mXP.of hst hy hn (fun M Q QX hP => body M _ Q QX (fun r M1 h => h) hP)
def mPd (K : Cfg) (l : Launch) (y : MethodName) (cc : ByteArray) (maxL : Nat) (ret : Option FieldType) (rm : Room) (As : List Value) (F : (UInt64 → Mem → Prop) → Mem → Prop) : Prop := mP K l y cc maxL ret rm As (fun Q => F (fun r => Q (some (.double r))))
def mXPd (K : Cfg) (l : Launch) (y : MethodName) (cc : ByteArray) (maxL : Nat) (ret : Option FieldType) (rm : Room) (As : List Value) (F : (UInt64 → Mem → Prop) → (String → Mem → Prop) → Mem → Prop) : Prop := mXP K l y cc maxL ret rm As (fun Q => F (fun r => Q (some (.double r))))
theorem mPd.of {K : Cfg} {l : Launch} {y : MethodName} {cc : ByteArray} {maxL : Nat} {ret : Option FieldType} {rm : Room} {As : List Value} {F : (UInt64 → Mem → Prop) → Mem → Prop} (hst : l.stackTraces = false) (hy : plainFor y = true) (hn : (lg_sl As).length ≤ maxL)
    (body : ∀ (M : Mem) (k : UInt64 → Mem → Prop) (Q : Option Value → Mem → Prop), (∀ (r : UInt64) (M1 : Mem), k r M1 → Q (some (.double r)) M1) → F k M → ∀ (p : Program) (e : Env) (s : State) (m : MethodId) (below : List Frame) (meth : Method) (c : Code), Cx K p l s m As.toArray c cc maxL y.cls → meth.sig.returnType = ret → meth.locks = false → meth.name = y.name → mh K M s.heap → ∀ ls, lv_has ls maxL (lv_args 0 As) →
      W p l e rm s m As.toArray below meth c s.heap [] 0 0 (MQ below (mQ K Q) As.toArray s rm.cells rm.slots (mFA K)) (F0 m 0 ls [])) : mPd K l y cc maxL ret rm As F :=
  mP.of hst hy hn (fun M Q hP => body M _ Q (fun r M1 h => h) hP)
theorem mXPd.of {K : Cfg} {l : Launch} {y : MethodName} {cc : ByteArray} {maxL : Nat} {ret : Option FieldType} {rm : Room} {As : List Value} {F : (UInt64 → Mem → Prop) → (String → Mem → Prop) → Mem → Prop} (hst : l.stackTraces = false) (hy : plainName y.cls = true) (hn : (lg_sl As).length ≤ maxL)
    (body : ∀ (M : Mem) (k : UInt64 → Mem → Prop) (Q : Option Value → Mem → Prop) (QX : String → Mem → Prop), (∀ (r : UInt64) (M1 : Mem), k r M1 → Q (some (.double r)) M1) → F k QX M → ∀ (p : Program) (e : Env) (s : State) (m : MethodId) (below : List Frame) (meth : Method) (c : Code), Cx K p l s m As.toArray c cc maxL y.cls → meth.sig.returnType = ret → meth.locks = false → (∀ x ∈ c.exceptionTable.toList, False) → mh K M s.heap → ∀ ls, lv_has ls maxL (lv_args 0 As) →
      W p l e rm s m As.toArray below meth c s.heap [] 0 0 (vy_MQ below (mQ K Q) (mX K QX) As.toArray s 0 0 1 6 (mFA K)) (F0 m 0 ls [])) : mXPd K l y cc maxL ret rm As F :=
  mXP.of hst hy hn (fun M Q QX hP => body M _ Q QX (fun r M1 h => h) hP)
def mPr (K : Cfg) (l : Launch) (y : MethodName) (cc : ByteArray) (maxL : Nat) (ret : Option FieldType) (rm : Room) (As : List Value) (F : (Nat → Mem → Prop) → Mem → Prop) : Prop := mP K l y cc maxL ret rm As (fun Q => F (fun r => Q (some (.ref r))))
def mXPr (K : Cfg) (l : Launch) (y : MethodName) (cc : ByteArray) (maxL : Nat) (ret : Option FieldType) (rm : Room) (As : List Value) (F : (Nat → Mem → Prop) → (String → Mem → Prop) → Mem → Prop) : Prop := mXP K l y cc maxL ret rm As (fun Q => F (fun r => Q (some (.ref r))))
theorem mPr.of {K : Cfg} {l : Launch} {y : MethodName} {cc : ByteArray} {maxL : Nat} {ret : Option FieldType} {rm : Room} {As : List Value} {F : (Nat → Mem → Prop) → Mem → Prop} (hst : l.stackTraces = false) (hy : plainFor y = true) (hn : (lg_sl As).length ≤ maxL)
    (body : ∀ (M : Mem) (k : Nat → Mem → Prop) (Q : Option Value → Mem → Prop), (∀ (r : Nat) (M1 : Mem), k r M1 → Q (some (.ref r)) M1) → F k M → ∀ (p : Program) (e : Env) (s : State) (m : MethodId) (below : List Frame) (meth : Method) (c : Code), Cx K p l s m As.toArray c cc maxL y.cls → meth.sig.returnType = ret → meth.locks = false → meth.name = y.name → mh K M s.heap → ∀ ls, lv_has ls maxL (lv_args 0 As) →
      W p l e rm s m As.toArray below meth c s.heap [] 0 0 (MQ below (mQ K Q) As.toArray s rm.cells rm.slots (mFA K)) (F0 m 0 ls [])) : mPr K l y cc maxL ret rm As F :=
  mP.of hst hy hn (fun M Q hP => body M _ Q (fun r M1 h => h) hP)
theorem mXPr.of {K : Cfg} {l : Launch} {y : MethodName} {cc : ByteArray} {maxL : Nat} {ret : Option FieldType} {rm : Room} {As : List Value} {F : (Nat → Mem → Prop) → (String → Mem → Prop) → Mem → Prop} (hst : l.stackTraces = false) (hy : plainName y.cls = true) (hn : (lg_sl As).length ≤ maxL)
    (body : ∀ (M : Mem) (k : Nat → Mem → Prop) (Q : Option Value → Mem → Prop) (QX : String → Mem → Prop), (∀ (r : Nat) (M1 : Mem), k r M1 → Q (some (.ref r)) M1) → F k QX M → ∀ (p : Program) (e : Env) (s : State) (m : MethodId) (below : List Frame) (meth : Method) (c : Code), Cx K p l s m As.toArray c cc maxL y.cls → meth.sig.returnType = ret → meth.locks = false → (∀ x ∈ c.exceptionTable.toList, False) → mh K M s.heap → ∀ ls, lv_has ls maxL (lv_args 0 As) →
      W p l e rm s m As.toArray below meth c s.heap [] 0 0 (vy_MQ below (mQ K Q) (mX K QX) As.toArray s 0 0 1 6 (mFA K)) (F0 m 0 ls [])) : mXPr K l y cc maxL ret rm As F :=
  mXP.of hst hy hn (fun M Q QX hP => body M _ Q QX (fun r M1 h => h) hP)
def mPv (K : Cfg) (l : Launch) (y : MethodName) (cc : ByteArray) (maxL : Nat) (ret : Option FieldType) (rm : Room) (As : List Value) (F : (Mem → Prop) → Mem → Prop) : Prop := mP K l y cc maxL ret rm As (fun Q => F (Q none))
def mXPv (K : Cfg) (l : Launch) (y : MethodName) (cc : ByteArray) (maxL : Nat) (ret : Option FieldType) (rm : Room) (As : List Value) (F : (Mem → Prop) → (String → Mem → Prop) → Mem → Prop) : Prop := mXP K l y cc maxL ret rm As (fun Q => F (Q none))
theorem mPv.of {K : Cfg} {l : Launch} {y : MethodName} {cc : ByteArray} {maxL : Nat} {ret : Option FieldType} {rm : Room} {As : List Value} {F : (Mem → Prop) → Mem → Prop} (hst : l.stackTraces = false) (hy : plainFor y = true) (hn : (lg_sl As).length ≤ maxL)
    (body : ∀ (M : Mem) (k : Mem → Prop) (Q : Option Value → Mem → Prop), (∀ M1 : Mem, k M1 → Q none M1) → F k M → ∀ (p : Program) (e : Env) (s : State) (m : MethodId) (below : List Frame) (meth : Method) (c : Code), Cx K p l s m As.toArray c cc maxL y.cls → meth.sig.returnType = ret → meth.locks = false → meth.name = y.name → mh K M s.heap → ∀ ls, lv_has ls maxL (lv_args 0 As) →
      W p l e rm s m As.toArray below meth c s.heap [] 0 0 (MQ below (mQ K Q) As.toArray s rm.cells rm.slots (mFA K)) (F0 m 0 ls [])) : mPv K l y cc maxL ret rm As F :=
  mP.of hst hy hn (fun M Q hP => body M _ Q (fun M1 h => h) hP)
theorem mXPv.of {K : Cfg} {l : Launch} {y : MethodName} {cc : ByteArray} {maxL : Nat} {ret : Option FieldType} {rm : Room} {As : List Value} {F : (Mem → Prop) → (String → Mem → Prop) → Mem → Prop} (hst : l.stackTraces = false) (hy : plainName y.cls = true) (hn : (lg_sl As).length ≤ maxL)
    (body : ∀ (M : Mem) (k : Mem → Prop) (Q : Option Value → Mem → Prop) (QX : String → Mem → Prop), (∀ M1 : Mem, k M1 → Q none M1) → F k QX M → ∀ (p : Program) (e : Env) (s : State) (m : MethodId) (below : List Frame) (meth : Method) (c : Code), Cx K p l s m As.toArray c cc maxL y.cls → meth.sig.returnType = ret → meth.locks = false → (∀ x ∈ c.exceptionTable.toList, False) → mh K M s.heap → ∀ ls, lv_has ls maxL (lv_args 0 As) →
      W p l e rm s m As.toArray below meth c s.heap [] 0 0 (vy_MQ below (mQ K Q) (mX K QX) As.toArray s 0 0 1 6 (mFA K)) (F0 m 0 ls [])) : mXPv K l y cc maxL ret rm As F :=
  mXP.of hst hy hn (fun M Q QX hP => body M _ Q QX (fun M1 h => h) hP)
theorem r_sti (X : Cx K p l s m args c cc nL own) (hM : mh K M H) (hS : va_S (mFA K) s.heap H locs) {i : Int32} {x : Int32} {k : Mem → Prop} (hP : mStI K a i x k M) (hdg : decode cc pc = .ok (.iastore, 1))
    (kk : ∀ (M1 : Mem) (H1 : Heap) (locs1 : List Loc), mh K M1 H1 → va_S (mFA K) s.heap H1 locs1 → k M1 → W p l e R s m args below meth c H1 locs1 cells slots Qf (F0 m (pc + 1) ls rest)) : W p l e R s m args below meth c H locs cells slots Qf (F0 m pc ls (.int x :: .int i :: .ref a :: rest)) := by
  obtain ⟨n, f, h1, h2, h3⟩ := hP
  obtain ⟨⟨hx, hb, hml, hown, hts⟩, hG, -⟩ := X
  refine W.iast hx hb (hM a _ h1).2 ((hG.2.1.2 0 _ rfl).1 n (fun j => .int (f j))) (fun q => by cases q) (by show ¬ (i < 0 ∨ (arrV _ _ _).slots.size ≤ _); rw [arrV_size]; exact h2) rfl rfl hdg fun H1 e z oq => ?_
  refine kk _ H1 _ (hM.put (hM a _ h1).1 ?_ oq) (hS.put z oq (hM a _ h1).1) h3
  show H1[a]? = some (vp_cell _ _)
  rw [e]
  rw [vp_cell_i, vp_cell_i, arrV_store]
  congr 2
  funext q
  by_cases hq : q = i.toNatClampNeg
  · subst hq
    simp [updV, upd]
  · simp [updV, upd, hq]
theorem r_stl (X : Cx K p l s m args c cc nL own) (hM : mh K M H) (hS : va_S (mFA K) s.heap H locs) {i : Int32} {x : Int64} {k : Mem → Prop} (hP : mStL K a i x k M) (hdg : decode cc pc = .ok (.lastore, 1))
    (kk : ∀ (M1 : Mem) (H1 : Heap) (locs1 : List Loc), mh K M1 H1 → va_S (mFA K) s.heap H1 locs1 → k M1 → W p l e R s m args below meth c H1 locs1 cells slots Qf (F0 m (pc + 1) ls rest)) : W p l e R s m args below meth c H locs cells slots Qf (F0 m pc ls (.long x :: .int i :: .ref a :: rest)) := by
  obtain ⟨n, f, h1, h2, h3⟩ := hP
  obtain ⟨⟨hx, hb, hml, hown, hts⟩, hG, -⟩ := X
  refine W.last hx hb (hM a _ h1).2 ((hG.2.1.2 1 _ rfl).1 n (fun j => .long (f j))) (fun q => by cases q) (by show ¬ (i < 0 ∨ (arrV _ _ _).slots.size ≤ _); rw [arrV_size]; exact h2) rfl rfl hdg fun H1 e z oq => ?_
  refine kk _ H1 _ (hM.put (hM a _ h1).1 ?_ oq) (hS.put z oq (hM a _ h1).1) h3
  show H1[a]? = some (vp_cell _ _)
  rw [e]
  rw [vp_cell_l, vp_cell_l, arrV_store]
  congr 2
  funext q
  by_cases hq : q = i.toNatClampNeg
  · subst hq
    simp [updV, vp_updL]
  · simp [updV, vp_updL, hq]
theorem r_std (X : Cx K p l s m args c cc nL own) (hM : mh K M H) (hS : va_S (mFA K) s.heap H locs) {i : Int32} {x : UInt64} {k : Mem → Prop} (hP : mStD K a i x k M) (hdg : decode cc pc = .ok (.dastore, 1))
    (kk : ∀ (M1 : Mem) (H1 : Heap) (locs1 : List Loc), mh K M1 H1 → va_S (mFA K) s.heap H1 locs1 → k M1 → W p l e R s m args below meth c H1 locs1 cells slots Qf (F0 m (pc + 1) ls rest)) : W p l e R s m args below meth c H locs cells slots Qf (F0 m pc ls (.double x :: .int i :: .ref a :: rest)) := by
  obtain ⟨n, f, h1, h2, h3⟩ := hP
  obtain ⟨⟨hx, hb, hml, hown, hts⟩, hG, -⟩ := X
  refine W.dast hx hb (hM a _ h1).2 ((hG.2.1.2 2 _ rfl).1 n (fun j => .double (f j))) (fun q => by cases q) (by show ¬ (i < 0 ∨ (arrV _ _ _).slots.size ≤ _); rw [arrV_size]; exact h2) rfl rfl hdg fun H1 e z oq => ?_
  refine kk _ H1 _ (hM.put (hM a _ h1).1 ?_ oq) (hS.put z oq (hM a _ h1).1) h3
  show H1[a]? = some (vp_cell _ _)
  rw [e]
  rw [vp_cell_d, vp_cell_d, arrV_store]
  congr 2
  funext q
  by_cases hq : q = i.toNatClampNeg
  · subst hq
    simp [updV, vf_upd]
  · simp [updV, vf_upd, hq]
theorem r_stz (X : Cx K p l s m args c cc nL own) (hM : mh K M H) (hS : va_S (mFA K) s.heap H locs) {i x : Int32} {k : Mem → Prop} (hP : mStZ K a i x k M) (hdg : decode cc pc = .ok (.bastore, 1))
    (kk : ∀ (M1 : Mem) (H1 : Heap) (locs1 : List Loc), mh K M1 H1 → va_S (mFA K) s.heap H1 locs1 → k M1 → W p l e R s m args below meth c H1 locs1 cells slots Qf (F0 m (pc + 1) ls rest)) : W p l e R s m args below meth c H locs cells slots Qf (F0 m pc ls (.int x :: .int i :: .ref a :: rest)) := by
  obtain ⟨n, f, h1, h2, hz, h3⟩ := hP
  obtain ⟨⟨hx, hb, hml, hown, hts⟩, hG, -⟩ := X
  refine W.zast hx hb (hM a _ h1).2 ((hG.2.1.2 3 _ rfl).1 n (fun j => .int (f j))) (fun q => by cases q) (by show ¬ (i < 0 ∨ (arrV _ _ _).slots.size ≤ _); rw [arrV_size]; exact h2) rfl rfl hdg fun H1 e z oq => ?_
  refine kk _ H1 _ (hM.put (hM a _ h1).1 ?_ oq) (hS.put z oq (hM a _ h1).1) h3
  show H1[a]? = some (vp_cell _ _)
  rw [e]
  have hz1 := (narrow_z hz).1
  rw [hz1, vp_cell_i, vp_cell_i, arrV_store]
  congr 2
  funext q
  by_cases hq : q = i.toNatClampNeg
  · subst hq
    simp [updV, upd]
  · simp [updV, upd, hq]
theorem r_stq {t : Nat} (ht : ∀ K : Cfg, (mTys K)[t]? = some (K.2.1 t, .object C)) (hc : vwCl[ci]? = some (C, T, N)) (X : Cx K p l s m args c cc nL own) (hM : mh K M H) (hS : va_S (mFA K) s.heap H locs) {i : Int32} {v : Nat} {k : Mem → Prop} (hP : mStQ K t ci a i v k M) (hdg : decode cc pc = .ok (.aastore, 1))
    (kk : ∀ (M1 : Mem) (H1 : Heap) (locs1 : List Loc), mh K M1 H1 → va_S (mFA K) s.heap H1 locs1 → k M1 → W p l e R s m args below meth c H1 locs1 cells slots Qf (F0 m (pc + 1) ls rest)) : W p l e R s m args below meth c H locs cells slots Qf (F0 m pc ls (.ref v :: .int i :: .ref a :: rest)) := by
  obtain ⟨n, f, fs, h1, hv, h2, h3⟩ := hP
  obtain ⟨⟨hx, hb, hml, hown, hts⟩, hG, -⟩ := X
  have hlt : i.toNatClampNeg < n := Nat.not_le.mp fun q => h2 (Or.inr q)
  have h0 : ¬ i < 0 := fun q => h2 (Or.inl q)
  obtain ⟨-, r', hr', cellV, g1, g2, g3, -⟩ := hM v _ hv
  have hK := hG.2.1
  have hcls := (hK.1 ci _ hc).2
  obtain ⟨kA, comp, k1, k2, k3, -⟩ := (hK.2 t _ (ht K)).2
  have hcomp : comp = K.1.1 ci := Option.some.inj (k3.symm.trans hcls.1)
  subst hcomp
  obtain ⟨kC, hkC, -⟩ := hcls.2
  refine W.aast hx hb (hM a _ h1).2 (fun q h => by cases h) (fun h => by cases h) k1 k2 rfl hkC ⟨h0, by show _ < (arrV _ _ _).slots.size; rw [arrV_size]; exact hlt⟩ g1 (fun q h => by rw [g3] at h; cases h) (by rw [g2]; exact hkC) (by rw [g2]; exact va_assign hcls) rfl rfl hdg fun H1 e z oq => ?_
  refine kk _ H1 _ (hM.put (hM a _ h1).1 ?_ oq) (hS.put z oq (hM a _ h1).1) h3
  show H1[a]? = some (vp_cell _ _)
  rw [e]
  rw [vp_cell_q, vp_cell_q, arrV_store]
  congr 2
  funext q
  by_cases hq : q = i.toNatClampNeg
  · subst hq
    simp [updV, va_up, va_rf]
  · simp [updV, va_up, hq]
/-- an object of ours into an Object[]: any object may lie there -/
theorem r_stqO (hc : vwCl[ci]? = some (C, T, N)) (hcast : (C, "java/lang/Object") ∈ mNwC) (X : Cx K p l s m args c cc nL own) (hM : mh K M H) (hS : va_S (mFA K) s.heap H locs) {i : Int32} {v : Nat} {k : Mem → Prop} (hP : mStQ K 7 ci a i v k M) (hdg : decode cc pc = .ok (.aastore, 1))
    (kk : ∀ (M1 : Mem) (H1 : Heap) (locs1 : List Loc), mh K M1 H1 → va_S (mFA K) s.heap H1 locs1 → k M1 → W p l e R s m args below meth c H1 locs1 cells slots Qf (F0 m (pc + 1) ls rest)) : W p l e R s m args below meth c H locs cells slots Qf (F0 m pc ls (.ref v :: .int i :: .ref a :: rest)) := by
  obtain ⟨n, f, fs, h1, hv, h2, h3⟩ := hP
  obtain ⟨⟨hx, hb, hml, hown, hts⟩, hG, -⟩ := X
  have hlt : i.toNatClampNeg < n := Nat.not_le.mp fun q => h2 (Or.inr q)
  have h0 : ¬ i < 0 := fun q => h2 (Or.inl q)
  obtain ⟨-, r', hr', cellV, g1, g2, g3, -⟩ := hM v _ hv
  have hK := hG.2.1
  have hcls := (hK.1 ci _ hc).2
  obtain ⟨kA, comp, k1, k2, k3, -⟩ := (hK.2 7 _ rfl).2
  obtain ⟨c3, c4, hc3, hc4, hasg⟩ := Cond.castable_spec (va_Nw.use (A := args) rfl (hG.2.2.1.2.2.1 _ hcast))
  have e3 : c3 = K.1.1 ci := Option.some.inj (hc3.symm.trans hcls.1)
  have e4 : c4 = comp := Option.some.inj (hc4.symm.trans k3)
  subst e3
  subst e4
  obtain ⟨kC, hkC, -⟩ := hcls.2
  obtain ⟨kO, hkO, -⟩ := Vm.findClass_spec k3
  refine W.aast hx hb (hM a _ h1).2 (fun q h => by cases h) (fun h => by cases h) k1 k2 rfl hkO ⟨h0, by show _ < (arrV _ _ _).slots.size; rw [arrV_size]; exact hlt⟩ g1 (fun q h => by rw [g3] at h; cases h) (by rw [g2]; exact hkC) (by rw [g2]; exact hasg) rfl rfl hdg fun H1 e z oq => ?_
  refine kk _ H1 _ (hM.put (hM a _ h1).1 ?_ oq) (hS.put z oq (hM a _ h1).1) h3
  show H1[a]? = some (vp_cell _ _)
  rw [e]
  rw [vp_cell_q, vp_cell_q, arrV_store]
  congr 2
  funext q
  by_cases hq : q = i.toNatClampNeg
  · subst hq
    simp [updV, va_up, va_rf]
  · simp [updV, va_up, hq]
/-- a class that a method of own makes -/
def mNl (own C : String) (T : u_T) (N ci index : Nat) : Prop := vwCl[ci]? = some (C, T, N) ∧ (∀ w ∈ u_ws C T N, w ∈ mLA) ∧ Cond.classLink own index C ∈ mLA ∧ Cond.instantiable C N ∈ mLA ∧ Cond.initialized C ∈ mLA
theorem mh.fresh {K : Cfg} {s : State} {M : Mem} {H : Heap} {locs : List Loc} (hG : GS K s) (hS : va_S (mFA K) s.heap H locs) (hM : mh K M H) : mFresh K M H.size := ⟨Nat.le_trans hG.1 hS.1, fun q e h => hM.lt h⟩
theorem va_S.grow {A : Nat → Prop} {H0 H H1 : Heap} {locs : List Loc} (hS : va_S A H0 H locs) (z : H.size ≤ H1.size) (o1 : ∀ q : Nat, q < H.size → H1[q]? = H[q]?) : va_S A H0 H1 locs := ⟨Nat.le_trans hS.1 z, fun x h1 h2 => (o1 x (Nat.lt_of_lt_of_le h1 hS.1)).trans (hS.2.1 x h1 h2), hS.2.2⟩
theorem mh.push {K : Cfg} {M : Mem} {H H1 : Heap} (hM : mh K M H) {e : va_E} (hA : K.2.2 0 ≤ H.size) (he : va_at K.1 vwCl (H.size, e) H1) (o1 : ∀ q : Nat, q < H.size → H1[q]? = H[q]?) : mh K (mUp M H.size e) H1 := by
  intro q e1 h1
  unfold mUp at h1
  split at h1
  · rename_i hq
    subst hq
    cases h1
    exact ⟨hA, he⟩
  · exact hM.kept o1 q e1 h1
theorem r_new (X : Cx K p l s m args c cc nL own) (hM : mh K M H) (hS : va_S (mFA K) s.heap H locs) {fs : List Value} {k : Nat → Mem → Prop} (hP : mNew K ci fs k M) (hn : mNl own C T N ci index) {ty : Nat → FieldType} (ht : mFt T N ty) (hfs : ∀ j, j < N → defaultValue (ty j) = vp_V fs j) (hcs : cells + 1 ≤ R.cells ∧ slots + N ≤ R.slots) (hdg : decode cc pc = .ok (.new index, 3))
    (kk : ∀ (q : Nat) (M1 : Mem) (H1 : Heap), mh K M1 H1 → va_S (mFA K) s.heap H1 locs → k q M1 → W p l e R s m args below meth c H1 locs (cells + 1) (slots + N) Qf (F0 m (pc + 3) ls (.ref q :: rest))) : W p l e R s m args below meth c H locs cells slots Qf (F0 m pc ls rest) := by
  obtain ⟨⟨hx, hb, hml, hown, hts⟩, hG, -⟩ := X
  obtain ⟨f1, f2, f3, f4, f5⟩ := hn
  have hKn := hG.2.1.1 ci _ f1
  refine W.newcK hx hb hown (hts _ f3) (hts _ f4) (hts _ f5) rfl hdg hcs.1 hcs.2 hKn.2.1 rfl fun H1 kC hkC e1 z1 o1 => ?_
  exact kk H.size _ H1 (hM.push (e := .inr (ci, fs)) (Nat.le_trans hG.1 hS.1) ⟨_, f1, (u_born ty hts f2 hKn hkC e1 ht.1).to hfs⟩ o1) (hS.grow (by omega) o1) (hP _ (mh.fresh hG hS hM))
theorem r_newa {t : Nat} {atype : ArrayType} (ht : ∀ K : Cfg, (mTys K)[t]? = some (K.2.1 t, newarray.typeOf atype)) (hpr : ∀ (U : State) (cA : ClassId), va_RA U cA (newarray.typeOf atype) → U.vm.findClass ("[" ++ (newarray.typeOf atype).toString) = some cA) (X : Cx K p l s m args c cc nL own) (hM : mh K M H) (hS : va_S (mFA K) s.heap H locs) (harr : Cond.arrayClass (newarray.typeOf atype) ∈ mLA) {z : vp_A} {k : Nat → Mem → Prop} (hP : mNewA K t z k M) {n : Int32} {n' : Nat} (hz : ∀ cA : ClassId, vp_cell cA z = arrV cA n' (fun _ => defaultValue (newarray.typeOf atype))) (hn : ¬ n < 0) (hn' : n.toNatClampNeg = n') (hby : n' * componentBytes (newarray.typeOf atype) ≤ 536870912) (hcs : cells + 1 ≤ R.cells ∧ slots + n' ≤ R.slots) (hdg : decode cc pc = .ok (.newarray atype, 2))
    (kk : ∀ (q : Nat) (M1 : Mem) (H1 : Heap), mh K M1 H1 → va_S (mFA K) s.heap H1 locs → k q M1 → W p l e R s m args below meth c H1 locs (cells + 1) (slots + n') Qf (F0 m (pc + 2) ls (.ref q :: rest))) : W p l e R s m args below meth c H locs cells slots Qf (F0 m pc ls (.int n :: rest)) := by
  obtain ⟨⟨hx, hb, hml, hown, hts⟩, hG, -⟩ := X
  refine va_newaK hx hb (hts _ harr) rfl hdg rfl hn hn' hby hcs.1 hcs.2 rfl fun H1 cA e1 z1 o1 hAr hNm => ?_
  have hA : cA = K.2.1 t := Option.some.inj (hNm.symm.trans (hpr s _ ((hG.2.1.2 t _ (ht K)).2)))
  subst hA
  exact kk H.size _ H1 (hM.push (Nat.le_trans hG.1 hS.1) (by show H1[H.size]? = some (vp_cell _ _); rw [hz]; exact e1) o1) (hS.grow (by omega) o1) (hP _ (mh.fresh hG hS hM))
theorem r_newq {t : Nat} (ht : ∀ K : Cfg, (mTys K)[t]? = some (K.2.1 t, .object C)) (hao : C ∈ mAOl) (hlk : Cond.classLink own index C ∈ mLA) (X : Cx K p l s m args c cc nL own) (hM : mh K M H) (hS : va_S (mFA K) s.heap H locs) {n : Int32} {n' : Nat} {k : Nat → Mem → Prop} (hP : mNewA K t (n', .inr (.inr (.inr (.inr (fun _ => none))))) k M) (hn : ¬ n < 0) (hn' : n.toNatClampNeg = n') (hby : n' * 4 ≤ 536870912) (hcs : cells + 1 ≤ R.cells ∧ slots + n' ≤ R.slots) (hdg : decode cc pc = .ok (.anewarray index, 3))
    (kk : ∀ (q : Nat) (M1 : Mem) (H1 : Heap), mh K M1 H1 → va_S (mFA K) s.heap H1 locs → k q M1 → W p l e R s m args below meth c H1 locs (cells + 1) (slots + n') Qf (F0 m (pc + 3) ls (.ref q :: rest))) : W p l e R s m args below meth c H locs cells slots Qf (F0 m pc ls (.int n :: rest)) := by
  obtain ⟨⟨hx, hb, hml, hown, hts⟩, hG, -⟩ := X
  subst hn'
  refine W.anew hx hb hown (hts _ hlk) (va_AO.use (hG.2.2.2.1.2.1 _ hao)) rfl hdg rfl hn hby hcs.1 hcs.2 fun cA kA comp f1 f2 f3 f4 => ?_
  obtain ⟨kA', comp', g1, g2, g3, g4⟩ := (hG.2.1.2 t _ (ht K)).2
  have hA : cA = K.2.1 t := Option.some.inj (f1.symm.trans g4)
  subst hA
  generalize hH1 : H.push ({ cls := K.2.1 t, slots := Array.replicate n.toNatClampNeg .null, vm := .none } : Cell) = H1
  have z1 : H1.size = H.size + 1 := by rw [← hH1, Array.size_push]
  have e1 : H1[H.size]? = some (arrV (K.2.1 t) n.toNatClampNeg (fun _ => .null)) := by rw [← hH1, Array.getElem?_push_size, ← arrV_new]
  have o1 : ∀ q : Nat, q < H.size → H1[q]? = H[q]? := fun q hq => by rw [← hH1, Array.getElem?_push, if_neg (Nat.ne_of_lt hq)]
  exact kk H.size _ H1 (hM.push (Nat.le_trans hG.1 hS.1) (by show H1[H.size]? = some (vp_cell _ _); rw [vp_cell_q]; exact e1) o1) (hS.grow (by omega) o1) (hP _ (mh.fresh hG hS hM))
/-- new boolean[n][m] -/
theorem r_newz (hlk : Cond.classLink own index "[[Z" ∈ mLA) (harr : Cond.arrayClass .boolean ∈ mLA) (X : Cx K p l s m args c cc nL own) (hM : mh K M H) (hS : va_S (mFA K) s.heap H locs) {n k0 : Int32} {n' k' : Nat} {k : Nat → Mem → Prop} (hP : mNewZ K n' k' k M) (hn : ¬ n < 0) (hk : ¬ k0 < 0) (hn' : n.toNatClampNeg = n') (hk' : k0.toNatClampNeg = k') (hb1 : n' * 4 ≤ 536870912) (hb2 : k' ≤ 536870912) (hcs : cells + (1 + n') ≤ R.cells ∧ slots + (n' + n' * k') ≤ R.slots) (hdg : decode cc pc = .ok (.multianewarray index 2, 4))
    (kk : ∀ (q : Nat) (M1 : Mem) (H1 : Heap), mh K M1 H1 → va_S (mFA K) s.heap H1 locs → k q M1 → W p l e R s m args below meth c H1 locs (cells + 1 + n') (slots + n' + n' * k') Qf (F0 m (pc + 4) ls (.ref q :: rest))) : W p l e R s m args below meth c H locs cells slots Qf (F0 m pc ls (.int k0 :: .int n :: rest)) := by
  subst hn'
  subst hk'
  obtain ⟨⟨hx, hb, hml, hown, hts⟩, hG, -⟩ := X
  intro T hT Xs
  have hcy : s.vm.findClass (FieldType.array .boolean).toString = some (K.2.1 3) := (hG.2.1.2 3 _ rfl).2
  have hcA : s.vm.findClass ("[" ++ (FieldType.array .boolean).toString) = some (K.2.1 8) := (hG.2.1.2 8 _ rfl).2
  obtain ⟨vm₁, cA, comp, -, fA, fC, hO, -, X', step⟩ := Xs.multianewarray2F (ty := .boolean) hx hown (hts _ hlk) (va_AOA.use hG.2.2.2.1.2.2.1) (hts _ harr) (g := F0 m pc ls (.int k0 :: .int n :: rest)) rfl (by rw [hb]; exact hdg) rfl hn hk hb1 (by show _ * 1 ≤ _; omega) hb2 rfl rfl hcs.1 hcs.2
  have ec : comp = K.2.1 3 := Option.some.inj (fC.symm.trans hcy)
  have eA : cA = K.2.1 8 := Option.some.inj (fA.symm.trans hcA)
  subst ec
  subst eA
  generalize hF : Jvm.Free.Multi.fill (T.setVm vm₁) (K.2.1 8) (K.2.1 3) n.toNatClampNeg k0.toNatClampNeg (defaultValue .boolean) n.toNatClampNeg = F at X' step
  have hTh : (T.setVm vm₁).heap = H := hT
  obtain ⟨f1, f2, -, -⟩ := Jvm.Free.Multi.fill_facts (T.setVm vm₁) (K.2.1 8) (K.2.1 3) n.toNatClampNeg k0.toNatClampNeg (defaultValue .boolean) n.toNatClampNeg
  rw [hF, hTh] at f1 f2
  have hold : ∀ x : Nat, x < H.size → F.heap[x]? = H[x]? := fun x hx => by
    have := Jvm.Free.Multi.fill_old (T.setVm vm₁) (K.2.1 8) (K.2.1 3) n.toNatClampNeg k0.toNatClampNeg (defaultValue .boolean) (a := x) (by rw [hTh]; exact hx) n.toNatClampNeg
    rw [hF, hTh] at this
    exact this
  have hrow : ∀ j : Nat, j < n.toNatClampNeg → F.heap[H.size + 1 + j]? = some (vp_cell (K.2.1 3) (k0.toNatClampNeg, .inl (fun _ => 0))) := fun j hj => by
    have := Jvm.Free.Multi.fill_inner (T.setVm vm₁) (K.2.1 8) (K.2.1 3) n.toNatClampNeg k0.toNatClampNeg (defaultValue .boolean) n.toNatClampNeg j hj
    rw [hF, hTh] at this
    rw [this, vp_cell_i]
    exact congrArg some (arrV_new _ _ _)
  have hout : Jvm.Free.Multi.outerC (K.2.1 8) n.toNatClampNeg H.size n.toNatClampNeg = vp_cell (K.2.1 8) (n.toNatClampNeg, .inr (.inr (.inr (.inr (fun i => if i < n.toNatClampNeg then some (H.size + 1 + i) else none))))) := by
    rw [vp_cell_q]
    exact vr_outer (K.2.1 8) n.toNatClampNeg H.size n.toNatClampNeg
  rw [hout] at f2
  have hA : K.2.2 0 ≤ H.size := Nat.le_trans hG.1 hS.1
  have hM1 := hP H.size (mh.fresh hG hS hM)
  obtain ⟨t, a1, b1⟩ := kk H.size _ F.heap (by
      intro q e1 h1
      dsimp only at h1
      split at h1
      · rename_i hq
        subst hq
        cases h1
        exact ⟨hA, f2⟩
      · split at h1
        · rename_i hq hq2
          cases h1
          refine ⟨by omega, ?_⟩
          have h5 := hrow (q - H.size - 1) (by omega)
          rw [show H.size + 1 + (q - H.size - 1) = q by omega] at h5
          exact h5
        · exact hM.kept hold q e1 h1) (hS.grow (by rw [f1]; omega) hold) hM1 F rfl X'
  refine ⟨t, step t ?_, b1⟩
  have e : T.heap.size = H.size := by rw [hT]
  rw [e]
  exact a1
def vI (k : Int32 → Mem → Prop) : Option Value → Mem → Prop := fun v => match v with | some (.int r) => k r | _ => fun _ => False
def vL (k : Int64 → Mem → Prop) : Option Value → Mem → Prop := fun v => match v with | some (.long r) => k r | _ => fun _ => False
def vF (k : UInt32 → Mem → Prop) : Option Value → Mem → Prop := fun v => match v with | some (.float r) => k r | _ => fun _ => False
def vD (k : UInt64 → Mem → Prop) : Option Value → Mem → Prop := fun v => match v with | some (.double r) => k r | _ => fun _ => False
def vR (k : Nat → Mem → Prop) : Option Value → Mem → Prop := fun v => match v with | some (.ref r) => k r | _ => fun _ => False
def vV (k : Mem → Prop) : Option Value → Mem → Prop := fun v => match v with | none => k | _ => fun _ => False
theorem vI_of {k : Int32 → Mem → Prop} {v : Option Value} {M : Mem} (h : vI k v M) : ∃ r, v = some (.int r) ∧ k r M := by
  unfold vI at h
  split at h
  · exact ⟨_, rfl, h⟩
  · exact h.elim
theorem vL_of {k : Int64 → Mem → Prop} {v : Option Value} {M : Mem} (h : vL k v M) : ∃ r, v = some (.long r) ∧ k r M := by
  unfold vL at h
  split at h
  · exact ⟨_, rfl, h⟩
  · exact h.elim
theorem vF_of {k : UInt32 → Mem → Prop} {v : Option Value} {M : Mem} (h : vF k v M) : ∃ r, v = some (.float r) ∧ k r M := by
  unfold vF at h
  split at h
  · exact ⟨_, rfl, h⟩
  · exact h.elim
theorem vD_of {k : UInt64 → Mem → Prop} {v : Option Value} {M : Mem} (h : vD k v M) : ∃ r, v = some (.double r) ∧ k r M := by
  unfold vD at h
  split at h
  · exact ⟨_, rfl, h⟩
  · exact h.elim
theorem vR_of {k : Nat → Mem → Prop} {v : Option Value} {M : Mem} (h : vR k v M) : ∃ r, v = some (.ref r) ∧ k r M := by
  unfold vR at h
  split at h
  · exact ⟨_, rfl, h⟩
  · exact h.elim
theorem vV_of {k : Mem → Prop} {v : Option Value} {M : Mem} (h : vV k v M) : v = none ∧ k M := by
  unfold vV at h
  split at h
  · exact ⟨rfl, h⟩
  · exact h.elim
/-- what is said of a method that is called: by own, at a place of its pool; n arguments -/
def mMl (own : String) (index : Nat) (y : MethodName) (cc : ByteArray) (maxL : Nat) (ret : Option FieldType) (n : Nat) : Prop :=
  Cond.methodLink own index y ∈ mLA ∧ Cond.code y cc maxL ret ∈ mLA ∧ Cond.initialized y.cls ∈ mLA ∧ (y.cls ≠ "java/lang/invoke/MethodHandle" ∧ y.cls ≠ "java/lang/invoke/VarHandle" ∧ (parseMethodDescriptor y.desc).map (fun d => d.parameters.length) = some n)
def mMV (own : String) (index : Nat) (y : MethodName) (cc : ByteArray) (maxL : Nat) (ret : Option FieldType) (n : Nat) : Prop := mMl own index y cc maxL ret n ∧ Cond.instanceMethod y ∈ mLA ∧ Cond.selects y.cls y y ∈ mLA
def mMS (own : String) (index : Nat) (y : MethodName) (cc : ByteArray) (maxL : Nat) (ret : Option FieldType) (n : Nat) : Prop := mMl own index y cc maxL ret n ∧ Cond.static y ∈ mLA
def mMI (own : String) (index : Nat) (y : MethodName) (cc : ByteArray) (maxL : Nat) (ret : Option FieldType) (n : Nat) : Prop := mMl own index y cc maxL ret n ∧ y.name = "<init>" ∧ Cond.instanceMethod y ∈ mLA
/-- the rooms: the callee's frames, its locals, its cells and slots -/
def mRm (rm R : Room) (maxL cells slots : Nat) : Prop := (rm.frames + 1 ≤ R.frames ∧ 8 + (maxL + 11) + rm.locals ≤ R.locals) ∧ (cells + rm.cells ≤ R.cells ∧ slots + rm.slots ≤ R.slots)
variable {y : MethodName} {cc' : ByteArray} {maxL' n : Nat} {ret' : Option FieldType} {rm : Room} {As : List Value} {b : Nat} {st0 : List Value}
theorem mWs_good (hc : Cond.code y cc' maxL' ret' ∈ mLA) : GoodIn mLA (mWs y cc' maxL' ret') := fun w h => (List.mem_cons.mp h).elim (fun e => by rw [e]; exact ⟨hc, mLA_good hc⟩) (fun h => ⟨h, mLA_good h⟩)
theorem mMl.cb (h : mMl own index y cc' maxL' ret' n) (X : Cx K p l s m args c cc nL own) (hrm : mRm rm R maxL' cells slots) : CallB R s args own index y cc' maxL' ret' (mWs y cc' maxL' ret') rm rm.cells rm.slots n :=
  callB_of n X.1.2.2.2.2 (mWs_good h.2.1) rfl rfl rfl (X.1.2.2.2.2 _ h.2.2.1) (X.1.2.2.2.2 _ h.1) h.2.2.2 hrm.1
theorem r_call {mc ms : Nat} {Q : Option Value → Mem → Prop} {a9 : Array Value} (hr : va_Run p l e R s m args below meth c H locs cells slots mc ms (F0 m pc ls st0) rest (mQ K Q a9) (mFA K)) (hS : va_S (mFA K) s.heap H locs)
    (kk : ∀ (v : Option Value) (M1 : Mem) (H1 : Heap) (locs1 : List Loc), mh K M1 H1 → va_S (mFA K) s.heap H1 locs1 → Q v M1 → W p l e R s m args below meth c H1 locs1 (cells + mc) (slots + ms) Qf (F0 m (pc + 3) ls (v.toList ++ rest))) : W p l e R s m args below meth c H locs cells slots Qf (F0 m pc ls st0) := by
  intro T hT X
  obtain ⟨v, st₀, t, T', L, h0, X', hL, e1, e2, ⟨v', M1, hv, hq, hm, hF⟩, st⟩ := hr T hT X
  cases hv
  obtain ⟨k1, k2, k3⟩ := vx_keep (A0 := mFA K) (A1 := mFA K) (free := mFA K) h0 e1 hS (fun q _ h => h) (fun q h => h) hL hF
  obtain ⟨t2, a1, b1⟩ := kk v M1 T'.heap (locs ++ L) (by rw [e1]; exact hm) k3 hq T' rfl X'
  exact ⟨t2, st t2 a1, b1⟩
theorem r_call5 {mc ms : Nat} {Q : Option Value → Mem → Prop} {a9 : Array Value} (hr : va_Run5 p l e R s m args below meth c H locs cells slots mc ms (F0 m pc ls st0) rest (mQ K Q a9) (mFA K)) (hS : va_S (mFA K) s.heap H locs)
    (kk : ∀ (v : Option Value) (M1 : Mem) (H1 : Heap) (locs1 : List Loc), mh K M1 H1 → va_S (mFA K) s.heap H1 locs1 → Q v M1 → W p l e R s m args below meth c H1 locs1 (cells + mc) (slots + ms) Qf (F0 m (pc + 5) ls (v.toList ++ rest))) : W p l e R s m args below meth c H locs cells slots Qf (F0 m pc ls st0) := by
  intro T hT X
  obtain ⟨v, st₀, t, T', L, h0, X', hL, e1, e2, ⟨v', M1, hv, hq, hm, hF⟩, st⟩ := hr T hT X
  cases hv
  obtain ⟨k1, k2, k3⟩ := vx_keep (A0 := mFA K) (A1 := mFA K) (free := mFA K) h0 e1 hS (fun q _ h => h) (fun q h => h) hL hF
  obtain ⟨t2, a1, b1⟩ := kk v M1 T'.heap (locs ++ L) (by rw [e1]; exact hm) k3 hq T' rfl X'
  exact ⟨t2, st t2 a1, b1⟩
/-- a call of a method that may throw: kx goes on where it has thrown -/
theorem rx_call {Q : Option Value → Mem → Prop} {QX : String → Mem → Prop} {a9 : Array Value} (hr : vy_Run p l e R s m args below meth c H locs cells slots 0 0 1 6 (F0 m pc ls st0) rest (mQ K Q a9) (mX K QX) (mFA K)) (hS : va_S (mFA K) s.heap H locs)
    (kx : ∀ (E : String) (ce : Cell) (q9 : Addr) (M1 : Mem) (H1 : Heap) (locs1 : List Loc), mh K M1 H1 → va_S (mFA K) s.heap H1 locs1 → QX E M1 → H1[q9]? = some ce → ce.vm = .none → s.vm.findClass E = some ce.cls → vx_W p l e R s m args below meth c H1 locs1 (cells + 1) (slots + 6) Qf (F0 m pc ls rest) q9)
    (kk : ∀ (v : Option Value) (M1 : Mem) (H1 : Heap) (locs1 : List Loc), mh K M1 H1 → va_S (mFA K) s.heap H1 locs1 → Q v M1 → W p l e R s m args below meth c H1 locs1 cells slots Qf (F0 m (pc + 3) ls (v.toList ++ rest))) : W p l e R s m args below meth c H locs cells slots Qf (F0 m pc ls st0) := by
  intro T hT X
  rcases hr T hT X with ⟨v, st₀, t, T', L, h0, X', hL, e1, e2, ⟨v', M1, hv, hq, hm, hF⟩, st⟩ | ⟨q, st₀, t, T', L, E, ce, h0, X', hL, e1, e2, ⟨M1, hq, hm, hF⟩, hce, hcv, hcl, st⟩
  · cases hv
    obtain ⟨k1, k2, k3⟩ := vx_keep (A0 := mFA K) (A1 := mFA K) (free := mFA K) h0 e1 hS (fun q _ h => h) (fun q h => h) hL hF
    obtain ⟨t2, a1, b1⟩ := kk v M1 T'.heap (locs ++ L) (by rw [e1]; exact hm) k3 hq T' rfl X'
    exact ⟨t2, st t2 a1, b1⟩
  · obtain ⟨k1, k2, k3⟩ := vx_keep (A0 := mFA K) (A1 := mFA K) (free := mFA K) h0 e1 hS (fun q _ h => h) (fun q h => h) hL hF
    obtain ⟨t2, a1, b1⟩ := kx E ce q M1 T'.heap (locs ++ L) (by rw [e1]; exact hm) k3 hq (by rw [e1]; exact hce) hcv hcl T' rfl X'
    exact ⟨t2, st.trans a1, b1⟩
theorem mRecv_at {s : State} (hG : GS K s) (hM : mh K M H) (hc : vwCl[ci]? = some (y.cls, T, N)) (h : ∃ fs : List Value, M b = some (.inr (ci, fs))) : ∃ cellB : Cell, H[b]? = some cellB ∧ cellB.vm.isStatics = false ∧ s.vm.findClass y.cls = some cellB.cls := by
  obtain ⟨fs, hb⟩ := h
  exact va_recv hG.2.1 (va_P1 (hM b _ hb).2) (ci := ci) (q0 := 0) hc rfl
theorem r_callVi (X : Cx K p l s m args c cc nL own) (hM : mh K M H) (hS : va_S (mFA K) s.heap H locs) {F : (Int32 → Mem → Prop) → Mem → Prop} (hct : mPi K l y cc' maxL' ret' rm (.ref b :: As) F) {k : Int32 → Mem → Prop} (hP : mRecv b ci (F k) M) (hml : mMV own index y cc' maxL' ret' n) (hc : vwCl[ci]? = some (y.cls, T, N)) (hst : st0 = As.reverse ++ .ref b :: rest) (hn : As.length = n) (hsize : ls.size = nL) (hW : (rest.map fun v => v.category).sum ≤ 8) (hrm : mRm rm R maxL' cells slots) (hdg : decode cc pc = .ok (.invokevirtual index, 3))
    (kk : ∀ (r : Int32) (M1 : Mem) (H1 : Heap) (locs1 : List Loc), mh K M1 H1 → va_S (mFA K) s.heap H1 locs1 → k r M1 → W p l e R s m args below meth c H1 locs1 (cells + rm.cells) (slots + rm.slots) Qf (F0 m (pc + 3) ls (.int r :: rest))) : W p l e R s m args below meth c H locs cells slots Qf (F0 m pc ls st0) := by
  have hts := X.1.2.2.2.2
  exact r_call (va_runV X.1 (hct M (vI k) hP.2) ⟨hml.1.cb X hrm, hts _ hml.2.1, hts _ hml.2.2⟩ ⟨mPre_blind, mRecv_at X.2.1 hM hc hP.1, fun U hU hW9 => mPre_at X.2.1 hS hM hU hW9⟩ rfl hn hsize hst (lv_room hW) hdg hrm.2) hS (fun v M1 H1 locs1 hM1 hS1 hq => by
    obtain ⟨r, rfl, h⟩ := vI_of hq
    exact kk r M1 H1 locs1 hM1 hS1 h)
theorem r_callSi (X : Cx K p l s m args c cc nL own) (hM : mh K M H) (hS : va_S (mFA K) s.heap H locs) {F : (Int32 → Mem → Prop) → Mem → Prop} (hct : mPi K l y cc' maxL' ret' rm As F) {k : Int32 → Mem → Prop} (hP : F k M) (hml : mMS own index y cc' maxL' ret' n) (hst : st0 = As.reverse ++ rest) (hn : As.length = n) (hsize : ls.size = nL) (hW : (rest.map fun v => v.category).sum ≤ 8) (hrm : mRm rm R maxL' cells slots) (hdg : decode cc pc = .ok (.invokestatic index, 3))
    (kk : ∀ (r : Int32) (M1 : Mem) (H1 : Heap) (locs1 : List Loc), mh K M1 H1 → va_S (mFA K) s.heap H1 locs1 → k r M1 → W p l e R s m args below meth c H1 locs1 (cells + rm.cells) (slots + rm.slots) Qf (F0 m (pc + 3) ls (.int r :: rest))) : W p l e R s m args below meth c H locs cells slots Qf (F0 m pc ls st0) := by
  have hts := X.1.2.2.2.2
  exact r_call (va_runS X.1 (hct M (vI k) hP) ⟨hml.1.cb X hrm, hts _ hml.2⟩ ⟨mPre_blind, fun U hU hW9 => mPre_at X.2.1 hS hM hU hW9⟩ rfl hn hsize hst (lv_room hW) hdg hrm.2) hS (fun v M1 H1 locs1 hM1 hS1 hq => by
    obtain ⟨r, rfl, h⟩ := vI_of hq
    exact kk r M1 H1 locs1 hM1 hS1 h)
theorem rx_callVi (X : Cx K p l s m args c cc nL own) (hM : mh K M H) (hS : va_S (mFA K) s.heap H locs) {F : (Int32 → Mem → Prop) → (String → Mem → Prop) → Mem → Prop} (hct : mXPi K l y cc' maxL' ret' rm (.ref b :: As) F) {k : Int32 → Mem → Prop} {QX : String → Mem → Prop} (hP : mRecv b ci (F k QX) M) (hml : mMV own index y cc' maxL' ret' n) (hc : vwCl[ci]? = some (y.cls, T, N)) (hst : st0 = As.reverse ++ .ref b :: rest) (hn : As.length = n) (hsize : ls.size = nL) (hW : (rest.map fun v => v.category).sum ≤ 8) (hrm : mRm rm R maxL' cells slots) (hdg : decode cc pc = .ok (.invokevirtual index, 3))
    (kx : ∀ (E : String) (ce : Cell) (q9 : Addr) (M1 : Mem) (H1 : Heap) (locs1 : List Loc), mh K M1 H1 → va_S (mFA K) s.heap H1 locs1 → QX E M1 → H1[q9]? = some ce → ce.vm = .none → s.vm.findClass E = some ce.cls → vx_W p l e R s m args below meth c H1 locs1 (cells + 1) (slots + 6) Qf (F0 m pc ls rest) q9)
    (kk : ∀ (r : Int32) (M1 : Mem) (H1 : Heap) (locs1 : List Loc), mh K M1 H1 → va_S (mFA K) s.heap H1 locs1 → k r M1 → W p l e R s m args below meth c H1 locs1 cells slots Qf (F0 m (pc + 3) ls (.int r :: rest))) : W p l e R s m args below meth c H locs cells slots Qf (F0 m pc ls st0) := by
  have hts := X.1.2.2.2.2
  exact rx_call (vy_runV X.1 (hct M (vI k) QX hP.2) ⟨hml.1.cb X hrm, hts _ hml.2.1, hts _ hml.2.2⟩ ⟨mPre_blind, mRecv_at X.2.1 hM hc hP.1, fun U hU hW9 => mPre_at X.2.1 hS hM hU hW9⟩ rfl hn hsize hst (lv_room hW) hdg hrm.2) hS kx (fun v M1 H1 locs1 hM1 hS1 hq => by
    obtain ⟨r, rfl, h⟩ := vI_of hq
    exact kk r M1 H1 locs1 hM1 hS1 h)
theorem rx_callSi (X : Cx K p l s m args c cc nL own) (hM : mh K M H) (hS : va_S (mFA K) s.heap H locs) {F : (Int32 → Mem → Prop) → (String → Mem → Prop) → Mem → Prop} (hct : mXPi K l y cc' maxL' ret' rm As F) {k : Int32 → Mem → Prop} {QX : String → Mem → Prop} (hP : F k QX M) (hml : mMS own index y cc' maxL' ret' n) (hst : st0 = As.reverse ++ rest) (hn : As.length = n) (hsize : ls.size = nL) (hW : (rest.map fun v => v.category).sum ≤ 8) (hrm : mRm rm R maxL' cells slots) (hdg : decode cc pc = .ok (.invokestatic index, 3))
    (kx : ∀ (E : String) (ce : Cell) (q9 : Addr) (M1 : Mem) (H1 : Heap) (locs1 : List Loc), mh K M1 H1 → va_S (mFA K) s.heap H1 locs1 → QX E M1 → H1[q9]? = some ce → ce.vm = .none → s.vm.findClass E = some ce.cls → vx_W p l e R s m args below meth c H1 locs1 (cells + 1) (slots + 6) Qf (F0 m pc ls rest) q9)
    (kk : ∀ (r : Int32) (M1 : Mem) (H1 : Heap) (locs1 : List Loc), mh K M1 H1 → va_S (mFA K) s.heap H1 locs1 → k r M1 → W p l e R s m args below meth c H1 locs1 cells slots Qf (F0 m (pc + 3) ls (.int r :: rest))) : W p l e R s m args below meth c H locs cells slots Qf (F0 m pc ls st0) := by
  have hts := X.1.2.2.2.2
  exact rx_call (vy_runS X.1 (hct M (vI k) QX hP) ⟨hml.1.cb X hrm, hts _ hml.2⟩ ⟨mPre_blind, fun U hU hW9 => mPre_at X.2.1 hS hM hU hW9⟩ rfl hn hsize hst (lv_room hW) hdg hrm.2) hS kx (fun v M1 H1 locs1 hM1 hS1 hq => by
    obtain ⟨r, rfl, h⟩ := vI_of hq
    exact kk r M1 H1 locs1 hM1 hS1 h)
theorem r_callVl (X : Cx K p l s m args c cc nL own) (hM : mh K M H) (hS : va_S (mFA K) s.heap H locs) {F : (Int64 → Mem → Prop) → Mem → Prop} (hct : mPl K l y cc' maxL' ret' rm (.ref b :: As) F) {k : Int64 → Mem → Prop} (hP : mRecv b ci (F k) M) (hml : mMV own index y cc' maxL' ret' n) (hc : vwCl[ci]? = some (y.cls, T, N)) (hst : st0 = As.reverse ++ .ref b :: rest) (hn : As.length = n) (hsize : ls.size = nL) (hW : (rest.map fun v => v.category).sum ≤ 8) (hrm : mRm rm R maxL' cells slots) (hdg : decode cc pc = .ok (.invokevirtual index, 3))
    (kk : ∀ (r : Int64) (M1 : Mem) (H1 : Heap) (locs1 : List Loc), mh K M1 H1 → va_S (mFA K) s.heap H1 locs1 → k r M1 → W p l e R s m args below meth c H1 locs1 (cells + rm.cells) (slots + rm.slots) Qf (F0 m (pc + 3) ls (.long r :: rest))) : W p l e R s m args below meth c H locs cells slots Qf (F0 m pc ls st0) := by
  have hts := X.1.2.2.2.2
  exact r_call (va_runV X.1 (hct M (vL k) hP.2) ⟨hml.1.cb X hrm, hts _ hml.2.1, hts _ hml.2.2⟩ ⟨mPre_blind, mRecv_at X.2.1 hM hc hP.1, fun U hU hW9 => mPre_at X.2.1 hS hM hU hW9⟩ rfl hn hsize hst (lv_room hW) hdg hrm.2) hS (fun v M1 H1 locs1 hM1 hS1 hq => by
    obtain ⟨r, rfl, h⟩ := vL_of hq
    exact kk r M1 H1 locs1 hM1 hS1 h)
theorem r_callSl (X : Cx K p l s m args c cc nL own) (hM : mh K M H) (hS : va_S (mFA K) s.heap H locs) {F : (Int64 → Mem → Prop) → Mem → Prop} (hct : mPl K l y cc' maxL' ret' rm As F) {k : Int64 → Mem → Prop} (hP : F k M) (hml : mMS own index y cc' maxL' ret' n) (hst : st0 = As.reverse ++ rest) (hn : As.length = n) (hsize : ls.size = nL) (hW : (rest.map fun v => v.category).sum ≤ 8) (hrm : mRm rm R maxL' cells slots) (hdg : decode cc pc = .ok (.invokestatic index, 3))
    (kk : ∀ (r : Int64) (M1 : Mem) (H1 : Heap) (locs1 : List Loc), mh K M1 H1 → va_S (mFA K) s.heap H1 locs1 → k r M1 → W p l e R s m args below meth c H1 locs1 (cells + rm.cells) (slots + rm.slots) Qf (F0 m (pc + 3) ls (.long r :: rest))) : W p l e R s m args below meth c H locs cells slots Qf (F0 m pc ls st0) := by
  have hts := X.1.2.2.2.2
  exact r_call (va_runS X.1 (hct M (vL k) hP) ⟨hml.1.cb X hrm, hts _ hml.2⟩ ⟨mPre_blind, fun U hU hW9 => mPre_at X.2.1 hS hM hU hW9⟩ rfl hn hsize hst (lv_room hW) hdg hrm.2) hS (fun v M1 H1 locs1 hM1 hS1 hq => by
    obtain ⟨r, rfl, h⟩ := vL_of hq
    exact kk r M1 H1 locs1 hM1 hS1 h)
theorem rx_callVl (X : Cx K p l s m args c cc nL own) (hM : mh K M H) (hS : va_S (mFA K) s.heap H locs) {F : (Int64 → Mem → Prop) → (String → Mem → Prop) → Mem → Prop} (hct : mXPl K l y cc' maxL' ret' rm (.ref b :: As) F) {k : Int64 → Mem → Prop} {QX : String → Mem → Prop} (hP : mRecv b ci (F k QX) M) (hml : mMV own index y cc' maxL' ret' n) (hc : vwCl[ci]? = some (y.cls, T, N)) (hst : st0 = As.reverse ++ .ref b :: rest) (hn : As.length = n) (hsize : ls.size = nL) (hW : (rest.map fun v => v.category).sum ≤ 8) (hrm : mRm rm R maxL' cells slots) (hdg : decode cc pc = .ok (.invokevirtual index, 3))
    (kx : ∀ (E : String) (ce : Cell) (q9 : Addr) (M1 : Mem) (H1 : Heap) (locs1 : List Loc), mh K M1 H1 → va_S (mFA K) s.heap H1 locs1 → QX E M1 → H1[q9]? = some ce → ce.vm = .none → s.vm.findClass E = some ce.cls → vx_W p l e R s m args below meth c H1 locs1 (cells + 1) (slots + 6) Qf (F0 m pc ls rest) q9)
    (kk : ∀ (r : Int64) (M1 : Mem) (H1 : Heap) (locs1 : List Loc), mh K M1 H1 → va_S (mFA K) s.heap H1 locs1 → k r M1 → W p l e R s m args below meth c H1 locs1 cells slots Qf (F0 m (pc + 3) ls (.long r :: rest))) : W p l e R s m args below meth c H locs cells slots Qf (F0 m pc ls st0) := by
  have hts := X.1.2.2.2.2
  exact rx_call (vy_runV X.1 (hct M (vL k) QX hP.2) ⟨hml.1.cb X hrm, hts _ hml.2.1, hts _ hml.2.2⟩ ⟨mPre_blind, mRecv_at X.2.1 hM hc hP.1, fun U hU hW9 => mPre_at X.2.1 hS hM hU hW9⟩ rfl hn hsize hst (lv_room hW) hdg hrm.2) hS kx (fun v M1 H1 locs1 hM1 hS1 hq => by
    obtain ⟨r, rfl, h⟩ := vL_of hq
    exact kk r M1 H1 locs1 hM1 hS1 h)
theorem rx_callSl (X : Cx K p l s m args c cc nL own) (hM : mh K M H) (hS : va_S (mFA K) s.heap H locs) {F : (Int64 → Mem → Prop) → (String → Mem → Prop) → Mem → Prop} (hct : mXPl K l y cc' maxL' ret' rm As F) {k : Int64 → Mem → Prop} {QX : String → Mem → Prop} (hP : F k QX M) (hml : mMS own index y cc' maxL' ret' n) (hst : st0 = As.reverse ++ rest) (hn : As.length = n) (hsize : ls.size = nL) (hW : (rest.map fun v => v.category).sum ≤ 8) (hrm : mRm rm R maxL' cells slots) (hdg : decode cc pc = .ok (.invokestatic index, 3))
    (kx : ∀ (E : String) (ce : Cell) (q9 : Addr) (M1 : Mem) (H1 : Heap) (locs1 : List Loc), mh K M1 H1 → va_S (mFA K) s.heap H1 locs1 → QX E M1 → H1[q9]? = some ce → ce.vm = .none → s.vm.findClass E = some ce.cls → vx_W p l e R s m args below meth c H1 locs1 (cells + 1) (slots + 6) Qf (F0 m pc ls rest) q9)
    (kk : ∀ (r : Int64) (M1 : Mem) (H1 : Heap) (locs1 : List Loc), mh K M1 H1 → va_S (mFA K) s.heap H1 locs1 → k r M1 → W p l e R s m args below meth c H1 locs1 cells slots Qf (F0 m (pc + 3) ls (.long r :: rest))) : W p l e R s m args below meth c H locs cells slots Qf (F0 m pc ls st0) := by
  have hts := X.1.2.2.2.2
  exact rx_call (vy_runS X.1 (hct M (vL k) QX hP) ⟨hml.1.cb X hrm, hts _ hml.2⟩ ⟨mPre_blind, fun U hU hW9 => mPre_at X.2.1 hS hM hU hW9⟩ rfl hn hsize hst (lv_room hW) hdg hrm.2) hS kx (fun v M1 H1 locs1 hM1 hS1 hq => by
    obtain ⟨r, rfl, h⟩ := vL_of hq
    exact kk r M1 H1 locs1 hM1 hS1 h)
theorem r_callVf (X : Cx K p l s m args c cc nL own) (hM : mh K M H) (hS : va_S (mFA K) s.heap H locs) {F : (UInt32 → Mem → Prop) → Mem → Prop} (hct : mPf K l y cc' maxL' ret' rm (.ref b :: As) F) {k : UInt32 → Mem → Prop} (hP : mRecv b ci (F k) M) (hml : mMV own index y cc' maxL' ret' n) (hc : vwCl[ci]? = some (y.cls, T, N)) (hst : st0 = As.reverse ++ .ref b :: rest) (hn : As.length = n) (hsize : ls.size = nL) (hW : (rest.map fun v => v.category).sum ≤ 8) (hrm : mRm rm R maxL' cells slots) (hdg : decode cc pc = .ok (.invokevirtual index, 3))
    (kk : ∀ (r : UInt32) (M1 : Mem) (H1 : Heap) (locs1 : List Loc), mh K M1 H1 → va_S (mFA K) s.heap H1 locs1 → k r M1 → W p l e R s m args below meth c H1 locs1 (cells + rm.cells) (slots + rm.slots) Qf (F0 m (pc + 3) ls (.float r :: rest))) : W p l e R s m args below meth c H locs cells slots Qf (F0 m pc ls st0) := by
  have hts := X.1.2.2.2.2
  exact r_call (va_runV X.1 (hct M (vF k) hP.2) ⟨hml.1.cb X hrm, hts _ hml.2.1, hts _ hml.2.2⟩ ⟨mPre_blind, mRecv_at X.2.1 hM hc hP.1, fun U hU hW9 => mPre_at X.2.1 hS hM hU hW9⟩ rfl hn hsize hst (lv_room hW) hdg hrm.2) hS (fun v M1 H1 locs1 hM1 hS1 hq => by
    obtain ⟨r, rfl, h⟩ := vF_of hq
    exact kk r M1 H1 locs1 hM1 hS1 h)
theorem r_callSf (X : Cx K p l s m args c cc nL own) (hM : mh K M H) (hS : va_S (mFA K) s.heap H locs) {F : (UInt32 → Mem → Prop) → Mem → Prop} (hct : mPf K l y cc' maxL' ret' rm As F) {k : UInt32 → Mem → Prop} (hP : F k M) (hml : mMS own index y cc' maxL' ret' n) (hst : st0 = As.reverse ++ rest) (hn : As.length = n) (hsize : ls.size = nL) (hW : (rest.map fun v => v.category).sum ≤ 8) (hrm : mRm rm R maxL' cells slots) (hdg : decode cc pc = .ok (.invokestatic index, 3))
    (kk : ∀ (r : UInt32) (M1 : Mem) (H1 : Heap) (locs1 : List Loc), mh K M1 H1 → va_S (mFA K) s.heap H1 locs1 → k r M1 → W p l e R s m args below meth c H1 locs1 (cells + rm.cells) (slots + rm.slots) Qf (F0 m (pc + 3) ls (.float r :: rest))) : W p l e R s m args below meth c H locs cells slots Qf (F0 m pc ls st0) := by
  have hts := X.1.2.2.2.2
  exact r_call (va_runS X.1 (hct M (vF k) hP) ⟨hml.1.cb X hrm, hts _ hml.2⟩ ⟨mPre_blind, fun U hU hW9 => mPre_at X.2.1 hS hM hU hW9⟩ rfl hn hsize hst (lv_room hW) hdg hrm.2) hS (fun v M1 H1 locs1 hM1 hS1 hq => by
    obtain ⟨r, rfl, h⟩ := vF_of hq
    exact kk r M1 H1 locs1 hM1 hS1 h)
theorem rx_callVf (X : Cx K p l s m args c cc nL own) (hM : mh K M H) (hS : va_S (mFA K) s.heap H locs) {F : (UInt32 → Mem → Prop) → (String → Mem → Prop) → Mem → Prop} (hct : mXPf K l y cc' maxL' ret' rm (.ref b :: As) F) {k : UInt32 → Mem → Prop} {QX : String → Mem → Prop} (hP : mRecv b ci (F k QX) M) (hml : mMV own index y cc' maxL' ret' n) (hc : vwCl[ci]? = some (y.cls, T, N)) (hst : st0 = As.reverse ++ .ref b :: rest) (hn : As.length = n) (hsize : ls.size = nL) (hW : (rest.map fun v => v.category).sum ≤ 8) (hrm : mRm rm R maxL' cells slots) (hdg : decode cc pc = .ok (.invokevirtual index, 3))
    (kx : ∀ (E : String) (ce : Cell) (q9 : Addr) (M1 : Mem) (H1 : Heap) (locs1 : List Loc), mh K M1 H1 → va_S (mFA K) s.heap H1 locs1 → QX E M1 → H1[q9]? = some ce → ce.vm = .none → s.vm.findClass E = some ce.cls → vx_W p l e R s m args below meth c H1 locs1 (cells + 1) (slots + 6) Qf (F0 m pc ls rest) q9)
    (kk : ∀ (r : UInt32) (M1 : Mem) (H1 : Heap) (locs1 : List Loc), mh K M1 H1 → va_S (mFA K) s.heap H1 locs1 → k r M1 → W p l e R s m args below meth c H1 locs1 cells slots Qf (F0 m (pc + 3) ls (.float r :: rest))) : W p l e R s m args below meth c H locs cells slots Qf (F0 m pc ls st0) := by
  have hts := X.1.2.2.2.2
  exact rx_call (vy_runV X.1 (hct M (vF k) QX hP.2) ⟨hml.1.cb X hrm, hts _ hml.2.1, hts _ hml.2.2⟩ ⟨mPre_blind, mRecv_at X.2.1 hM hc hP.1, fun U hU hW9 => mPre_at X.2.1 hS hM hU hW9⟩ rfl hn hsize hst (lv_room hW) hdg hrm.2) hS kx (fun v M1 H1 locs1 hM1 hS1 hq => by
    obtain ⟨r, rfl, h⟩ := vF_of hq
    exact kk r M1 H1 locs1 hM1 hS1 h)
theorem rx_callSf (X : Cx K p l s m args c cc nL own) (hM : mh K M H) (hS : va_S (mFA K) s.heap H locs) {F : (UInt32 → Mem → Prop) → (String → Mem → Prop) → Mem → Prop} (hct : mXPf K l y cc' maxL' ret' rm As F) {k : UInt32 → Mem → Prop} {QX : String → Mem → Prop} (hP : F k QX M) (hml : mMS own index y cc' maxL' ret' n) (hst : st0 = As.reverse ++ rest) (hn : As.length = n) (hsize : ls.size = nL) (hW : (rest.map fun v => v.category).sum ≤ 8) (hrm : mRm rm R maxL' cells slots) (hdg : decode cc pc = .ok (.invokestatic index, 3))
    (kx : ∀ (E : String) (ce : Cell) (q9 : Addr) (M1 : Mem) (H1 : Heap) (locs1 : List Loc), mh K M1 H1 → va_S (mFA K) s.heap H1 locs1 → QX E M1 → H1[q9]? = some ce → ce.vm = .none → s.vm.findClass E = some ce.cls → vx_W p l e R s m args below meth c H1 locs1 (cells + 1) (slots + 6) Qf (F0 m pc ls rest) q9)
    (kk : ∀ (r : UInt32) (M1 : Mem) (H1 : Heap) (locs1 : List Loc), mh K M1 H1 → va_S (mFA K) s.heap H1 locs1 → k r M1 → W p l e R s m args below meth c H1 locs1 cells slots Qf (F0 m (pc + 3) ls (.float r :: rest))) : W p l e R s m args below meth c H locs cells slots Qf (F0 m pc ls st0) := by
  have hts := X.1.2.2.2.2
  exact rx_call (vy_runS X.1 (hct M (vF k) QX hP) ⟨hml.1.cb X hrm, hts _ hml.2⟩ ⟨mPre_blind, fun U hU hW9 => mPre_at X.2.1 hS hM hU hW9⟩ rfl hn hsize hst (lv_room hW) hdg hrm.2) hS kx (fun v M1 H1 locs1 hM1 hS1 hq => by
    obtain ⟨r, rfl, h⟩ := vF_of hq
    exact kk r M1 H1 locs1 hM1 hS1 h)
theorem r_callVd (X : Cx K p l s m args c cc nL own) (hM : mh K M H) (hS : va_S (mFA K) s.heap H locs) {F : (UInt64 → Mem → Prop) → Mem → Prop} (hct : mPd K l y cc' maxL' ret' rm (.ref b :: As) F) {k : UInt64 → Mem → Prop} (hP : mRecv b ci (F k) M) (hml : mMV own index y cc' maxL' ret' n) (hc : vwCl[ci]? = some (y.cls, T, N)) (hst : st0 = As.reverse ++ .ref b :: rest) (hn : As.length = n) (hsize : ls.size = nL) (hW : (rest.map fun v => v.category).sum ≤ 8) (hrm : mRm rm R maxL' cells slots) (hdg : decode cc pc = .ok (.invokevirtual index, 3))
    (kk : ∀ (r : UInt64) (M1 : Mem) (H1 : Heap) (locs1 : List Loc), mh K M1 H1 → va_S (mFA K) s.heap H1 locs1 → k r M1 → W p l e R s m args below meth c H1 locs1 (cells + rm.cells) (slots + rm.slots) Qf (F0 m (pc + 3) ls (.double r :: rest))) : W p l e R s m args below meth c H locs cells slots Qf (F0 m pc ls st0) := by
  have hts := X.1.2.2.2.2
  exact r_call (va_runV X.1 (hct M (vD k) hP.2) ⟨hml.1.cb X hrm, hts _ hml.2.1, hts _ hml.2.2⟩ ⟨mPre_blind, mRecv_at X.2.1 hM hc hP.1, fun U hU hW9 => mPre_at X.2.1 hS hM hU hW9⟩ rfl hn hsize hst (lv_room hW) hdg hrm.2) hS (fun v M1 H1 locs1 hM1 hS1 hq => by
    obtain ⟨r, rfl, h⟩ := vD_of hq
    exact kk r M1 H1 locs1 hM1 hS1 h)
theorem r_callSd (X : Cx K p l s m args c cc nL own) (hM : mh K M H) (hS : va_S (mFA K) s.heap H locs) {F : (UInt64 → Mem → Prop) → Mem → Prop} (hct : mPd K l y cc' maxL' ret' rm As F) {k : UInt64 → Mem → Prop} (hP : F k M) (hml : mMS own index y cc' maxL' ret' n) (hst : st0 = As.reverse ++ rest) (hn : As.length = n) (hsize : ls.size = nL) (hW : (rest.map fun v => v.category).sum ≤ 8) (hrm : mRm rm R maxL' cells slots) (hdg : decode cc pc = .ok (.invokestatic index, 3))
    (kk : ∀ (r : UInt64) (M1 : Mem) (H1 : Heap) (locs1 : List Loc), mh K M1 H1 → va_S (mFA K) s.heap H1 locs1 → k r M1 → W p l e R s m args below meth c H1 locs1 (cells + rm.cells) (slots + rm.slots) Qf (F0 m (pc + 3) ls (.double r :: rest))) : W p l e R s m args below meth c H locs cells slots Qf (F0 m pc ls st0) := by
  have hts := X.1.2.2.2.2
  exact r_call (va_runS X.1 (hct M (vD k) hP) ⟨hml.1.cb X hrm, hts _ hml.2⟩ ⟨mPre_blind, fun U hU hW9 => mPre_at X.2.1 hS hM hU hW9⟩ rfl hn hsize hst (lv_room hW) hdg hrm.2) hS (fun v M1 H1 locs1 hM1 hS1 hq => by
    obtain ⟨r, rfl, h⟩ := vD_of hq
    exact kk r M1 H1 locs1 hM1 hS1 h)
theorem rx_callVd (X : Cx K p l s m args c cc nL own) (hM : mh K M H) (hS : va_S (mFA K) s.heap H locs) {F : (UInt64 → Mem → Prop) → (String → Mem → Prop) → Mem → Prop} (hct : mXPd K l y cc' maxL' ret' rm (.ref b :: As) F) {k : UInt64 → Mem → Prop} {QX : String → Mem → Prop} (hP : mRecv b ci (F k QX) M) (hml : mMV own index y cc' maxL' ret' n) (hc : vwCl[ci]? = some (y.cls, T, N)) (hst : st0 = As.reverse ++ .ref b :: rest) (hn : As.length = n) (hsize : ls.size = nL) (hW : (rest.map fun v => v.category).sum ≤ 8) (hrm : mRm rm R maxL' cells slots) (hdg : decode cc pc = .ok (.invokevirtual index, 3))
    (kx : ∀ (E : String) (ce : Cell) (q9 : Addr) (M1 : Mem) (H1 : Heap) (locs1 : List Loc), mh K M1 H1 → va_S (mFA K) s.heap H1 locs1 → QX E M1 → H1[q9]? = some ce → ce.vm = .none → s.vm.findClass E = some ce.cls → vx_W p l e R s m args below meth c H1 locs1 (cells + 1) (slots + 6) Qf (F0 m pc ls rest) q9)
    (kk : ∀ (r : UInt64) (M1 : Mem) (H1 : Heap) (locs1 : List Loc), mh K M1 H1 → va_S (mFA K) s.heap H1 locs1 → k r M1 → W p l e R s m args below meth c H1 locs1 cells slots Qf (F0 m (pc + 3) ls (.double r :: rest))) : W p l e R s m args below meth c H locs cells slots Qf (F0 m pc ls st0) := by
  have hts := X.1.2.2.2.2
  exact rx_call (vy_runV X.1 (hct M (vD k) QX hP.2) ⟨hml.1.cb X hrm, hts _ hml.2.1, hts _ hml.2.2⟩ ⟨mPre_blind, mRecv_at X.2.1 hM hc hP.1, fun U hU hW9 => mPre_at X.2.1 hS hM hU hW9⟩ rfl hn hsize hst (lv_room hW) hdg hrm.2) hS kx (fun v M1 H1 locs1 hM1 hS1 hq => by
    obtain ⟨r, rfl, h⟩ := vD_of hq
    exact kk r M1 H1 locs1 hM1 hS1 h)
theorem rx_callSd (X : Cx K p l s m args c cc nL own) (hM : mh K M H) (hS : va_S (mFA K) s.heap H locs) {F : (UInt64 → Mem → Prop) → (String → Mem → Prop) → Mem → Prop} (hct : mXPd K l y cc' maxL' ret' rm As F) {k : UInt64 → Mem → Prop} {QX : String → Mem → Prop} (hP : F k QX M) (hml : mMS own index y cc' maxL' ret' n) (hst : st0 = As.reverse ++ rest) (hn : As.length = n) (hsize : ls.size = nL) (hW : (rest.map fun v => v.category).sum ≤ 8) (hrm : mRm rm R maxL' cells slots) (hdg : decode cc pc = .ok (.invokestatic index, 3))
    (kx : ∀ (E : String) (ce : Cell) (q9 : Addr) (M1 : Mem) (H1 : Heap) (locs1 : List Loc), mh K M1 H1 → va_S (mFA K) s.heap H1 locs1 → QX E M1 → H1[q9]? = some ce → ce.vm = .none → s.vm.findClass E = some ce.cls → vx_W p l e R s m args below meth c H1 locs1 (cells + 1) (slots + 6) Qf (F0 m pc ls rest) q9)
    (kk : ∀ (r : UInt64) (M1 : Mem) (H1 : Heap) (locs1 : List Loc), mh K M1 H1 → va_S (mFA K) s.heap H1 locs1 → k r M1 → W p l e R s m args below meth c H1 locs1 cells slots Qf (F0 m (pc + 3) ls (.double r :: rest))) : W p l e R s m args below meth c H locs cells slots Qf (F0 m pc ls st0) := by
  have hts := X.1.2.2.2.2
  exact rx_call (vy_runS X.1 (hct M (vD k) QX hP) ⟨hml.1.cb X hrm, hts _ hml.2⟩ ⟨mPre_blind, fun U hU hW9 => mPre_at X.2.1 hS hM hU hW9⟩ rfl hn hsize hst (lv_room hW) hdg hrm.2) hS kx (fun v M1 H1 locs1 hM1 hS1 hq => by
    obtain ⟨r, rfl, h⟩ := vD_of hq
    exact kk r M1 H1 locs1 hM1 hS1 h)
theorem r_callVr (X : Cx K p l s m args c cc nL own) (hM : mh K M H) (hS : va_S (mFA K) s.heap H locs) {F : (Nat → Mem → Prop) → Mem → Prop} (hct : mPr K l y cc' maxL' ret' rm (.ref b :: As) F) {k : Nat → Mem → Prop} (hP : mRecv b ci (F k) M) (hml : mMV own index y cc' maxL' ret' n) (hc : vwCl[ci]? = some (y.cls, T, N)) (hst : st0 = As.reverse ++ .ref b :: rest) (hn : As.length = n) (hsize : ls.size = nL) (hW : (rest.map fun v => v.category).sum ≤ 8) (hrm : mRm rm R maxL' cells slots) (hdg : decode cc pc = .ok (.invokevirtual index, 3))
    (kk : ∀ (r : Nat) (M1 : Mem) (H1 : Heap) (locs1 : List Loc), mh K M1 H1 → va_S (mFA K) s.heap H1 locs1 → k r M1 → W p l e R s m args below meth c H1 locs1 (cells + rm.cells) (slots + rm.slots) Qf (F0 m (pc + 3) ls (.ref r :: rest))) : W p l e R s m args below meth c H locs cells slots Qf (F0 m pc ls st0) := by
  have hts := X.1.2.2.2.2
  exact r_call (va_runV X.1 (hct M (vR k) hP.2) ⟨hml.1.cb X hrm, hts _ hml.2.1, hts _ hml.2.2⟩ ⟨mPre_blind, mRecv_at X.2.1 hM hc hP.1, fun U hU hW9 => mPre_at X.2.1 hS hM hU hW9⟩ rfl hn hsize hst (lv_room hW) hdg hrm.2) hS (fun v M1 H1 locs1 hM1 hS1 hq => by
    obtain ⟨r, rfl, h⟩ := vR_of hq
    exact kk r M1 H1 locs1 hM1 hS1 h)
theorem r_callSr (X : Cx K p l s m args c cc nL own) (hM : mh K M H) (hS : va_S (mFA K) s.heap H locs) {F : (Nat → Mem → Prop) → Mem → Prop} (hct : mPr K l y cc' maxL' ret' rm As F) {k : Nat → Mem → Prop} (hP : F k M) (hml : mMS own index y cc' maxL' ret' n) (hst : st0 = As.reverse ++ rest) (hn : As.length = n) (hsize : ls.size = nL) (hW : (rest.map fun v => v.category).sum ≤ 8) (hrm : mRm rm R maxL' cells slots) (hdg : decode cc pc = .ok (.invokestatic index, 3))
    (kk : ∀ (r : Nat) (M1 : Mem) (H1 : Heap) (locs1 : List Loc), mh K M1 H1 → va_S (mFA K) s.heap H1 locs1 → k r M1 → W p l e R s m args below meth c H1 locs1 (cells + rm.cells) (slots + rm.slots) Qf (F0 m (pc + 3) ls (.ref r :: rest))) : W p l e R s m args below meth c H locs cells slots Qf (F0 m pc ls st0) := by
  have hts := X.1.2.2.2.2
  exact r_call (va_runS X.1 (hct M (vR k) hP) ⟨hml.1.cb X hrm, hts _ hml.2⟩ ⟨mPre_blind, fun U hU hW9 => mPre_at X.2.1 hS hM hU hW9⟩ rfl hn hsize hst (lv_room hW) hdg hrm.2) hS (fun v M1 H1 locs1 hM1 hS1 hq => by
    obtain ⟨r, rfl, h⟩ := vR_of hq
    exact kk r M1 H1 locs1 hM1 hS1 h)
theorem rx_callVr (X : Cx K p l s m args c cc nL own) (hM : mh K M H) (hS : va_S (mFA K) s.heap H locs) {F : (Nat → Mem → Prop) → (String → Mem → Prop) → Mem → Prop} (hct : mXPr K l y cc' maxL' ret' rm (.ref b :: As) F) {k : Nat → Mem → Prop} {QX : String → Mem → Prop} (hP : mRecv b ci (F k QX) M) (hml : mMV own index y cc' maxL' ret' n) (hc : vwCl[ci]? = some (y.cls, T, N)) (hst : st0 = As.reverse ++ .ref b :: rest) (hn : As.length = n) (hsize : ls.size = nL) (hW : (rest.map fun v => v.category).sum ≤ 8) (hrm : mRm rm R maxL' cells slots) (hdg : decode cc pc = .ok (.invokevirtual index, 3))
    (kx : ∀ (E : String) (ce : Cell) (q9 : Addr) (M1 : Mem) (H1 : Heap) (locs1 : List Loc), mh K M1 H1 → va_S (mFA K) s.heap H1 locs1 → QX E M1 → H1[q9]? = some ce → ce.vm = .none → s.vm.findClass E = some ce.cls → vx_W p l e R s m args below meth c H1 locs1 (cells + 1) (slots + 6) Qf (F0 m pc ls rest) q9)
    (kk : ∀ (r : Nat) (M1 : Mem) (H1 : Heap) (locs1 : List Loc), mh K M1 H1 → va_S (mFA K) s.heap H1 locs1 → k r M1 → W p l e R s m args below meth c H1 locs1 cells slots Qf (F0 m (pc + 3) ls (.ref r :: rest))) : W p l e R s m args below meth c H locs cells slots Qf (F0 m pc ls st0) := by
  have hts := X.1.2.2.2.2
  exact rx_call (vy_runV X.1 (hct M (vR k) QX hP.2) ⟨hml.1.cb X hrm, hts _ hml.2.1, hts _ hml.2.2⟩ ⟨mPre_blind, mRecv_at X.2.1 hM hc hP.1, fun U hU hW9 => mPre_at X.2.1 hS hM hU hW9⟩ rfl hn hsize hst (lv_room hW) hdg hrm.2) hS kx (fun v M1 H1 locs1 hM1 hS1 hq => by
    obtain ⟨r, rfl, h⟩ := vR_of hq
    exact kk r M1 H1 locs1 hM1 hS1 h)
theorem rx_callSr (X : Cx K p l s m args c cc nL own) (hM : mh K M H) (hS : va_S (mFA K) s.heap H locs) {F : (Nat → Mem → Prop) → (String → Mem → Prop) → Mem → Prop} (hct : mXPr K l y cc' maxL' ret' rm As F) {k : Nat → Mem → Prop} {QX : String → Mem → Prop} (hP : F k QX M) (hml : mMS own index y cc' maxL' ret' n) (hst : st0 = As.reverse ++ rest) (hn : As.length = n) (hsize : ls.size = nL) (hW : (rest.map fun v => v.category).sum ≤ 8) (hrm : mRm rm R maxL' cells slots) (hdg : decode cc pc = .ok (.invokestatic index, 3))
    (kx : ∀ (E : String) (ce : Cell) (q9 : Addr) (M1 : Mem) (H1 : Heap) (locs1 : List Loc), mh K M1 H1 → va_S (mFA K) s.heap H1 locs1 → QX E M1 → H1[q9]? = some ce → ce.vm = .none → s.vm.findClass E = some ce.cls → vx_W p l e R s m args below meth c H1 locs1 (cells + 1) (slots + 6) Qf (F0 m pc ls rest) q9)
    (kk : ∀ (r : Nat) (M1 : Mem) (H1 : Heap) (locs1 : List Loc), mh K M1 H1 → va_S (mFA K) s.heap H1 locs1 → k r M1 → W p l e R s m args below meth c H1 locs1 cells slots Qf (F0 m (pc + 3) ls (.ref r :: rest))) : W p l e R s m args below meth c H locs cells slots Qf (F0 m pc ls st0) := by
  have hts := X.1.2.2.2.2
  exact rx_call (vy_runS X.1 (hct M (vR k) QX hP) ⟨hml.1.cb X hrm, hts _ hml.2⟩ ⟨mPre_blind, fun U hU hW9 => mPre_at X.2.1 hS hM hU hW9⟩ rfl hn hsize hst (lv_room hW) hdg hrm.2) hS kx (fun v M1 H1 locs1 hM1 hS1 hq => by
    obtain ⟨r, rfl, h⟩ := vR_of hq
    exact kk r M1 H1 locs1 hM1 hS1 h)
theorem r_callVv (X : Cx K p l s m args c cc nL own) (hM : mh K M H) (hS : va_S (mFA K) s.heap H locs) {F : (Mem → Prop) → Mem → Prop} (hct : mPv K l y cc' maxL' ret' rm (.ref b :: As) F) {k : Mem → Prop} (hP : mRecv b ci (F k) M) (hml : mMV own index y cc' maxL' ret' n) (hc : vwCl[ci]? = some (y.cls, T, N)) (hst : st0 = As.reverse ++ .ref b :: rest) (hn : As.length = n) (hsize : ls.size = nL) (hW : (rest.map fun v => v.category).sum ≤ 8) (hrm : mRm rm R maxL' cells slots) (hdg : decode cc pc = .ok (.invokevirtual index, 3))
    (kk : ∀ (M1 : Mem) (H1 : Heap) (locs1 : List Loc), mh K M1 H1 → va_S (mFA K) s.heap H1 locs1 → k M1 → W p l e R s m args below meth c H1 locs1 (cells + rm.cells) (slots + rm.slots) Qf (F0 m (pc + 3) ls rest)) : W p l e R s m args below meth c H locs cells slots Qf (F0 m pc ls st0) := by
  have hts := X.1.2.2.2.2
  exact r_call (va_runV X.1 (hct M (vV k) hP.2) ⟨hml.1.cb X hrm, hts _ hml.2.1, hts _ hml.2.2⟩ ⟨mPre_blind, mRecv_at X.2.1 hM hc hP.1, fun U hU hW9 => mPre_at X.2.1 hS hM hU hW9⟩ rfl hn hsize hst (lv_room hW) hdg hrm.2) hS (fun v M1 H1 locs1 hM1 hS1 hq => by
    obtain ⟨rfl, h⟩ := vV_of hq
    exact kk M1 H1 locs1 hM1 hS1 h)
theorem r_callSv (X : Cx K p l s m args c cc nL own) (hM : mh K M H) (hS : va_S (mFA K) s.heap H locs) {F : (Mem → Prop) → Mem → Prop} (hct : mPv K l y cc' maxL' ret' rm As F) {k : Mem → Prop} (hP : F k M) (hml : mMS own index y cc' maxL' ret' n) (hst : st0 = As.reverse ++ rest) (hn : As.length = n) (hsize : ls.size = nL) (hW : (rest.map fun v => v.category).sum ≤ 8) (hrm : mRm rm R maxL' cells slots) (hdg : decode cc pc = .ok (.invokestatic index, 3))
    (kk : ∀ (M1 : Mem) (H1 : Heap) (locs1 : List Loc), mh K M1 H1 → va_S (mFA K) s.heap H1 locs1 → k M1 → W p l e R s m args below meth c H1 locs1 (cells + rm.cells) (slots + rm.slots) Qf (F0 m (pc + 3) ls rest)) : W p l e R s m args below meth c H locs cells slots Qf (F0 m pc ls st0) := by
  have hts := X.1.2.2.2.2
  exact r_call (va_runS X.1 (hct M (vV k) hP) ⟨hml.1.cb X hrm, hts _ hml.2⟩ ⟨mPre_blind, fun U hU hW9 => mPre_at X.2.1 hS hM hU hW9⟩ rfl hn hsize hst (lv_room hW) hdg hrm.2) hS (fun v M1 H1 locs1 hM1 hS1 hq => by
    obtain ⟨rfl, h⟩ := vV_of hq
    exact kk M1 H1 locs1 hM1 hS1 h)
theorem rx_callVv (X : Cx K p l s m args c cc nL own) (hM : mh K M H) (hS : va_S (mFA K) s.heap H locs) {F : (Mem → Prop) → (String → Mem → Prop) → Mem → Prop} (hct : mXPv K l y cc' maxL' ret' rm (.ref b :: As) F) {k : Mem → Prop} {QX : String → Mem → Prop} (hP : mRecv b ci (F k QX) M) (hml : mMV own index y cc' maxL' ret' n) (hc : vwCl[ci]? = some (y.cls, T, N)) (hst : st0 = As.reverse ++ .ref b :: rest) (hn : As.length = n) (hsize : ls.size = nL) (hW : (rest.map fun v => v.category).sum ≤ 8) (hrm : mRm rm R maxL' cells slots) (hdg : decode cc pc = .ok (.invokevirtual index, 3))
    (kx : ∀ (E : String) (ce : Cell) (q9 : Addr) (M1 : Mem) (H1 : Heap) (locs1 : List Loc), mh K M1 H1 → va_S (mFA K) s.heap H1 locs1 → QX E M1 → H1[q9]? = some ce → ce.vm = .none → s.vm.findClass E = some ce.cls → vx_W p l e R s m args below meth c H1 locs1 (cells + 1) (slots + 6) Qf (F0 m pc ls rest) q9)
    (kk : ∀ (M1 : Mem) (H1 : Heap) (locs1 : List Loc), mh K M1 H1 → va_S (mFA K) s.heap H1 locs1 → k M1 → W p l e R s m args below meth c H1 locs1 cells slots Qf (F0 m (pc + 3) ls rest)) : W p l e R s m args below meth c H locs cells slots Qf (F0 m pc ls st0) := by
  have hts := X.1.2.2.2.2
  exact rx_call (vy_runV X.1 (hct M (vV k) QX hP.2) ⟨hml.1.cb X hrm, hts _ hml.2.1, hts _ hml.2.2⟩ ⟨mPre_blind, mRecv_at X.2.1 hM hc hP.1, fun U hU hW9 => mPre_at X.2.1 hS hM hU hW9⟩ rfl hn hsize hst (lv_room hW) hdg hrm.2) hS kx (fun v M1 H1 locs1 hM1 hS1 hq => by
    obtain ⟨rfl, h⟩ := vV_of hq
    exact kk M1 H1 locs1 hM1 hS1 h)
theorem rx_callSv (X : Cx K p l s m args c cc nL own) (hM : mh K M H) (hS : va_S (mFA K) s.heap H locs) {F : (Mem → Prop) → (String → Mem → Prop) → Mem → Prop} (hct : mXPv K l y cc' maxL' ret' rm As F) {k : Mem → Prop} {QX : String → Mem → Prop} (hP : F k QX M) (hml : mMS own index y cc' maxL' ret' n) (hst : st0 = As.reverse ++ rest) (hn : As.length = n) (hsize : ls.size = nL) (hW : (rest.map fun v => v.category).sum ≤ 8) (hrm : mRm rm R maxL' cells slots) (hdg : decode cc pc = .ok (.invokestatic index, 3))
    (kx : ∀ (E : String) (ce : Cell) (q9 : Addr) (M1 : Mem) (H1 : Heap) (locs1 : List Loc), mh K M1 H1 → va_S (mFA K) s.heap H1 locs1 → QX E M1 → H1[q9]? = some ce → ce.vm = .none → s.vm.findClass E = some ce.cls → vx_W p l e R s m args below meth c H1 locs1 (cells + 1) (slots + 6) Qf (F0 m pc ls rest) q9)
    (kk : ∀ (M1 : Mem) (H1 : Heap) (locs1 : List Loc), mh K M1 H1 → va_S (mFA K) s.heap H1 locs1 → k M1 → W p l e R s m args below meth c H1 locs1 cells slots Qf (F0 m (pc + 3) ls rest)) : W p l e R s m args below meth c H locs cells slots Qf (F0 m pc ls st0) := by
  have hts := X.1.2.2.2.2
  exact rx_call (vy_runS X.1 (hct M (vV k) QX hP) ⟨hml.1.cb X hrm, hts _ hml.2⟩ ⟨mPre_blind, fun U hU hW9 => mPre_at X.2.1 hS hM hU hW9⟩ rfl hn hsize hst (lv_room hW) hdg hrm.2) hS kx (fun v M1 H1 locs1 hM1 hS1 hq => by
    obtain ⟨rfl, h⟩ := vV_of hq
    exact kk M1 H1 locs1 hM1 hS1 h)
theorem r_callIv (X : Cx K p l s m args c cc nL own) (hM : mh K M H) (hS : va_S (mFA K) s.heap H locs) {F : (Mem → Prop) → Mem → Prop} (hct : mPv K l y cc' maxL' none rm (.ref b :: As) F) {k : Mem → Prop} (hP : F k M) (hml : mMI own index y cc' maxL' none n) (hst : st0 = As.reverse ++ .ref b :: rest) (hn : As.length = n) (hsize : ls.size = nL) (hW : (rest.map fun v => v.category).sum ≤ 8) (hrm : mRm rm R maxL' cells slots) (hdg : decode cc pc = .ok (.invokespecial index, 3))
    (kk : ∀ (M1 : Mem) (H1 : Heap) (locs1 : List Loc), mh K M1 H1 → va_S (mFA K) s.heap H1 locs1 → k M1 → W p l e R s m args below meth c H1 locs1 (cells + rm.cells) (slots + rm.slots) Qf (F0 m (pc + 3) ls rest)) : W p l e R s m args below meth c H locs cells slots Qf (F0 m pc ls st0) := by
  have hts := X.1.2.2.2.2
  exact r_call (va_runI X.1 (hct M (vV k) hP) ⟨hml.1.cb X hrm, hml.2.1, hts _ hml.2.2⟩ ⟨mPre_blind, fun U hU hW9 => mPre_at X.2.1 hS hM hU hW9⟩ rfl hn hsize hst (lv_room hW) hdg hrm.2) hS (fun v M1 H1 locs1 hM1 hS1 hq => by
    obtain ⟨rfl, h⟩ := vV_of hq
    exact kk M1 H1 locs1 hM1 hS1 h)
end MROWS2
