/-- the good words of the tables: every method's -/
def mLA : List Cond := lw_tbl.filter goodWord
theorem mLA_in {w : Cond} (h : w ∈ lw_tbl) (hg : goodWord w = true) : w ∈ mLA := List.mem_filter.mpr ⟨h, hg⟩
theorem mLA_tbl {w : Cond} (h : w ∈ mLA) : w ∈ lw_tbl := (List.mem_filter.mp h).1
theorem mLA_good {w : Cond} (h : w ∈ mLA) : (w.onTables && w.keeps) = true ∨ ∃ ty, w = .arrayClass ty := good_of_word (List.mem_filter.mp h).2
/-- by its place among the tables' words -/
theorem mLA_at {w : Cond} (i : Nat) (h : tables_1[i]? = some w) (hg : goodWord w = true) : w ∈ mLA := mLA_in (List.mem_append_right _ (List.mem_of_getElem? h)) hg
/-! ===== THE MACHINE OVER A GHOST MEMORY: definitions, the facts that every method is given, contracts ===== -/
abbrev Mem : Type := Nat → Option va_E
/-- (the classes and their fields, the array classes, addresses: 0 where the law's own cells begin; 1 the empty element data; 2, 3 the two tables) -/
abbrev Cfg : Type := va_G × (Nat → ClassId) × (Nat → Nat)
abbrev mFA (K : Cfg) : Nat → Prop := fun q => K.2.2 0 ≤ q
def mh (K : Cfg) (M : Mem) (H : Heap) : Prop := ∀ (a : Nat) (e : va_E), M a = some e → K.2.2 0 ≤ a ∧ va_at K.1 vwCl (a, e) H
abbrev mTys (K : Cfg) : List (ClassId × FieldType) := [(K.2.1 0, .int), (K.2.1 1, .long), (K.2.1 2, .double), (K.2.1 3, .boolean), (K.2.1 4, .object "ChuteLoft$Jumper"), (K.2.1 5, .object "ChuteLoft$Rig"), (K.2.1 6, .object "ChuteLoft$Jump"), (K.2.1 7, .object "java/lang/Object"), (K.2.1 8, .array .boolean)]
def mUp (M : Mem) (a : Nat) (e : va_E) : Mem := fun q => if q = a then some e else M q
theorem mUp_self (M : Mem) (a : Nat) (e : va_E) : mUp M a e a = some e := if_pos rfl
theorem mUp_ne {M : Mem} {a q : Nat} {e : va_E} (h : q ≠ a) : mUp M a e q = M q := if_neg h
theorem mh.lt {K : Cfg} {M : Mem} {H : Heap} (h : mh K M H) {a : Nat} {e : va_E} (ha : M a = some e) : a < H.size := (h a e ha).2.lt
theorem mh.put {K : Cfg} {M : Mem} {H H1 : Heap} (h : mh K M H) {a : Nat} {e : va_E} (hA : K.2.2 0 ≤ a) (he : va_at K.1 vwCl (a, e) H1) (oq : ∀ q : Nat, q ≠ a → H1[q]? = H[q]?) : mh K (mUp M a e) H1 := by
  intro q e1 h1
  unfold mUp at h1
  split at h1
  · rename_i hq
    subst hq
    cases h1
    exact ⟨hA, he⟩
  · rename_i hq
    exact ⟨(h q e1 h1).1, (h q e1 h1).2.kept (oq q hq)⟩
theorem mh.kept {K : Cfg} {M : Mem} {H H1 : Heap} (h : mh K M H) (o1 : ∀ q : Nat, q < H.size → H1[q]? = H[q]?) : mh K M H1 := fun q e h1 => ⟨(h q e h1).1, (h q e h1).2.kept (o1 q (h.lt h1))⟩
theorem va_P1 {D : va_G} {cl : List vw_C} {q : Nat × va_E} {H : Heap} (h : va_at D cl q H) : va_P D cl [q] H := by
  intro k x hx
  have hk : k < 1 := (List.getElem?_eq_some_iff.mp hx).1
  rw [show k = 0 by omega] at hx
  cases hx
  exact h
theorem va_AOA.spec {t : FieldType} {args : Array Value} {s : State} (h : (Cond.arrayOver (.array t)).before args s = true) :
    ∃ comp c k, s.vm.findClass (FieldType.array t).toString = some comp ∧ (s.vm.classes.findIdx? fun (x : Class) => match x.kind with | .array component _ => component == comp | _ => false) = some c ∧ s.vm.classes[c]? = some k ∧ k.kind = .array comp (.array t) ∧ s.vm.findClass ("[" ++ (FieldType.array t).toString) = some c := by
  simp only [Cond.before, Cond.holds, Cond.value, beq_iff_eq] at h
  cases hc : s.vm.findClass (FieldType.array t).toString with
  | none => simp [hc] at h
  | some comp =>
    simp only [hc, Option.bind_some, Option.bind_eq_some_iff, Option.map_eq_some_iff] at h
    obtain ⟨c, hi, k, hk, hb⟩ := h
    obtain ⟨hlt, hp, -⟩ := Array.findIdx?_eq_some_iff_getElem.mp hi
    have hkk : s.vm.classes[c] = k := (Array.getElem?_eq_some_iff.mp hk).2
    rw [hkk] at hp
    cases hkind : k.kind with
    | array component ty =>
      rw [hkind] at hb hp
      simp at hb hp
      exact ⟨comp, c, k, rfl, hi, hk, by rw [hkind, hp, hb.1], hb.2⟩
    | _ => rw [hkind] at hb; simp at hb
theorem va_AOA.moved {t : FieldType} {u U : State} (hvm : u.vm.Alike U.vm) (h : va_AOA t u) : va_AOA t U := by
  obtain ⟨comp, c, k, h1, h2, h3, h4, h5⟩ := va_AOA.spec h
  obtain ⟨k', hk', he⟩ := hvm.2.2 _ _ h3
  have hi : (U.vm.classes.findIdx? fun (x : Class) => match x.kind with | .array component _ => component == comp | _ => false) = some c := by
    have hb : U.vm.bare = u.vm.bare := by first | exact hvm.bare_eq | exact hvm.bare_eq.symm
    exact (va_idx_bare U.vm comp).symm.trans ((congrArg (fun v : Vm => v.classes.findIdx? fun (x : Class) => match x.kind with | .array component _ => component == comp | _ => false) hb).trans ((va_idx_bare u.vm comp).trans h2))
  have hkind : k'.kind = .array comp (.array t) := by rw [he]; exact h4
  have f1 : U.vm.findClass (FieldType.array t).toString = some comp := by rw [hvm.findClass]; exact h1
  have f2 : U.vm.findClass ("[" ++ (FieldType.array t).toString) = some c := by rw [hvm.findClass]; exact h5
  unfold va_AOA Cond.before Cond.holds
  simp only [Cond.value]
  rw [f1, Option.bind_some]
  refine (congrArg (fun o : Option Nat => (o.bind (fun c => (U.vm.classes[c]?).map fun (k : Class) => match k.kind with | .array _ ty => decide (ty = FieldType.array t) && decide (U.vm.findClass ("[" ++ (FieldType.array t).toString) = some c) | _ => false) == some true)) hi).trans ?_
  simp [hk', hkind, f2]
/-- words that are no good ones: links between nest mates, casts, what is declared, the three of List -/
def mNwM : List (String × Nat × MethodName × String) := [(RX5, 30, yX4_init, "ChuteLoft"), (RX0, 21, yX1_init, "ChuteLoft"), (RX5, 55, yX1_init, "ChuteLoft"), (RX5, 84, yX2_init, "ChuteLoft"), (RX5, 85, yX3_init, "ChuteLoft"), (RX6, 36, yX9_loading_, "ChuteLoftModel")]
def mNwF : List (String × Nat × String × String × String × String) := [(RX6, 65, "ChuteLoftModel", "wx", "[I", "ChuteLoftModel"), (RX6, 74, "ChuteLoftModel", "wy", "[I", "ChuteLoftModel")]
def mNwC : List (String × String) := [("java/lang/IllegalStateException", "java/lang/IllegalStateException"), ("java/lang/IllegalArgumentException", "java/lang/IllegalArgumentException"), ("java/lang/IndexOutOfBoundsException", "java/lang/IndexOutOfBoundsException"), (RX6, "java/lang/Object"), (RX7, "java/lang/Object"), (RX8, "java/lang/Object")]
def mNwD : List MethodName := [⟨"java/lang/RuntimeException", "<init>", "(Ljava/lang/String;)V"⟩, ⟨"java/lang/Exception", "<init>", "(Ljava/lang/String;)V"⟩, ⟨"java/lang/Throwable", "<init>", "(Ljava/lang/String;)V"⟩]
def mFwl : List (MethodName × MethodName) := [(⟨"java/util/List", "size", "()I"⟩, yJx4a65c_size_8abf5), (⟨"java/util/List", "get", "(I)Ljava/lang/Object;"⟩, yJx4a65c_get_915e3), (⟨"java/util/List", "add", "(Ljava/lang/Object;)Z"⟩, yJx4a65c_add_9ea2d)]
def mAOl : List String := ["ChuteLoft$Jumper", "ChuteLoft$Rig", "ChuteLoft$Jump", "java/lang/Object"]
def mStr : List (String × Nat × String) := [(RX5, 238, "what is 0 to 12"), (RX5, 326, "there is no such jumper"), (RX5, 242, "there is no such place"), (RX5, 212, "what is 0 to 8"), (RX5, 328, "there is no such rig"), (RX5, 226, "what is 0 to 4"), (RX5, 324, "a layer is 0 to 9"), (RX5, 322, "an argument is out of its bounds"), (RX5, 92, "there are 8 jumpers"), (RX5, 106, "there are 8 rigs"), (RX5, 129, "who has it, or shall have it, is aboard"), (RX5, 137, "the rig is packed"), (RX5, 151, "the last day is 500, and nobody waits aboard overnight"), (RX5, 164, "the plane is held, or full"), (RX5, 178, "the plane is held, or empty"), (RX5, 350, "that jumper has no rig")]
def mNcl : List (String × String) := [("java/lang/IllegalStateException", "java/lang/IllegalArgumentException"), ("java/lang/IllegalStateException", "java/lang/IndexOutOfBoundsException"), ("java/lang/IllegalArgumentException", "java/lang/IndexOutOfBoundsException")]
def mGL : Nat → Int32 := fun j => match j with | 0 => 8 | 1 => 14 | 2 => 20 | _ => 30
def mLL : Nat → Int32 := fun j => match j with | 0 => 4 | 1 => 6 | 2 => 9 | _ => 20
/-- what every method is given of the state at its start -/
def GS (K : Cfg) (U : State) : Prop :=
  K.2.2 0 ≤ U.heap.size ∧ va_K K.1 vwCl (mTys K) U ∧
  ((∀ q ∈ mNwM, va_Nw (.methodLinkNest q.1 q.2.1 q.2.2.1 q.2.2.2) U) ∧ (∀ q ∈ mNwF, va_Nw (.fieldLinkNest q.1 q.2.1 q.2.2.1 q.2.2.2.1 q.2.2.2.2.1 q.2.2.2.2.2) U) ∧ (∀ q ∈ mNwC, va_Nw (.castable q.1 q.2) U) ∧ (∀ q ∈ mNwD, va_Nw (.declares q) U)) ∧
  ((∀ q ∈ mFwl, va_Fw RJx4a65c q.1 q.2 U) ∧ (∀ C ∈ mAOl, va_AO C U) ∧ va_AOA .boolean U ∧ (∀ q ∈ mStr, ∃ a, vk_R q.1 q.2.1 q.2.2 a U) ∧ (∀ q ∈ mNcl, va_Nc q.1 q.2 U)) ∧
  (vx_Zq Bundle.tN "UNASSIGNED_STACK" Bundle.steD (mFA K) U U.heap ∧ vx_Zq Bundle.tN "SUPPRESSED_SENTINEL" Bundle.listD (mFA K) U U.heap) ∧
  ((va_Z RX5 "GROUND_LIMITS" "[I" (.ref (K.2.2 2)) (mFA K) U U.heap ∧ va_T .int (K.2.2 2) 4 (fun j => .int (mGL j)) (mFA K) U U.heap) ∧ (va_Z RX5 "LOADING_LIMITS" "[I" (.ref (K.2.2 3)) (mFA K) U U.heap ∧ va_T .int (K.2.2 3) 4 (fun j => .int (mLL j)) (mFA K) U U.heap)) ∧
  (va_Z RJx4a65c "DEFAULTCAPACITY_EMPTY_ELEMENTDATA" "[Ljava/lang/Object;" (.ref (K.2.2 1)) (mFA K) U U.heap ∧ va_T (.object "java/lang/Object") (K.2.2 1) 0 (fun _ => .null) (mFA K) U U.heap) ∧
  va_Z RJ9 "negativeZeroDoubleBits" "J" (.long (-9223372036854775808)) (mFA K) U U.heap
theorem GS.moved {K : Cfg} {s U : State} {H : Heap} {locs : List Loc} (h : GS K s) (hS : va_S (mFA K) s.heap H locs) (hU : U.heap = H) (hW : s.WarmedH U.vm) : GS K U := by
  obtain ⟨h1, h2, ⟨h3, h4, h5, h6⟩, ⟨h7, h8, h9, h10, h11⟩, ⟨h12, h13⟩, ⟨⟨h14, h15⟩, h16, h17⟩, ⟨h18, h19⟩, h20⟩ := h
  have hA := hW.alike
  have hq : ∀ a : Nat, a < s.heap.size → ¬ mFA K a → U.heap[a]? = s.heap[a]? := fun a ha hn => by rw [hU]; exact hS.2.1 a ha hn
  exact ⟨by rw [hU]; exact Nat.le_trans h1 hS.1, va_K.moved hA h2, ⟨fun q hq9 => va_Nw.warmM hW (h3 q hq9), fun q hq9 => va_Nw.warmF hW (h4 q hq9), fun q hq9 => va_Nw.warmC hW (h5 q hq9), fun q hq9 => va_Nw.warmD hW (h6 q hq9)⟩,
    ⟨fun q hq9 => va_Fw.moved (by
      simp only [mFwl, List.mem_cons, List.not_mem_nil, or_false] at hq9
      rcases hq9 with rfl | rfl | rfl <;> exact ⟨by decide, by decide⟩) hA (h7 q hq9), fun C hC => va_AO.moved hA (h8 C hC), va_AOA.moved hA h9, fun q hq9 => (h10 q hq9).imp fun a ha => vk_R.warm hW ha, fun q hq9 => va_Nc.moved hA (h11 q hq9)⟩,
    ⟨vx_Zq.moved hA (vx_Zq.kept h12 hq), vx_Zq.moved hA (vx_Zq.kept h13 hq)⟩,
    ⟨⟨va_Z.moved hA (va_Z.kept h14 hq), va_T.moved hA (va_T.kept h15 hq)⟩, va_Z.moved hA (va_Z.kept h16 hq), va_T.moved hA (va_T.kept h17 hq)⟩,
    ⟨va_Z.moved hA (va_Z.kept h18 hq), va_T.moved hA (va_T.kept h19 hq)⟩, va_Z.moved hA (va_Z.kept h20 hq)⟩
/-- a method's end: what it answers, and the memory then -/
def mQ (K : Cfg) (Q : Option Value → Mem → Prop) : Array Value → State → Outcome → State → Prop := fun _ st oc t => ∃ (v : Option Value) (M : Mem), oc = .returned v ∧ Q v M ∧ mh K M t.heap ∧ va_F (mFA K) st t
def mX (K : Cfg) (QX : String → Mem → Prop) : String → State → State → Prop := fun E st t => ∃ M : Mem, QX E M ∧ mh K M t.heap ∧ va_F (mFA K) st t
abbrev mWs (y : MethodName) (cc : ByteArray) (maxL : Nat) (ret : Option FieldType) : List Cond := .code y cc maxL ret :: mLA
abbrev mPre (K : Cfg) (M : Mem) (As : List Value) : Array Value → State → Prop := va_Pc As (fun U => GS K U ∧ mh K M U.heap)
/-- a contract: a method that returns -/
def mP (K : Cfg) (l : Launch) (y : MethodName) (cc : ByteArray) (maxL : Nat) (ret : Option FieldType) (rm : Room) (As : List Value) (P : (Option Value → Mem → Prop) → Mem → Prop) : Prop :=
  ∀ (M : Mem) (Q : Option Value → Mem → Prop), P Q M → Met l y (mWs y cc maxL ret) rm (mPre K M As) (mQ K Q) rm.cells rm.slots (mFA K)
/-- a contract: a method that returns, making nothing, or throws -/
def mXP (K : Cfg) (l : Launch) (y : MethodName) (cc : ByteArray) (maxL : Nat) (ret : Option FieldType) (rm : Room) (As : List Value) (P : (Option Value → Mem → Prop) → (String → Mem → Prop) → Mem → Prop) : Prop :=
  ∀ (M : Mem) (Q : Option Value → Mem → Prop) (QX : String → Mem → Prop), P Q QX M → vy_Met l y (mWs y cc maxL ret) rm (mPre K M As) (mQ K Q) (mX K QX) 0 0 1 6 (mFA K)
/-- what a body has at hand throughout -/
def Cx (K : Cfg) (p : Program) (l : Launch) (s : State) (m : MethodId) (args : Array Value) (c : Code) (cc : ByteArray) (nL : Nat) (own : String) : Prop :=
  CallFix p m c cc nL s args mLA own ∧ GS K s ∧ l.stackTraces = false
theorem mPre_blind {K : Cfg} {M : Mem} {As : List Value} : FrameBlind (mPre K M As) := by
  intro a U g mk h
  obtain ⟨h1, h2, h3⟩ := h
  exact ⟨h1, GS.moved (U := U.calling g mk a) (H := U.heap) (locs := []) h2 va_S.rf rfl (State.WarmedH.refl U), h3⟩
theorem mPre_at {K : Cfg} {M : Mem} {As : List Value} {s U : State} {H : Heap} {locs : List Loc} (hG : GS K s) (hS : va_S (mFA K) s.heap H locs) (hM : mh K M H) (hU : U.heap = H) (hW : s.WarmedH U.vm) : mPre K M As As.toArray U := ⟨rfl, GS.moved hG hS hU hW, by rw [hU]; exact hM⟩
section MBODY
variable {K : Cfg} {l : Launch} {y : MethodName} {cc : ByteArray} {maxL : Nat} {ret : Option FieldType} {rm : Room} {As : List Value}
theorem mP.of {P : (Option Value → Mem → Prop) → Mem → Prop} (hst : l.stackTraces = false) (hy : plainFor y = true) (hn : (lg_sl As).length ≤ maxL)
    (body : ∀ (M : Mem) (Q : Option Value → Mem → Prop), P Q M → ∀ (p : Program) (e : Env) (s : State) (m : MethodId) (below : List Frame) (meth : Method) (c : Code), Cx K p l s m As.toArray c cc maxL y.cls → meth.sig.returnType = ret → meth.locks = false → meth.name = y.name → mh K M s.heap → ∀ ls, lv_has ls maxL (lv_args 0 As) →
      W p l e rm s m As.toArray below meth c s.heap [] 0 0 (MQ below (mQ K Q) As.toArray s rm.cells rm.slots (mFA K)) (F0 m 0 ls [])) : mP K l y cc maxL ret rm As P := by
  intro M Q hP
  refine va_MetF (ws' := mLA) hy rfl ?_
  intro p e s m args below meth c s₁ B hml hv
  obtain ⟨rfl, hG, hM⟩ := hv
  have hts := atoms_spec (ws := mWs y cc maxL ret) B.pre
  have hl := lv_entry As (n := maxL) hn
  rw [lg_entry_eq]
  generalize (lg_sl As ++ List.replicate (maxL - (lg_sl As).length) Slot.unset).toArray = ls at hl ⊢
  exact body M Q hP p e s m below meth c ⟨⟨B.exec, B.bytes, hml, findClass_of_methodNamed B.named, fun w hw => hts w (List.mem_cons_of_mem _ hw)⟩, hG, hst⟩ B.returns B.notSynchronized (name_of_methodNamed B.named B.method).1 hM ls hl
theorem mXP.of {P : (Option Value → Mem → Prop) → (String → Mem → Prop) → Mem → Prop} (hst : l.stackTraces = false) (hy : plainName y.cls = true) (hn : (lg_sl As).length ≤ maxL)
    (body : ∀ (M : Mem) (Q : Option Value → Mem → Prop) (QX : String → Mem → Prop), P Q QX M → ∀ (p : Program) (e : Env) (s : State) (m : MethodId) (below : List Frame) (meth : Method) (c : Code), Cx K p l s m As.toArray c cc maxL y.cls → meth.sig.returnType = ret → meth.locks = false → (∀ x ∈ c.exceptionTable.toList, False) → mh K M s.heap → ∀ ls, lv_has ls maxL (lv_args 0 As) →
      W p l e rm s m As.toArray below meth c s.heap [] 0 0 (vy_MQ below (mQ K Q) (mX K QX) As.toArray s 0 0 1 6 (mFA K)) (F0 m 0 ls [])) : mXP K l y cc maxL ret rm As P := by
  intro M Q QX hP
  refine vy_ofW (ws' := mLA) hy rfl ?_
  intro p e s m args below meth c s₁ B hml hno hv
  obtain ⟨rfl, hG, hM⟩ := hv
  have hts := atoms_spec (ws := mWs y cc maxL ret) B.pre
  have hl := lv_entry As (n := maxL) hn
  rw [lg_entry_eq]
  generalize (lg_sl As ++ List.replicate (maxL - (lg_sl As).length) Slot.unset).toArray = ls at hl ⊢
  exact body M Q QX hP p e s m below meth c ⟨⟨B.exec, B.bytes, hml, findClass_of_methodNamed B.named, fun w hw => hts w (List.mem_cons_of_mem _ hw)⟩, hG, hst⟩ B.returns B.notSynchronized hno hM ls hl
end MBODY
