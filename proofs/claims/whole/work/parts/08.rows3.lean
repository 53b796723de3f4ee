/-! ===== nest mates, List, natives, statics, ends, throws ===== -/
def mStO (K : Cfg) (a : Nat) (i : Int32) (v : Nat) (k : Mem → Prop) : Mem → Prop := fun M => ∃ ci : Nat, (ci = 7 ∨ ci = 8 ∨ ci = 9) ∧ mStQ K 7 ci a i v k M
def mNo : Mem → Prop := fun _ => False
def mFuel : Nat := 4096
section MROWS3
variable {K : Cfg} {p : Program} {l : Launch} {e : Env} {R : Room} {s : State} {m : MethodId} {args : Array Value} {below : List Frame} {meth : Method} {c : Code} {H : Heap} {locs : List Loc} {cells slots : Nat} {Qf : State → Prop}
variable {cc : ByteArray} {nL : Nat} {own : String} {pc : Nat} {ls : Array Slot} {rest : List Value} {M : Mem} {a ci j index : Nat} {ref C : String} {T : u_T} {N : Nat}

theorem lv_ldcwf (hexec : p.tables.exec = Jvm.exec) (hb : c.code = cc) {v : UInt32} (hown : s.vm.findClass own = some m.cls) (hconst : (Jvm.Cond.constantFloat own index v).before args s = true) (hdg : decode cc pc = .ok (.ldc_w index, 3)) (k : W p l e R s m args below meth c H locs cells slots Qf (F0 m (pc + 3) ls (.float v :: rest))) : W p l e R s m args below meth c H locs cells slots Qf (F0 m pc ls rest) := by
  intro T hT X
  obtain ⟨t, a, b⟩ := k T hT X
  refine ⟨t, ?_, b⟩
  obtain ⟨k, cf, hk, hcf, hcp⟩ := Cond.constantFloat_spec hown hconst
  obtain ⟨k', hk', he⟩ := X.warmed.alike.2.2 _ _ hk
  jvm_step X.here [hexec, hb, hdg, ldc_w.wp_float (s := T) (f := F0 m pc ls rest) X.here.top hk' (by rw [he]; exact hcf) hcp]
  exact a
variable {y : MethodName} {cc' : ByteArray} {maxL' n : Nat} {ret' : Option FieldType} {rm : Room} {As : List Value} {b : Nat} {st0 : List Value}
theorem r_callVNf (X : Cx K p l s m args c cc nL own) (hM : mh K M H) (hS : va_S (mFA K) s.heap H locs) {F : (UInt32 → Mem → Prop) → Mem → Prop} (hct : mPf K l y cc' maxL' ret' rm (.ref b :: As) F) {k : UInt32 → Mem → Prop} (hP : mRecv b ci (F k) M) {host : String} (hnw : (own, index, y, host) ∈ mNwM) (hcd : Cond.code y cc' maxL' ret' ∈ mLA) (hin : Cond.initialized y.cls ∈ mLA) (hd : y.cls ≠ "java/lang/invoke/MethodHandle" ∧ y.cls ≠ "java/lang/invoke/VarHandle" ∧ (parseMethodDescriptor y.desc).map (fun d => d.parameters.length) = some n) (hi1 : Cond.instanceMethod y ∈ mLA) (hse : Cond.selects y.cls y y ∈ mLA) (hc : vwCl[ci]? = some (y.cls, T, N)) (hst : st0 = As.reverse ++ .ref b :: rest) (hn : As.length = n) (hsize : ls.size = nL) (hW : (rest.map fun v => v.category).sum ≤ 8) (hrm : mRm rm R maxL' cells slots) (hdg : decode cc pc = .ok (.invokevirtual index, 3))
    (kk : ∀ (r : UInt32) (M1 : Mem) (H1 : Heap) (locs1 : List Loc), mh K M1 H1 → va_S (mFA K) s.heap H1 locs1 → k r M1 → W p l e R s m args below meth c H1 locs1 (cells + rm.cells) (slots + rm.slots) Qf (F0 m (pc + 3) ls (.float r :: rest))) : W p l e R s m args below meth c H locs cells slots Qf (F0 m pc ls st0) := by
  have hts := X.1.2.2.2.2
  exact r_call (va_runVN X.1 (hct M (vF k) hP.2) ⟨va_cnB n hts (mWs_good hcd) rfl rfl rfl (X.2.1.2.2.1.1 _ hnw) (hts _ hin) hd hrm.1, hts _ hi1, hts _ hse⟩ ⟨mPre_blind, mRecv_at X.2.1 hM hc hP.1, fun U hU hW9 => mPre_at X.2.1 hS hM hU hW9⟩ rfl hn hsize hst (lv_room hW) hdg hrm.2) hS (fun v M1 H1 locs1 hM1 hS1 hq => by
    obtain ⟨r, rfl, h⟩ := vF_of hq
    exact kk r M1 H1 locs1 hM1 hS1 h)
theorem r_callINv (X : Cx K p l s m args c cc nL own) (hM : mh K M H) (hS : va_S (mFA K) s.heap H locs) {F : (Mem → Prop) → Mem → Prop} (hct : mPv K l y cc' maxL' none rm (.ref b :: As) F) {k : Mem → Prop} (hP : F k M) {host : String} (hnw : (own, index, y, host) ∈ mNwM) (hcd : Cond.code y cc' maxL' none ∈ mLA) (hin : Cond.initialized y.cls ∈ mLA) (hd : y.cls ≠ "java/lang/invoke/MethodHandle" ∧ y.cls ≠ "java/lang/invoke/VarHandle" ∧ (parseMethodDescriptor y.desc).map (fun d => d.parameters.length) = some n) (hnm : y.name = "<init>") (hi1 : Cond.instanceMethod y ∈ mLA) (hst : st0 = As.reverse ++ .ref b :: rest) (hn : As.length = n) (hsize : ls.size = nL) (hW : (rest.map fun v => v.category).sum ≤ 8) (hrm : mRm rm R maxL' cells slots) (hdg : decode cc pc = .ok (.invokespecial index, 3))
    (kk : ∀ (M1 : Mem) (H1 : Heap) (locs1 : List Loc), mh K M1 H1 → va_S (mFA K) s.heap H1 locs1 → k M1 → W p l e R s m args below meth c H1 locs1 (cells + rm.cells) (slots + rm.slots) Qf (F0 m (pc + 3) ls rest)) : W p l e R s m args below meth c H locs cells slots Qf (F0 m pc ls st0) := by
  have hts := X.1.2.2.2.2
  exact r_call (va_runIN X.1 (hct M (vV k) hP) ⟨va_cnB n hts (mWs_good hcd) rfl rfl rfl (X.2.1.2.2.1.1 _ hnw) (hts _ hin) hd hrm.1, hnm, hts _ hi1⟩ ⟨mPre_blind, fun U hU hW9 => mPre_at X.2.1 hS hM hU hW9⟩ rfl hn hsize hst (lv_room hW) hdg hrm.2) hS (fun v M1 H1 locs1 hM1 hS1 hq => by
    obtain ⟨rfl, h⟩ := vV_of hq
    exact kk M1 H1 locs1 hM1 hS1 h)
/-- List's methods, of an ArrayList -/
def mMF (own : String) (index : Nat) (x y : MethodName) (cc : ByteArray) (maxL : Nat) (ret : Option FieldType) (n : Nat) : Prop :=
  (x, y) ∈ mFwl ∧ Cond.methodLink own index x ∈ mLA ∧ Cond.selects RJx4a65c x y ∈ mLA ∧ Cond.instanceMethod y ∈ mLA ∧ Cond.initialized y.cls ∈ mLA ∧ Cond.code y cc maxL ret ∈ mLA ∧ (x.cls ≠ "java/lang/invoke/MethodHandle" ∧ x.cls ≠ "java/lang/invoke/VarHandle" ∧ (parseMethodDescriptor x.desc).map (fun d => d.parameters.length) = some n)
theorem mMF.cif {x : MethodName} (h : mMF own index x y cc' maxL' ret' n) (X : Cx K p l s m args c cc nL own) (hrm : mRm rm R maxL' cells slots) : va_CI R s args own RJx4a65c index x y cc' maxL' ret' (mWs y cc' maxL' ret') rm rm.cells rm.slots n := by
  have hts := X.1.2.2.2.2
  refine va_cwF n hts ?_ rfl rfl rfl (X.2.1.2.2.2.1.1 _ h.1) h.2.2.2.2.2.2 hrm.1
  intro w hw
  rcases List.mem_append.mp hw with hw | hw
  · simp only [List.mem_cons, List.not_mem_nil, or_false] at hw
    rcases hw with rfl | rfl | rfl | rfl
    · exact ⟨h.2.1, mLA_good h.2.1⟩
    · exact ⟨h.2.2.1, mLA_good h.2.2.1⟩
    · exact ⟨h.2.2.2.1, mLA_good h.2.2.2.1⟩
    · exact ⟨h.2.2.2.2.1, mLA_good h.2.2.2.2.1⟩
  · exact mWs_good h.2.2.2.2.2.1 w hw
theorem r_callFi (X : Cx K p l s m args c cc nL own) (hM : mh K M H) (hS : va_S (mFA K) s.heap H locs) {F : (Int32 → Mem → Prop) → Mem → Prop} (hct : mPi K l y cc' maxL' ret' rm (.ref b :: As) F) {k : Int32 → Mem → Prop} (hP : mRecv b 0 (F k) M) {x : MethodName} (hml : mMF own index x y cc' maxL' ret' n) (hst : st0 = As.reverse ++ .ref b :: rest) (hn : As.length = n) (hsize : ls.size = nL) (hW : (rest.map fun v => v.category).sum ≤ 8) (hrm : mRm rm R maxL' cells slots) {count : Nat} (hdg : decode cc pc = .ok (.invokeinterface index count, 5))
    (kk : ∀ (r : Int32) (M1 : Mem) (H1 : Heap) (locs1 : List Loc), mh K M1 H1 → va_S (mFA K) s.heap H1 locs1 → k r M1 → W p l e R s m args below meth c H1 locs1 (cells + rm.cells) (slots + rm.slots) Qf (F0 m (pc + 5) ls (.int r :: rest))) : W p l e R s m args below meth c H locs cells slots Qf (F0 m pc ls st0) := by
  have hcl := (X.2.1.2.1.1 0 _ rfl).2
  obtain ⟨fs, hb⟩ := hP.1
  exact r_call5 (va_runF hcl X.1 (hct M (vI k) hP.2) (hml.cif X hrm) ⟨mPre_blind, va_recv X.2.1.2.1 (va_P1 (hM b _ hb).2) (ci := 0) (q0 := 0) rfl rfl, fun U hU hW9 => mPre_at X.2.1 hS hM hU hW9⟩ rfl hn hsize hst (lv_room hW) hdg hrm.2) hS (fun v M1 H1 locs1 hM1 hS1 hq => by
    obtain ⟨r, rfl, h⟩ := vI_of hq
    exact kk r M1 H1 locs1 hM1 hS1 h)
theorem r_callFr (X : Cx K p l s m args c cc nL own) (hM : mh K M H) (hS : va_S (mFA K) s.heap H locs) {F : (Nat → Mem → Prop) → Mem → Prop} (hct : mPr K l y cc' maxL' ret' rm (.ref b :: As) F) {k : Nat → Mem → Prop} (hP : mRecv b 0 (F k) M) {x : MethodName} (hml : mMF own index x y cc' maxL' ret' n) (hst : st0 = As.reverse ++ .ref b :: rest) (hn : As.length = n) (hsize : ls.size = nL) (hW : (rest.map fun v => v.category).sum ≤ 8) (hrm : mRm rm R maxL' cells slots) {count : Nat} (hdg : decode cc pc = .ok (.invokeinterface index count, 5))
    (kk : ∀ (r : Nat) (M1 : Mem) (H1 : Heap) (locs1 : List Loc), mh K M1 H1 → va_S (mFA K) s.heap H1 locs1 → k r M1 → W p l e R s m args below meth c H1 locs1 (cells + rm.cells) (slots + rm.slots) Qf (F0 m (pc + 5) ls (.ref r :: rest))) : W p l e R s m args below meth c H locs cells slots Qf (F0 m pc ls st0) := by
  have hcl := (X.2.1.2.1.1 0 _ rfl).2
  obtain ⟨fs, hb⟩ := hP.1
  exact r_call5 (va_runF hcl X.1 (hct M (vR k) hP.2) (hml.cif X hrm) ⟨mPre_blind, va_recv X.2.1.2.1 (va_P1 (hM b _ hb).2) (ci := 0) (q0 := 0) rfl rfl, fun U hU hW9 => mPre_at X.2.1 hS hM hU hW9⟩ rfl hn hsize hst (lv_room hW) hdg hrm.2) hS (fun v M1 H1 locs1 hM1 hS1 hq => by
    obtain ⟨r, rfl, h⟩ := vR_of hq
    exact kk r M1 H1 locs1 hM1 hS1 h)
theorem r_cast (X : Cx K p l s m args c cc nL own) (hM : mh K M H) {k : Mem → Prop} (hP : mRecv b ci k M) (hc : vwCl[ci]? = some (C, T, N)) (hlk : Cond.classLink own index C ∈ mLA) (hdg : decode cc pc = .ok (.checkcast index, 3))
    (kk : k M → W p l e R s m args below meth c H locs cells slots Qf (F0 m (pc + 3) ls (.ref b :: rest))) : W p l e R s m args below meth c H locs cells slots Qf (F0 m pc ls (.ref b :: rest)) := by
  obtain ⟨⟨fs, hb⟩, hk⟩ := hP
  obtain ⟨⟨hx, hb9, hml, hown, hts⟩, hG, -⟩ := X
  exact va_castS hx hb9 hown (hts _ hlk) (hG.2.1.1 ci _ hc).2 (va_recv hG.2.1 (va_P1 (hM b _ hb).2) (ci := ci) (q0 := 0) hc rfl) hdg (kk hk)
theorem mIf_t {c9 : Prop} [Decidable c9] {A B : Mem → Prop} (h : mIf c9 A B M) (hc : c9) : A M := by
  unfold mIf at h
  rw [if_pos hc] at h
  exact h
theorem mIf_f {c9 : Prop} [Decidable c9] {A B : Mem → Prop} (h : mIf c9 A B M) (hc : ¬ c9) : B M := by
  unfold mIf at h
  rw [if_neg hc] at h
  exact h
theorem r_stO (X : Cx K p l s m args c cc nL own) (hM : mh K M H) (hS : va_S (mFA K) s.heap H locs) {i : Int32} {v : Nat} {k : Mem → Prop} (hP : mStO K a i v k M) (hdg : decode cc pc = .ok (.aastore, 1))
    (kk : ∀ (M1 : Mem) (H1 : Heap) (locs1 : List Loc), mh K M1 H1 → va_S (mFA K) s.heap H1 locs1 → k M1 → W p l e R s m args below meth c H1 locs1 cells slots Qf (F0 m (pc + 1) ls rest)) : W p l e R s m args below meth c H locs cells slots Qf (F0 m pc ls (.ref v :: .int i :: .ref a :: rest)) := by
  obtain ⟨ci, hci, h⟩ := hP
  rcases hci with rfl | rfl | rfl
  · exact r_stqO (C := RX6) (T := TX6) (N := 13) rfl (List.mem_of_getElem? (i := 3) rfl) X hM hS h hdg kk
  · exact r_stqO (C := RX7) (T := TX7) (N := 12) rfl (List.mem_of_getElem? (i := 4) rfl) X hM hS h hdg kk
  · exact r_stqO (C := RX8) (T := TX8) (N := 5) rfl (List.mem_of_getElem? (i := 5) rfl) X hM hS h hdg kk
theorem r_gets (X : Cx K p l s m args c cc nL own) (hS : va_S (mFA K) s.heap H locs) {C n9 d : String} {v : Value} (hZ : va_Z C n9 d v (mFA K) s s.heap) (hlk : Cond.fieldLink own index C n9 d ∈ mLA) (hdg : decode cc pc = .ok (.getstatic index, 3))
    (kk : W p l e R s m args below meth c H locs cells slots Qf (F0 m (pc + 3) ls (v :: rest))) : W p l e R s m args below meth c H locs cells slots Qf (F0 m pc ls rest) := by
  obtain ⟨⟨hx, hb9, hml, hown, hts⟩, hG, -⟩ := X
  exact va_gets hx hb9 hZ hS hown (hts _ hlk) (fun x h => h) hdg kk
theorem r_ldcf (X : Cx K p l s m args c cc nL own) {v : UInt32} (hlk : Cond.constantFloat own index v ∈ mLA) (hdg : decode cc pc = .ok (.ldc index, 2))
    (kk : W p l e R s m args below meth c H locs cells slots Qf (F0 m (pc + 2) ls (.float v :: rest))) : W p l e R s m args below meth c H locs cells slots Qf (F0 m pc ls rest) := lv_ldcf X.1.1 X.1.2.1 X.1.2.2.2.1 (X.1.2.2.2.2 _ hlk) hdg kk
theorem r_ldcfw (X : Cx K p l s m args c cc nL own) {v : UInt32} (hlk : Cond.constantFloat own index v ∈ mLA) (hdg : decode cc pc = .ok (.ldc_w index, 3))
    (kk : W p l e R s m args below meth c H locs cells slots Qf (F0 m (pc + 3) ls (.float v :: rest))) : W p l e R s m args below meth c H locs cells slots Qf (F0 m pc ls rest) := lv_ldcwf X.1.1 X.1.2.1 X.1.2.2.2.1 (X.1.2.2.2.2 _ hlk) hdg kk
theorem r_ldcd (X : Cx K p l s m args c cc nL own) {v : UInt64} (hlk : Cond.constantDouble own index v ∈ mLA) (hdg : decode cc pc = .ok (.ldc2_w index, 3))
    (kk : W p l e R s m args below meth c H locs cells slots Qf (F0 m (pc + 3) ls (.double v :: rest))) : W p l e R s m args below meth c H locs cells slots Qf (F0 m pc ls rest) := lv_ldc2d X.1.1 X.1.2.1 X.1.2.2.2.1 (X.1.2.2.2.2 _ hlk) hdg kk
theorem r_ldcl (X : Cx K p l s m args c cc nL own) {v : Int64} (hlk : Cond.constantLong own index v ∈ mLA) (hdg : decode cc pc = .ok (.ldc2_w index, 3))
    (kk : W p l e R s m args below meth c H locs cells slots Qf (F0 m (pc + 3) ls (.long v :: rest))) : W p l e R s m args below meth c H locs cells slots Qf (F0 m pc ls rest) := lv_ldc2 X.1.1 X.1.2.1 X.1.2.2.2.1 (X.1.2.2.2.2 _ hlk) hdg kk
theorem r_objInit (X : Cx K p l s m args c cc nL own) (hlk : Cond.methodLink own index Lib.objectInit ∈ mLA) (hi : Cond.instanceMethod Lib.objectInit ∈ mLA) (hcd : Cond.code Lib.objectInit ⟨#[0xb1]⟩ 1 none ∈ mLA) (hsize : ls.size = nL) (hfr : 1 ≤ R.frames) (hlo : (rest.map fun v => v.category).sum + 12 ≤ R.locals) (hdg : decode cc pc = .ok (.invokespecial index, 3))
    (kk : W p l e R s m args below meth c H locs cells slots Qf (F0 m (pc + 3) ls rest)) : W p l e R s m args below meth c H locs cells slots Qf (F0 m pc ls (.ref b :: rest)) := by
  obtain ⟨⟨hx, hb9, hml, hown, hts⟩, hG, -⟩ := X
  exact W.objInit (g := F0 m pc ls (.ref b :: rest)) hx hb9 hown (hts _ hlk) (hts _ hi) (hts _ hcd) rfl (hsize.trans hml.symm) rfl hdg hfr (by show 2 * 0 + _ + 12 ≤ _; omega) kk
def mD2L : MethodName := ⟨"java/lang/Double", "doubleToRawLongBits", "(D)J"⟩
def mL2D : MethodName := ⟨"java/lang/Double", "longBitsToDouble", "(J)D"⟩
theorem r_d2l (X : Cx K p l s m args c cc nL own) (hlk : Cond.methodLink own index mD2L ∈ mLA) (hna : Cond.native mD2L ∈ mLA) (hsa : Cond.static mD2L ∈ mLA) (hin : Cond.initialized "java/lang/Double" ∈ mLA) (hsize : ls.size = nL) (hfr : 1 ≤ R.frames) {x : UInt64} (hlo : (rest.map fun v => v.category).sum + 15 ≤ R.locals) (hdg : decode cc pc = .ok (.invokestatic index, 3))
    (kk : W p l e R s m args below meth c H locs cells slots Qf (F0 m (pc + 3) ls (.long x.toInt64 :: rest))) : W p l e R s m args below meth c H locs cells slots Qf (F0 m pc ls (.double x :: rest)) := by
  obtain ⟨⟨hx, hb9, hml, hown, hts⟩, hG, -⟩ := X
  exact vn_d2l hx hb9 (hml.trans hsize.symm) hown (hts _ hlk) (hts _ hna) (hts _ hsa) (hts _ hin) hfr hlo hdg kk
theorem r_l2d (X : Cx K p l s m args c cc nL own) (hlk : Cond.methodLink own index mL2D ∈ mLA) (hna : Cond.native mL2D ∈ mLA) (hsa : Cond.static mL2D ∈ mLA) (hin : Cond.initialized "java/lang/Double" ∈ mLA) (hsize : ls.size = nL) (hfr : 1 ≤ R.frames) {x : Int64} (hv : vn_snl2d x = false) (hlo : (rest.map fun v => v.category).sum + 15 ≤ R.locals) (hdg : decode cc pc = .ok (.invokestatic index, 3))
    (kk : W p l e R s m args below meth c H locs cells slots Qf (F0 m (pc + 3) ls (.double x.toUInt64 :: rest))) : W p l e R s m args below meth c H locs cells slots Qf (F0 m pc ls (.long x :: rest)) := by
  obtain ⟨⟨hx, hb9, hml, hown, hts⟩, hG, -⟩ := X
  exact vn_l2d hx hb9 (hml.trans hsize.symm) hown (hts _ hlk) (hts _ hna) (hts _ hsa) (hts _ hin) hv hfr hlo hdg kk

theorem r_absD (X : Cx K p l s m args c cc nL own) (hlk : Cond.methodLink own index Jvm.Free.Fl.Abs.absDN ∈ mLA) (hcd : Cond.code Jvm.Free.Fl.Abs.absDN Jvm.Free.Fl.Abs.absDCode 2 (some .double) ∈ mLA) (hsa : Cond.static Jvm.Free.Fl.Abs.absDN ∈ mLA) (hin : Cond.initialized "java/lang/Math" ∈ mLA) (hsize : ls.size = nL) (hR : 1 ≤ R.frames ∧ 21 ≤ R.locals ∧ cells ≤ R.cells ∧ slots ≤ R.slots) {x : UInt64} (hx9 : vf_n64 x) (hW : (rest.map fun v => v.category).sum ≤ 8) (hdg : decode cc pc = .ok (.invokestatic index, 3))
    (kk : W p l e R s m args below meth c H locs cells slots Qf (F0 m (pc + 3) ls (.double (x &&& 0x7fffffffffffffff) :: rest))) : W p l e R s m args below meth c H locs cells slots Qf (F0 m pc ls (.double x :: rest)) := by
  obtain ⟨⟨hx, hb, hml, ho, hts⟩, hG, -⟩ := X
  have hK := Jvm.Free.Fl.Abs.absD_pays (l := l) (R := R) (p := p) (e := e) (below := below) (s := s) (sargs := args) (len := 3) (W := 8) x (hts _ hcd) hR.1 hR.2.1
  intro T hT X'
  obtain ⟨v, vm₁, B, hW₁, X9, ⟨hv, hB⟩, st⟩ := callS X' hx (bytes := Jvm.Free.Fl.Abs.absDCode) (maxL := 2) (ret := some .double) ho (hts _ hlk) (hts _ hsa) (hts _ hin) (hts _ hcd) (by decide) hK (g := F0 m pc ls (.double x :: rest)) rfl (hsize.trans hml.symm) (argsL := [.double x]) (rest := rest) (fun sig h => by rw [show parseMethodDescriptor Jvm.Free.Fl.Abs.absDN.desc = some { parameters := [.double], returnType := some .double } by decide +kernel] at h; cases h; rfl) rfl (lv_room hW) (by rw [hb]; exact hdg) (fun vm₁ hW₁ => ⟨hR.2.2.1, hR.2.2.2, rfl, hx9⟩)
  subst hv
  subst hB
  obtain ⟨t, a1, b1⟩ := kk (T.setVm vm₁) hT X9
  exact ⟨t, st t a1, b1⟩
theorem r_maxD (X : Cx K p l s m args c cc nL own) (hlk : Cond.methodLink own index Jvm.Free.Fl.Abs.maxDN ∈ mLA) (hcd : Cond.code Jvm.Free.Fl.Abs.maxDN Jvm.Free.Fl.Abs.maxDCode 4 (some .double) ∈ mLA) (hsa : Cond.static Jvm.Free.Fl.Abs.maxDN ∈ mLA) (hin : Cond.initialized "java/lang/Math" ∈ mLA) (hsize : ls.size = nL) (hR : 1 ≤ R.frames ∧ 23 ≤ R.locals ∧ cells ≤ R.cells ∧ slots ≤ R.slots) {x y : UInt64} (hx9 : vf_n64 x ∧ vf_n64 y) (hW : (rest.map fun v => v.category).sum ≤ 8) (hdg : decode cc pc = .ok (.invokestatic index, 3))
    (kk : W p l e R s m args below meth c H locs cells slots Qf (F0 m (pc + 3) ls (.double (Native.java_lang_Math.nans.pick64 true x y) :: rest))) : W p l e R s m args below meth c H locs cells slots Qf (F0 m pc ls (.double y :: .double x :: rest)) := by
  obtain ⟨⟨hx, hb, hml, ho, hts⟩, hG, -⟩ := X
  have hK := Jvm.Free.Fl.Abs.maxD_pays (l := l) (R := R) (p := p) (e := e) (below := below) (s := s) (sargs := args) (len := 3) (W := 8) x y (hts _ hcd) hR.1 hR.2.1
  intro T hT X'
  obtain ⟨v, vm₁, B, hW₁, X9, ⟨hv, hB⟩, st⟩ := callS X' hx (bytes := Jvm.Free.Fl.Abs.maxDCode) (maxL := 4) (ret := some .double) ho (hts _ hlk) (hts _ hsa) (hts _ hin) (hts _ hcd) (by decide) hK (g := F0 m pc ls (.double y :: .double x :: rest)) rfl (hsize.trans hml.symm) (argsL := [.double x, .double y]) (rest := rest) (fun sig h => by rw [show parseMethodDescriptor Jvm.Free.Fl.Abs.maxDN.desc = some { parameters := [.double, .double], returnType := some .double } by decide +kernel] at h; cases h; rfl) rfl (lv_room hW) (by rw [hb]; exact hdg) (fun vm₁ hW₁ => ⟨hR.2.2.1, hR.2.2.2, rfl, hx9.1, hx9.2⟩)
  subst hv
  subst hB
  obtain ⟨t, a1, b1⟩ := kk (T.setVm vm₁) hT X9
  exact ⟨t, st t a1, b1⟩
theorem r_minD (X : Cx K p l s m args c cc nL own) (hlk : Cond.methodLink own index Jvm.Free.Fl.Abs.minDN ∈ mLA) (hcd : Cond.code Jvm.Free.Fl.Abs.minDN Jvm.Free.Fl.Abs.minDCode 4 (some .double) ∈ mLA) (hsa : Cond.static Jvm.Free.Fl.Abs.minDN ∈ mLA) (hin : Cond.initialized "java/lang/Math" ∈ mLA) (hsize : ls.size = nL) (hR : 1 ≤ R.frames ∧ 23 ≤ R.locals ∧ cells ≤ R.cells ∧ slots ≤ R.slots) {x y : UInt64} (hx9 : vf_n64 x ∧ vf_n64 y) (hW : (rest.map fun v => v.category).sum ≤ 8) (hdg : decode cc pc = .ok (.invokestatic index, 3))
    (kk : W p l e R s m args below meth c H locs cells slots Qf (F0 m (pc + 3) ls (.double (Native.java_lang_Math.nans.pick64 false x y) :: rest))) : W p l e R s m args below meth c H locs cells slots Qf (F0 m pc ls (.double y :: .double x :: rest)) := by
  obtain ⟨⟨hx, hb, hml, ho, hts⟩, hG, -⟩ := X
  have hK := Jvm.Free.Fl.Abs.minD_pays (l := l) (R := R) (p := p) (e := e) (below := below) (s := s) (sargs := args) (len := 3) (W := 8) x y (hts _ hcd) hR.1 hR.2.1
  intro T hT X'
  obtain ⟨v, vm₁, B, hW₁, X9, ⟨hv, hB⟩, st⟩ := callS X' hx (bytes := Jvm.Free.Fl.Abs.minDCode) (maxL := 4) (ret := some .double) ho (hts _ hlk) (hts _ hsa) (hts _ hin) (hts _ hcd) (by decide) hK (g := F0 m pc ls (.double y :: .double x :: rest)) rfl (hsize.trans hml.symm) (argsL := [.double x, .double y]) (rest := rest) (fun sig h => by rw [show parseMethodDescriptor Jvm.Free.Fl.Abs.minDN.desc = some { parameters := [.double, .double], returnType := some .double } by decide +kernel] at h; cases h; rfl) rfl (lv_room hW) (by rw [hb]; exact hdg) (fun vm₁ hW₁ => ⟨hR.2.2.1, hR.2.2.2, rfl, hx9.1, hx9.2⟩)
  subst hv
  subst hB
  obtain ⟨t, a1, b1⟩ := kk (T.setVm vm₁) hT X9
  exact ⟨t, st t a1, b1⟩
theorem e_iret {mc ms : Nat} (X : Cx K p l s m args c cc nL own) (hM : mh K M H) (hS : va_S (mFA K) s.heap H locs) {Q : Option Value → Mem → Prop} {x : Int32} (hP : Q (some (.int x)) M) (hr : meth.sig.returnType = some .int) (hlocks : meth.locks = false) (hc : cells ≤ mc) (hs : slots ≤ ms) (hdg : decode cc pc = .ok (.ireturn, 1)) : W p l e R s m args below meth c H locs cells slots (MQ below (mQ K Q) args s mc ms (mFA K)) (F0 m pc ls [.int x]) :=
  W.widen hc hs (W.iret X.1.1 X.1.2.1 hr (fun t ht hW9 => ⟨_, M, rfl, hP, by rw [ht]; exact hM, hS.F ht⟩) hS.2.2 hdg hlocks)
theorem e_lret {mc ms : Nat} (X : Cx K p l s m args c cc nL own) (hM : mh K M H) (hS : va_S (mFA K) s.heap H locs) {Q : Option Value → Mem → Prop} {x : Int64} (hP : Q (some (.long x)) M) (hr : meth.sig.returnType = some .long) (hlocks : meth.locks = false) (hc : cells ≤ mc) (hs : slots ≤ ms) (hdg : decode cc pc = .ok (.lreturn, 1)) : W p l e R s m args below meth c H locs cells slots (MQ below (mQ K Q) args s mc ms (mFA K)) (F0 m pc ls [.long x]) :=
  W.widen hc hs (W.lret X.1.1 X.1.2.1 hr (fun t ht hW9 => ⟨_, M, rfl, hP, by rw [ht]; exact hM, hS.F ht⟩) hS.2.2 hdg hlocks)
theorem e_fret {mc ms : Nat} (X : Cx K p l s m args c cc nL own) (hM : mh K M H) (hS : va_S (mFA K) s.heap H locs) {Q : Option Value → Mem → Prop} {x : UInt32} (hP : Q (some (.float x)) M) (hr : meth.sig.returnType = some .float) (hlocks : meth.locks = false) (hc : cells ≤ mc) (hs : slots ≤ ms) (hdg : decode cc pc = .ok (.freturn, 1)) : W p l e R s m args below meth c H locs cells slots (MQ below (mQ K Q) args s mc ms (mFA K)) (F0 m pc ls [.float x]) :=
  W.widen hc hs (W.fret X.1.1 X.1.2.1 hr (fun t ht hW9 => ⟨_, M, rfl, hP, by rw [ht]; exact hM, hS.F ht⟩) hS.2.2 hdg hlocks)
theorem e_dret {mc ms : Nat} (X : Cx K p l s m args c cc nL own) (hM : mh K M H) (hS : va_S (mFA K) s.heap H locs) {Q : Option Value → Mem → Prop} {x : UInt64} (hP : Q (some (.double x)) M) (hr : meth.sig.returnType = some .double) (hlocks : meth.locks = false) (hc : cells ≤ mc) (hs : slots ≤ ms) (hdg : decode cc pc = .ok (.dreturn, 1)) : W p l e R s m args below meth c H locs cells slots (MQ below (mQ K Q) args s mc ms (mFA K)) (F0 m pc ls [.double x]) :=
  W.widen hc hs (W.dret X.1.1 X.1.2.1 hr (fun t ht hW9 => ⟨_, M, rfl, hP, by rw [ht]; exact hM, hS.F ht⟩) hS.2.2 hdg hlocks)
theorem e_zret {mc ms : Nat} (X : Cx K p l s m args c cc nL own) (hM : mh K M H) (hS : va_S (mFA K) s.heap H locs) {Q : Option Value → Mem → Prop} {x : Int32} (hz : x = 0 ∨ x = 1) (hP : Q (some (.int x)) M) (hr : meth.sig.returnType = some .boolean) (hlocks : meth.locks = false) (hc : cells ≤ mc) (hs : slots ≤ ms) (hdg : decode cc pc = .ok (.ireturn, 1)) : W p l e R s m args below meth c H locs cells slots (MQ below (mQ K Q) args s mc ms (mFA K)) (F0 m pc ls [.int x]) :=
  W.widen hc hs (W.zret X.1.1 X.1.2.1 hr (narrow_z hz).1 (fun t ht hW9 => ⟨_, M, rfl, hP, by rw [ht]; exact hM, hS.F ht⟩) hS.2.2 hdg hlocks)
theorem e_aret {mc ms : Nat} (X : Cx K p l s m args c cc nL own) (hM : mh K M H) (hS : va_S (mFA K) s.heap H locs) {Q : Option Value → Mem → Prop} {x : Nat} (hP : Q (some (.ref x)) M) {rt : FieldType} (hr : meth.sig.returnType = some rt) (hrt : (∃ n, rt = .object n) ∨ ∃ t, rt = .array t) (hlocks : meth.locks = false) (hc : cells ≤ mc) (hs : slots ≤ ms) (hdg : decode cc pc = .ok (.areturn, 1)) : W p l e R s m args below meth c H locs cells slots (MQ below (mQ K Q) args s mc ms (mFA K)) (F0 m pc ls [.ref x]) :=
  W.widen hc hs (W.aret X.1.1 X.1.2.1 hr hrt (Or.inr ⟨x, rfl⟩) (fun t ht hW9 => ⟨_, M, rfl, hP, by rw [ht]; exact hM, hS.F ht⟩) hS.2.2 hdg hlocks)
theorem e_vret {mc ms : Nat} (X : Cx K p l s m args c cc nL own) (hM : mh K M H) (hS : va_S (mFA K) s.heap H locs) {Q : Option Value → Mem → Prop} (hP : Q none M) (hr : meth.sig.returnType = none) (hlocks : meth.locks = false) (hc : cells ≤ mc) (hs : slots ≤ ms) (hdg : decode cc pc = .ok (.return_, 1)) : W p l e R s m args below meth c H locs cells slots (MQ below (mQ K Q) args s mc ms (mFA K)) (F0 m pc ls []) :=
  W.widen hc hs (W.vret X.1.1 X.1.2.1 hr (fun t ht hW9 => ⟨_, M, rfl, hP, by rw [ht]; exact hM, hS.F ht⟩) hS.2.2 hdg hlocks)
/-- not caught here -/
theorem x_out {QX : String → Mem → Prop} {Qc : Array Value → State → Outcome → State → Prop} {mc ms : Nat} (hno : ∀ x ∈ c.exceptionTable.toList, False) (hlocks : meth.locks = false) (hc : cells = 0) (hs : slots = 0) :
    ∀ (E : String) (ce : Cell) (q9 : Addr) (M1 : Mem) (H1 : Heap) (locs1 : List Loc), mh K M1 H1 → va_S (mFA K) s.heap H1 locs1 → QX E M1 → H1[q9]? = some ce → ce.vm = .none → s.vm.findClass E = some ce.cls → vx_W p l e R s m args below meth c H1 locs1 (cells + 1) (slots + 6) (vy_MQ below Qc (mX K QX) args s mc ms 1 6 (mFA K)) (F0 m pc ls rest) q9 := by
  subst hc
  subst hs
  intro E ce q9 M1 H1 locs1 hM1 hS1 hq hce hcv hcl
  exact vy_out (fun x hx => (hno x hx).elim) hlocks hce hcv hcl (fun t ht hA => ⟨M1, hq, by rw [ht]; exact hM1, hS1.F ht⟩) hS1.2.2 (Nat.le_refl _) (Nat.le_refl _)
/-- it never throws -/
theorem x_never {QX : String → Mem → Prop} (h : ∀ E M1, ¬ QX E M1) :
    ∀ (E : String) (ce : Cell) (q9 : Addr) (M1 : Mem) (H1 : Heap) (locs1 : List Loc), mh K M1 H1 → va_S (mFA K) s.heap H1 locs1 → QX E M1 → H1[q9]? = some ce → ce.vm = .none → s.vm.findClass E = some ce.cls → vx_W p l e R s m args below meth c H1 locs1 (cells + 1) (slots + 6) Qf (F0 m pc ls rest) q9 :=
  fun E ce q9 M1 H1 locs1 hM1 hS1 hq => (h E M1 hq).elim
abbrev mNames : List String := ["java/lang/RuntimeException", "java/lang/Exception"]
/-- a throw of a new exception of class cls with a text, by own: its places of the pool -/
def mTh (own cls text : String) (ik is ic : Nat) : Prop := Cond.classLink own ik cls ∈ mLA ∧ Cond.initialized cls ∈ mLA ∧ (own, is, text) ∈ mStr ∧ (∀ w ∈ (vx_atS own ic cls mNames).filter goodWord, w ∈ lw_tbl) ∧ (cls, cls) ∈ mNwC ∧ (∀ w ∈ (vx_atS own ic cls mNames).filter (fun w => !goodWord w), w ∈ [Cond.castable cls cls, Cond.declares ⟨"java/lang/RuntimeException", "<init>", "(Ljava/lang/String;)V"⟩, Cond.declares ⟨"java/lang/Exception", "<init>", "(Ljava/lang/String;)V"⟩, Cond.declares ⟨"java/lang/Throwable", "<init>", "(Ljava/lang/String;)V"⟩]) ∧ Bundle.fit cls = true ∧ (∀ w ∈ Cond.classLink own ik cls :: Cond.initialized cls :: vx_atS own ic cls mNames, vx_ot w = true)
theorem mTh.at {cls text : String} {ik is ic : Nat} (h : mTh own cls text ik is ic) (X : Cx K p l s m args c cc nL own) : ∀ w ∈ vx_atS own ic cls mNames, w.before args s = true := by
  have hts := X.1.2.2.2.2
  obtain ⟨h3, h4⟩ : (∀ q ∈ mNwC, va_Nw (.castable q.1 q.2) s) ∧ ∀ q ∈ mNwD, va_Nw (.declares q) s := ⟨X.2.1.2.2.1.2.2.1, X.2.1.2.2.1.2.2.2⟩
  exact vx_hat (fun w hw => hts w (mLA_in (h.2.2.2.1 w hw) (List.mem_filter.mp hw).2)) h.2.2.2.2.2.1 (vx_c (va_Nw.use rfl (h3 (cls, cls) h.2.2.2.2.1)) (vx_c (va_Nw.use rfl (h4 _ (List.mem_of_getElem? (i := 0) rfl))) (vx_c (va_Nw.use rfl (h4 _ (List.mem_of_getElem? (i := 1) rfl))) (vx_c (va_Nw.use rfl (h4 _ (List.mem_of_getElem? (i := 2) rfl))) vx_n))))
theorem mNames_fit : ∀ n ∈ mNames, Bundle.fit n = true := by decide +kernel
theorem e_throw {cls text : String} {ik is ic mc ms : Nat} {Qc : Array Value → State → Outcome → State → Prop} {QX : String → Mem → Prop} (X : Cx K p l s m args c cc nL own) (hM : mh K M H) (hS : va_S (mFA K) s.heap H locs) (hP : QX cls M) (hth : mTh own cls text ik is ic) (hno : ∀ x ∈ c.exceptionTable.toList, False) (hlocks : meth.locks = false) (hsize : ls.size = nL) (hc : cells = 0) (hs : slots = 0) (hR : 5 < R.frames ∧ (rest.map fun v => v.category).sum + 82 ≤ R.locals ∧ 1 ≤ R.cells ∧ 6 ≤ R.slots)
    (d0 : decode cc pc = .ok (.new ik, 3)) (d3 : decode cc (pc + 3) = .ok (.dup, 1)) (d4 : decode cc (pc + 4) = .ok (.ldc is, 2)) (d6 : decode cc (pc + 6) = .ok (.invokespecial ic, 3)) (d9 : decode cc (pc + 9) = .ok (.athrow, 1)) :
    W p l e R s m args below meth c H locs cells slots (vy_MQ below Qc (mX K QX) args s mc ms 1 6 (mFA K)) (F0 m pc ls rest) := by
  subst hc
  subst hs
  have hat := hth.at X
  obtain ⟨⟨hx, hb, hml, hown, hts⟩, hG, hl⟩ := X
  obtain ⟨sa, hsa⟩ := hG.2.2.2.1.2.2.2.1 _ hth.2.2.1
  refine vy_thrown (vx_throwS (A := mFA K) (names := mNames) hx hb hl hown hth.2.2.2.2.2.2.1 mNames_fit (hts _ hth.1) (hts _ hth.2.1) hsa hat hth.2.2.2.2.2.2.2 hG.2.2.2.2.1.1 hG.2.2.2.2.1.2 hS (hsize.trans hml.symm) d0 d3 d4 d6 d9 (fun x hx => (hno x hx).elim) hR.1 hR.2.1 hR.2.2.1 hR.2.2.2 hlocks (fun t hA hz ho => ⟨M, hP, hM.kept ho, ?_⟩) hS.2.2 (Nat.le_refl _) (Nat.le_refl _))
  exact ⟨Nat.le_trans hS.1 hz, fun q h1 h2 => (ho q (Nat.lt_of_lt_of_le h1 hS.1)).trans (hS.2.1 q h1 h2)⟩
theorem e_throwW {cls text : String} {ik is ic mc ms : Nat} {Qc : Array Value → State → Outcome → State → Prop} {QX : String → Mem → Prop} (X : Cx K p l s m args c cc nL own) (hM : mh K M H) (hS : va_S (mFA K) s.heap H locs) (hP : QX cls M) (hth : mTh own cls text ik is ic) (hno : ∀ x ∈ c.exceptionTable.toList, False) (hlocks : meth.locks = false) (hsize : ls.size = nL) (hc : cells = 0) (hs : slots = 0) (hR : 5 < R.frames ∧ (rest.map fun v => v.category).sum + 82 ≤ R.locals ∧ 1 ≤ R.cells ∧ 6 ≤ R.slots)
    (d0 : decode cc pc = .ok (.new ik, 3)) (d3 : decode cc (pc + 3) = .ok (.dup, 1)) (d4 : decode cc (pc + 4) = .ok (.ldc_w is, 3)) (d7 : decode cc (pc + 7) = .ok (.invokespecial ic, 3)) (d10 : decode cc (pc + 10) = .ok (.athrow, 1)) :
    W p l e R s m args below meth c H locs cells slots (vy_MQ below Qc (mX K QX) args s mc ms 1 6 (mFA K)) (F0 m pc ls rest) := by
  subst hc
  subst hs
  have hat := hth.at X
  obtain ⟨⟨hx, hb, hml, hown, hts⟩, hG, hl⟩ := X
  obtain ⟨sa, hsa⟩ := hG.2.2.2.1.2.2.2.1 _ hth.2.2.1
  refine vy_thrown (vx_throwSW (A := mFA K) (names := mNames) hx hb hl hown hth.2.2.2.2.2.2.1 mNames_fit (hts _ hth.1) (hts _ hth.2.1) hsa hat hth.2.2.2.2.2.2.2 hG.2.2.2.2.1.1 hG.2.2.2.2.1.2 hS (hsize.trans hml.symm) d0 d3 d4 d7 d10 (fun x hx => (hno x hx).elim) hR.1 hR.2.1 hR.2.2.1 hR.2.2.2 hlocks (fun t hA hz ho => ⟨M, hP, hM.kept ho, ?_⟩) hS.2.2 (Nat.le_refl _) (Nat.le_refl _))
  exact ⟨Nat.le_trans hS.1 hz, fun q h1 h2 => (ho q (Nat.lt_of_lt_of_le h1 hS.1)).trans (hS.2.1 q h1 h2)⟩
end MROWS3
