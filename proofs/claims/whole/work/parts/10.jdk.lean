/-! ===== shadows and walks, laid by program ===== -/
def f_J9_abs_0f7a4_b10 (K : Cfg) (k : Int32 → Mem → Prop) (t0 : Int32) : Mem → Prop :=
 k t0
def f_J9_abs_0f7a4 (K : Cfg) (a0 : Int32) (k : Int32 → Mem → Prop) : Mem → Prop :=
 mIf (0 ≤ a0)
 (f_J9_abs_0f7a4_b10 K k a0)
 (f_J9_abs_0f7a4_b10 K k (-a0))
abbrev rm_J9_abs_0f7a4 : Room := { frames := 0, cells := 0, slots := 0, locals := 0 }
set_option maxHeartbeats 4000000 in
set_option maxRecDepth 100000 in
theorem ct_J9_abs_0f7a4 {K : Cfg} {l : Launch} (hst : l.stackTraces = false) (a0 : Int32) : mPi K l yJ9_abs_0f7a4 cJ9_abs_0f7a4 1 (some .int) rm_J9_abs_0f7a4 [.int a0] (f_J9_abs_0f7a4 K a0) := by
  refine mPi.of hst (by decide +kernel) (Nat.le_of_ble_eq_true rfl) ?_
  intro M k Q hk hP p e s m below meth c X hr hlocks hname hM ls hl
  have hx := X.1.1
  have hb := X.1.2.1
  have X : Cx K p l s m ([.int a0] : List Value).toArray c cJ9_abs_0f7a4 1 RJ9 := X
  have hS : va_S (mFA K) s.heap s.heap [] := va_S.rf
  have hl : lv_has ls 1 [(0, .int a0)] := hl
  have hb10 : ∀ (t0 : Int32) (M : Mem) (H : Heap) (locs : List Loc) (ls : Array Slot), mh K M H → va_S (mFA K) s.heap H locs → lv_has ls 1 [] → f_J9_abs_0f7a4_b10 K k t0 M → W p l e rm_J9_abs_0f7a4 s m ([.int a0] : List Value).toArray below meth c H locs 0 0 (MQ below (mQ K Q) ([.int a0] : List Value).toArray s rm_J9_abs_0f7a4.cells rm_J9_abs_0f7a4.slots (mFA K)) (F0 m 10 ls [.int t0]) := by
    intro t0 M H locs ls hM hS hl hP
    unfold f_J9_abs_0f7a4_b10 at hP
    exact e_iret X hM hS (hk _ _ hP) hr hlocks (by decide) (by decide) dJ9_abs_0f7a4_10
  unfold f_J9_abs_0f7a4 at hP
  refine lv_iload_n hx hb dJ9_abs_0f7a4_0 rfl (lv_at hl 0 rfl) ?_
  refine lv_if_ge (tgt := 9) hx hb dJ9_abs_0f7a4_1 (by decide) (fun hc => ?_) (fun hc => ?_)
  · have hP := mIf_t hP hc
    refine lv_iload_n hx hb dJ9_abs_0f7a4_9 rfl (lv_at hl 0 rfl) ?_
    exact hb10 a0 _ _ _ _ hM hS (lv_sub hl [] rfl) hP
  · have hP := mIf_f hP hc
    refine lv_iload_n hx hb dJ9_abs_0f7a4_4 rfl (lv_at hl 0 rfl) ?_
    refine lv_ineg hx hb dJ9_abs_0f7a4_5 ?_
    refine lv_goto (tgt := 10) hx hb dJ9_abs_0f7a4_6 (by decide) ?_
    exact hb10 (-a0) _ _ _ _ hM hS (lv_sub hl [] rfl) hP
def f_J9_max_7cf53_b10 (K : Cfg) (k : Int32 → Mem → Prop) (t0 : Int32) : Mem → Prop :=
 k t0
def f_J9_max_7cf53 (K : Cfg) (a0 : Int32) (a1 : Int32) (k : Int32 → Mem → Prop) : Mem → Prop :=
 mIf (a0 < a1)
 (f_J9_max_7cf53_b10 K k a1)
 (f_J9_max_7cf53_b10 K k a0)
abbrev rm_J9_max_7cf53 : Room := { frames := 0, cells := 0, slots := 0, locals := 0 }
set_option maxHeartbeats 4000000 in
set_option maxRecDepth 100000 in
theorem ct_J9_max_7cf53 {K : Cfg} {l : Launch} (hst : l.stackTraces = false) (a0 : Int32) (a1 : Int32) : mPi K l yJ9_max_7cf53 cJ9_max_7cf53 2 (some .int) rm_J9_max_7cf53 [.int a0, .int a1] (f_J9_max_7cf53 K a0 a1) := by
  refine mPi.of hst (by decide +kernel) (Nat.le_of_ble_eq_true rfl) ?_
  intro M k Q hk hP p e s m below meth c X hr hlocks hname hM ls hl
  have hx := X.1.1
  have hb := X.1.2.1
  have X : Cx K p l s m ([.int a0, .int a1] : List Value).toArray c cJ9_max_7cf53 2 RJ9 := X
  have hS : va_S (mFA K) s.heap s.heap [] := va_S.rf
  have hl : lv_has ls 2 [(0, .int a0), (1, .int a1)] := hl
  have hb10 : ∀ (t0 : Int32) (M : Mem) (H : Heap) (locs : List Loc) (ls : Array Slot), mh K M H → va_S (mFA K) s.heap H locs → lv_has ls 2 [] → f_J9_max_7cf53_b10 K k t0 M → W p l e rm_J9_max_7cf53 s m ([.int a0, .int a1] : List Value).toArray below meth c H locs 0 0 (MQ below (mQ K Q) ([.int a0, .int a1] : List Value).toArray s rm_J9_max_7cf53.cells rm_J9_max_7cf53.slots (mFA K)) (F0 m 10 ls [.int t0]) := by
    intro t0 M H locs ls hM hS hl hP
    unfold f_J9_max_7cf53_b10 at hP
    exact e_iret X hM hS (hk _ _ hP) hr hlocks (by decide) (by decide) dJ9_max_7cf53_10
  unfold f_J9_max_7cf53 at hP
  refine lv_iload_n hx hb dJ9_max_7cf53_0 rfl (lv_at hl 0 rfl) ?_
  refine lv_iload_n hx hb dJ9_max_7cf53_1 rfl (lv_at hl 1 rfl) ?_
  refine lv_icmp_lt (tgt := 9) hx hb dJ9_max_7cf53_2 (by decide) (fun hc => ?_) (fun hc => ?_)
  · have hP := mIf_t hP hc
    refine lv_iload_n hx hb dJ9_max_7cf53_9 rfl (lv_at hl 1 rfl) ?_
    exact hb10 a1 _ _ _ _ hM hS (lv_sub hl [] rfl) hP
  · have hP := mIf_f hP hc
    refine lv_iload_n hx hb dJ9_max_7cf53_5 rfl (lv_at hl 0 rfl) ?_
    refine lv_goto (tgt := 10) hx hb dJ9_max_7cf53_6 (by decide) ?_
    exact hb10 a0 _ _ _ _ hM hS (lv_sub hl [] rfl) hP
def f_J3_checkIndex_8e157_b9 (K : Cfg) (k : Int32 → Mem → Prop) : Mem → Prop :=
 mNo
def f_J3_checkIndex_8e157 (K : Cfg) (a0 : Int32) (a1 : Int32) (k : Int32 → Mem → Prop) : Mem → Prop :=
 mIf (a0 < 0)
 (f_J3_checkIndex_8e157_b9 K k)
 (mIf (a0 < a1)
 (k a0)
 (f_J3_checkIndex_8e157_b9 K k))
abbrev rm_J3_checkIndex_8e157 : Room := { frames := 0, cells := 0, slots := 0, locals := 0 }
set_option maxHeartbeats 4000000 in
set_option maxRecDepth 100000 in
theorem ct_J3_checkIndex_8e157 {K : Cfg} {l : Launch} (hst : l.stackTraces = false) (a0 : Int32) (a1 : Int32) : mPi K l yJ3_checkIndex_8e157 cJ3_checkIndex_8e157 3 (some .int) rm_J3_checkIndex_8e157 [.int a0, .int a1, .null] (f_J3_checkIndex_8e157 K a0 a1) := by
  refine mPi.of hst (by decide +kernel) (Nat.le_of_ble_eq_true rfl) ?_
  intro M k Q hk hP p e s m below meth c X hr hlocks hname hM ls hl
  have hx := X.1.1
  have hb := X.1.2.1
  have X : Cx K p l s m ([.int a0, .int a1, .null] : List Value).toArray c cJ3_checkIndex_8e157 3 RJ3 := X
  have hS : va_S (mFA K) s.heap s.heap [] := va_S.rf
  have hl : lv_has ls 3 [(0, .int a0), (1, .int a1), (2, .null)] := hl
  have hb9 : ∀ (M : Mem) (H : Heap) (locs : List Loc) (ls : Array Slot), mh K M H → va_S (mFA K) s.heap H locs → lv_has ls 3 [] → f_J3_checkIndex_8e157_b9 K k M → W p l e rm_J3_checkIndex_8e157 s m ([.int a0, .int a1, .null] : List Value).toArray below meth c H locs 0 0 (MQ below (mQ K Q) ([.int a0, .int a1, .null] : List Value).toArray s rm_J3_checkIndex_8e157.cells rm_J3_checkIndex_8e157.slots (mFA K)) (F0 m 9 ls []) := by
    intro M H locs ls hM hS hl hP
    unfold f_J3_checkIndex_8e157_b9 at hP
    exact hP.elim
  unfold f_J3_checkIndex_8e157 at hP
  refine lv_iload_n hx hb dJ3_checkIndex_8e157_0 rfl (lv_at hl 0 rfl) ?_
  refine lv_if_lt (tgt := 9) hx hb dJ3_checkIndex_8e157_1 (by decide) (fun hc => ?_) (fun hc => ?_)
  · have hP := mIf_t hP hc
    exact hb9 _ _ _ _ hM hS (lv_sub hl [] rfl) hP
  · have hP := mIf_f hP hc
    refine lv_iload_n hx hb dJ3_checkIndex_8e157_4 rfl (lv_at hl 0 rfl) ?_
    refine lv_iload_n hx hb dJ3_checkIndex_8e157_5 rfl (lv_at hl 1 rfl) ?_
    refine lv_icmp_lt (tgt := 16) hx hb dJ3_checkIndex_8e157_6 (by decide) (fun hc => ?_) (fun hc => ?_)
    · have hP := mIf_t hP hc
      refine lv_iload_n hx hb dJ3_checkIndex_8e157_16 rfl (lv_at hl 0 rfl) ?_
      exact e_iret X hM hS (hk _ _ hP) hr hlocks (by decide) (by decide) dJ3_checkIndex_8e157_17
    · have hP := mIf_f hP hc
      exact hb9 _ _ _ _ hM hS (lv_sub hl [] rfl) hP
def f_J15_checkIndex_7cf53 (K : Cfg) (a0 : Int32) (a1 : Int32) (k : Int32 → Mem → Prop) : Mem → Prop :=
 f_J3_checkIndex_8e157 K a0 a1 (fun r1 =>
 k r1)
abbrev rm_J15_checkIndex_7cf53 : Room := { frames := 1, cells := 0, slots := 0, locals := 22 }
set_option maxHeartbeats 4000000 in
set_option maxRecDepth 100000 in
theorem ct_J15_checkIndex_7cf53 {K : Cfg} {l : Launch} (hst : l.stackTraces = false) (a0 : Int32) (a1 : Int32) : mPi K l yJ15_checkIndex_7cf53 cJ15_checkIndex_7cf53 2 (some .int) rm_J15_checkIndex_7cf53 [.int a0, .int a1] (f_J15_checkIndex_7cf53 K a0 a1) := by
  refine mPi.of hst (by decide +kernel) (Nat.le_of_ble_eq_true rfl) ?_
  intro M k Q hk hP p e s m below meth c X hr hlocks hname hM ls hl
  have hx := X.1.1
  have hb := X.1.2.1
  have X : Cx K p l s m ([.int a0, .int a1] : List Value).toArray c cJ15_checkIndex_7cf53 2 RJ15 := X
  have hS : va_S (mFA K) s.heap s.heap [] := va_S.rf
  have hl : lv_has ls 2 [(0, .int a0), (1, .int a1)] := hl
  unfold f_J15_checkIndex_7cf53 at hP
  refine lv_iload_n hx hb dJ15_checkIndex_7cf53_0 rfl (lv_at hl 0 rfl) ?_
  refine lv_iload_n hx hb dJ15_checkIndex_7cf53_1 rfl (lv_at hl 1 rfl) ?_
  refine lv_null hx hb dJ15_checkIndex_7cf53_2 ?_
  refine r_callSi (rest := []) X hM hS (ct_J3_checkIndex_8e157 hst a0 a1) hP mS_J15_105 rfl rfl hl.1 (Nat.le_of_ble_eq_true rfl) ⟨⟨by decide, by decide⟩, ⟨by decide, by decide⟩⟩ dJ15_checkIndex_7cf53_3 (fun r1 M H locs hM hS hP => ?_)
  exact e_iret X hM hS (hk _ _ hP) hr hlocks (by decide) (by decide) dJ15_checkIndex_7cf53_6
def f_Jx4a65c_elementData_915e3 (K : Cfg) (a0 : Nat) (a1 : Int32) (k : Nat → Mem → Prop) : Mem → Prop :=
 mGetR a0 0 1 fun x1 =>
 mLdQ K 7 x1 a1 fun x2 =>
 k x2
abbrev rm_Jx4a65c_elementData_915e3 : Room := { frames := 0, cells := 0, slots := 0, locals := 0 }
set_option maxHeartbeats 4000000 in
set_option maxRecDepth 100000 in
theorem ct_Jx4a65c_elementData_915e3 {K : Cfg} {l : Launch} (hst : l.stackTraces = false) (a0 : Nat) (a1 : Int32) : mPr K l yJx4a65c_elementData_915e3 cJx4a65c_elementData_915e3 2 (some (.object "java/lang/Object")) rm_Jx4a65c_elementData_915e3 [.ref a0, .int a1] (f_Jx4a65c_elementData_915e3 K a0 a1) := by
  refine mPr.of hst (by decide +kernel) (Nat.le_of_ble_eq_true rfl) ?_
  intro M k Q hk hP p e s m below meth c X hr hlocks hname hM ls hl
  have hx := X.1.1
  have hb := X.1.2.1
  have X : Cx K p l s m ([.ref a0, .int a1] : List Value).toArray c cJx4a65c_elementData_915e3 2 RJx4a65c := X
  have hS : va_S (mFA K) s.heap s.heap [] := va_S.rf
  have hl : lv_has ls 2 [(0, .ref a0), (1, .int a1)] := hl
  unfold f_Jx4a65c_elementData_915e3 at hP
  refine lv_aload_n hx hb dJx4a65c_elementData_915e3_0 rfl (lv_at hl 0 rfl) ?_
  refine r_getr X hM hP fl_Jx4a65c_9 dJx4a65c_elementData_915e3_1 (fun x1 hP => ?_)
  refine lv_iload_n hx hb dJx4a65c_elementData_915e3_4 rfl (lv_at hl 1 rfl) ?_
  refine r_ldq (t := 7) (fun _ => rfl) X hM hP dJx4a65c_elementData_915e3_5 (fun x2 hP => ?_)
  exact e_aret X hM hS (hk _ _ hP) hr (Or.inl ⟨_, rfl⟩) hlocks (by decide) (by decide) dJx4a65c_elementData_915e3_6
def f_Jx4a65c_get_915e3 (K : Cfg) (a0 : Nat) (a1 : Int32) (k : Nat → Mem → Prop) : Mem → Prop :=
 mGetI a0 0 2 fun x1 =>
 f_J15_checkIndex_7cf53 K a1 x1 (fun r2 =>
 mRecv a0 0 <|
 f_Jx4a65c_elementData_915e3 K a0 a1 (fun r3 =>
 k r3))
abbrev rm_Jx4a65c_get_915e3 : Room := { frames := 2, cells := 0, slots := 0, locals := 43 }
set_option maxHeartbeats 4000000 in
set_option maxRecDepth 100000 in
theorem ct_Jx4a65c_get_915e3 {K : Cfg} {l : Launch} (hst : l.stackTraces = false) (a0 : Nat) (a1 : Int32) : mPr K l yJx4a65c_get_915e3 cJx4a65c_get_915e3 2 (some (.object "java/lang/Object")) rm_Jx4a65c_get_915e3 [.ref a0, .int a1] (f_Jx4a65c_get_915e3 K a0 a1) := by
  refine mPr.of hst (by decide +kernel) (Nat.le_of_ble_eq_true rfl) ?_
  intro M k Q hk hP p e s m below meth c X hr hlocks hname hM ls hl
  have hx := X.1.1
  have hb := X.1.2.1
  have X : Cx K p l s m ([.ref a0, .int a1] : List Value).toArray c cJx4a65c_get_915e3 2 RJx4a65c := X
  have hS : va_S (mFA K) s.heap s.heap [] := va_S.rf
  have hl : lv_has ls 2 [(0, .ref a0), (1, .int a1)] := hl
  unfold f_Jx4a65c_get_915e3 at hP
  refine lv_iload_n hx hb dJx4a65c_get_915e3_0 rfl (lv_at hl 1 rfl) ?_
  refine lv_aload_n hx hb dJx4a65c_get_915e3_1 rfl (lv_at hl 0 rfl) ?_
  refine r_geti X hM hP fl_Jx4a65c_48 dJx4a65c_get_915e3_2 (fun x1 hP => ?_)
  refine r_callSi (rest := []) X hM hS (ct_J15_checkIndex_7cf53 hst a1 x1) hP mS_Jx4a65c_118 rfl rfl hl.1 (Nat.le_of_ble_eq_true rfl) ⟨⟨by decide, by decide⟩, ⟨by decide, by decide⟩⟩ dJx4a65c_get_915e3_5 (fun r2 M H locs hM hS hP => ?_)
  refine lv_pop hx hb dJx4a65c_get_915e3_8 rfl ?_
  refine lv_aload_n hx hb dJx4a65c_get_915e3_9 rfl (lv_at hl 0 rfl) ?_
  refine lv_iload_n hx hb dJx4a65c_get_915e3_10 rfl (lv_at hl 1 rfl) ?_
  refine r_callVr (rest := []) (T := TJx4a65c) (N := 3) X hM hS (ct_Jx4a65c_elementData_915e3 hst a0 a1) hP mV_Jx4a65c_123 rfl rfl rfl hl.1 (Nat.le_of_ble_eq_true rfl) ⟨⟨by decide, by decide⟩, ⟨by decide, by decide⟩⟩ dJx4a65c_get_915e3_11 (fun r3 M H locs hM hS hP => ?_)
  exact e_aret X hM hS (hk _ _ hP) hr (Or.inl ⟨_, rfl⟩) hlocks (by decide) (by decide) dJx4a65c_get_915e3_14
def f_Jxa1e45_init_da8c8 (K : Cfg) (a0 : Nat) (k : Mem → Prop) : Mem → Prop :=
 k
abbrev rm_Jxa1e45_init_da8c8 : Room := { frames := 1, cells := 0, slots := 0, locals := 12 }
set_option maxHeartbeats 4000000 in
set_option maxRecDepth 100000 in
theorem ct_Jxa1e45_init_da8c8 {K : Cfg} {l : Launch} (hst : l.stackTraces = false) (a0 : Nat) : mPv K l yJxa1e45_init_da8c8 cJxa1e45_init_da8c8 1 none rm_Jxa1e45_init_da8c8 [.ref a0] (f_Jxa1e45_init_da8c8 K a0) := by
  refine mPv.of hst (by decide +kernel) (Nat.le_of_ble_eq_true rfl) ?_
  intro M k Q hk hP p e s m below meth c X hr hlocks hname hM ls hl
  have hx := X.1.1
  have hb := X.1.2.1
  have X : Cx K p l s m ([.ref a0] : List Value).toArray c cJxa1e45_init_da8c8 1 RJxa1e45 := X
  have hS : va_S (mFA K) s.heap s.heap [] := va_S.rf
  have hl : lv_has ls 1 [(0, .ref a0)] := hl
  unfold f_Jxa1e45_init_da8c8 at hP
  refine lv_aload_n hx hb dJxa1e45_init_da8c8_0 rfl (lv_at hl 0 rfl) ?_
  refine r_objInit X ol_Jxa1e45_1 mLA_oi mLA_oc hl.1 (by decide) (by decide) dJxa1e45_init_da8c8_1 ?_
  exact e_vret X hM hS (hk _ hP) hr hlocks (by decide) (by decide) dJxa1e45_init_da8c8_4
def f_Jxc12de_init_da8c8 (K : Cfg) (a0 : Nat) (k : Mem → Prop) : Mem → Prop :=
 f_Jxa1e45_init_da8c8 K a0 (
 mPut a0 0 0 (.int 0) <|
 k)
abbrev rm_Jxc12de_init_da8c8 : Room := { frames := 2, cells := 0, slots := 0, locals := 32 }
set_option maxHeartbeats 4000000 in
set_option maxRecDepth 100000 in
theorem ct_Jxc12de_init_da8c8 {K : Cfg} {l : Launch} (hst : l.stackTraces = false) (a0 : Nat) : mPv K l yJxc12de_init_da8c8 cJxc12de_init_da8c8 1 none rm_Jxc12de_init_da8c8 [.ref a0] (f_Jxc12de_init_da8c8 K a0) := by
  refine mPv.of hst (by decide +kernel) (Nat.le_of_ble_eq_true rfl) ?_
  intro M k Q hk hP p e s m below meth c X hr hlocks hname hM ls hl
  have hx := X.1.1
  have hb := X.1.2.1
  have X : Cx K p l s m ([.ref a0] : List Value).toArray c cJxc12de_init_da8c8 1 RJxc12de := X
  have hS : va_S (mFA K) s.heap s.heap [] := va_S.rf
  have hl : lv_has ls 1 [(0, .ref a0)] := hl
  unfold f_Jxc12de_init_da8c8 at hP
  refine lv_aload_n hx hb dJxc12de_init_da8c8_0 rfl (lv_at hl 0 rfl) ?_
  refine r_callIv (rest := []) X hM hS (ct_Jxa1e45_init_da8c8 hst a0) hP mI_Jxc12de_1 rfl rfl hl.1 (Nat.le_of_ble_eq_true rfl) ⟨⟨by decide, by decide⟩, ⟨by decide, by decide⟩⟩ dJxc12de_init_da8c8_1 (fun M H locs hM hS hP => ?_)
  refine lv_aload_n hx hb dJxc12de_init_da8c8_4 rfl (lv_at hl 0 rfl) ?_
  refine lv_iconst (v := 0) hx hb dJxc12de_init_da8c8_5 (by decide) ?_
  refine r_put X hM hS hP fl_Jxc12de_7 ft_Jx4a65c rfl (tyJx4a65c_ok 0 (Nat.le_of_ble_eq_true rfl)) rfl rfl dJxc12de_init_da8c8_6 (fun M H locs hM hS hP => ?_)
  exact e_vret X hM hS (hk _ hP) hr hlocks (by decide) (by decide) dJxc12de_init_da8c8_9
def f_Jx4a65c_init_da8c8 (K : Cfg) (a0 : Nat) (k : Mem → Prop) : Mem → Prop :=
 f_Jxc12de_init_da8c8 K a0 (
 mPut a0 0 1 (.ref (K.2.2 1)) <|
 k)
abbrev rm_Jx4a65c_init_da8c8 : Room := { frames := 3, cells := 0, slots := 0, locals := 52 }
set_option maxHeartbeats 4000000 in
set_option maxRecDepth 100000 in
theorem ct_Jx4a65c_init_da8c8 {K : Cfg} {l : Launch} (hst : l.stackTraces = false) (a0 : Nat) : mPv K l yJx4a65c_init_da8c8 cJx4a65c_init_da8c8 1 none rm_Jx4a65c_init_da8c8 [.ref a0] (f_Jx4a65c_init_da8c8 K a0) := by
  refine mPv.of hst (by decide +kernel) (Nat.le_of_ble_eq_true rfl) ?_
  intro M k Q hk hP p e s m below meth c X hr hlocks hname hM ls hl
  have hx := X.1.1
  have hb := X.1.2.1
  have X : Cx K p l s m ([.ref a0] : List Value).toArray c cJx4a65c_init_da8c8 1 RJx4a65c := X
  have hS : va_S (mFA K) s.heap s.heap [] := va_S.rf
  have hl : lv_has ls 1 [(0, .ref a0)] := hl
  unfold f_Jx4a65c_init_da8c8 at hP
  refine lv_aload_n hx hb dJx4a65c_init_da8c8_0 rfl (lv_at hl 0 rfl) ?_
  refine r_callIv (rest := []) X hM hS (ct_Jxc12de_init_da8c8 hst a0) hP mI_Jx4a65c_1 rfl rfl hl.1 (Nat.le_of_ble_eq_true rfl) ⟨⟨by decide, by decide⟩, ⟨by decide, by decide⟩⟩ dJx4a65c_init_da8c8_1 (fun M H locs hM hS hP => ?_)
  refine lv_aload_n hx hb dJx4a65c_init_da8c8_4 rfl (lv_at hl 0 rfl) ?_
  refine r_gets X hS X.2.1.2.2.2.2.2.2.1.1 gs_Jx4a65c_39 dJx4a65c_init_da8c8_5 ?_
  refine r_put X hM hS hP fl_Jx4a65c_9 ft_Jx4a65c rfl (tyJx4a65c_ok 1 (Nat.le_of_ble_eq_true rfl)) rfl rfl dJx4a65c_init_da8c8_8 (fun M H locs hM hS hP => ?_)
  exact e_vret X hM hS (hk _ hP) hr hlocks (by decide) (by decide) dJx4a65c_init_da8c8_11
def f_Jx4a65c_size_8abf5 (K : Cfg) (a0 : Nat) (k : Int32 → Mem → Prop) : Mem → Prop :=
 mGetI a0 0 2 fun x1 =>
 k x1
abbrev rm_Jx4a65c_size_8abf5 : Room := { frames := 0, cells := 0, slots := 0, locals := 0 }
set_option maxHeartbeats 4000000 in
set_option maxRecDepth 100000 in
theorem ct_Jx4a65c_size_8abf5 {K : Cfg} {l : Launch} (hst : l.stackTraces = false) (a0 : Nat) : mPi K l yJx4a65c_size_8abf5 cJx4a65c_size_8abf5 1 (some .int) rm_Jx4a65c_size_8abf5 [.ref a0] (f_Jx4a65c_size_8abf5 K a0) := by
  refine mPi.of hst (by decide +kernel) (Nat.le_of_ble_eq_true rfl) ?_
  intro M k Q hk hP p e s m below meth c X hr hlocks hname hM ls hl
  have hx := X.1.1
  have hb := X.1.2.1
  have X : Cx K p l s m ([.ref a0] : List Value).toArray c cJx4a65c_size_8abf5 1 RJx4a65c := X
  have hS : va_S (mFA K) s.heap s.heap [] := va_S.rf
  have hl : lv_has ls 1 [(0, .ref a0)] := hl
  unfold f_Jx4a65c_size_8abf5 at hP
  refine lv_aload_n hx hb dJx4a65c_size_8abf5_0 rfl (lv_at hl 0 rfl) ?_
  refine r_geti X hM hP fl_Jx4a65c_48 dJx4a65c_size_8abf5_1 (fun x1 hP => ?_)
  exact e_iret X hM hS (hk _ _ hP) hr hlocks (by decide) (by decide) dJx4a65c_size_8abf5_4
def f_Jx4a65c_grow_92f84_b20 (K : Cfg) (k : Nat → Mem → Prop) (u w : Nat) : Mem → Prop :=
 mNo
def f_Jx4a65c_grow_92f84 (K : Cfg) (a0 : Nat) (a1 : Int32) (k : Nat → Mem → Prop) : Mem → Prop :=
 mGetR a0 0 1 fun x1 =>
 mLenE K x1 fun x2 =>
 mIf (0 < x2)
 (f_Jx4a65c_grow_92f84_b20 K k 0 0)
 (mGetR a0 0 1 fun x3 =>
 mIf ((some x3 : Option Nat) = some (K.2.2 1))
 (mAs (0 ≤ 1 ∧ 0 ≤ 10) <|
 f_J9_max_7cf53 K 10 a1 (fun r4 =>
 mAs (¬ r4 < 0 ∧ r4.toNatClampNeg ≤ 10) <|
 mAs (0 + 1 ≤ 1 ∧ 0 + r4.toNatClampNeg ≤ 10) <|
 mNewA K 7 (r4.toNatClampNeg, .inr (.inr (.inr (.inr (fun _ => none))))) fun x5 =>
 mPut a0 0 1 (.ref x5) <|
 mAs (0 + 1 ≤ 1 ∧ 0 + r4.toNatClampNeg ≤ 10) <|
 k x5))
 (f_Jx4a65c_grow_92f84_b20 K k 0 0))
abbrev rm_Jx4a65c_grow_92f84 : Room := { frames := 1, cells := 1, slots := 10, locals := 21 }
set_option maxHeartbeats 4000000 in
set_option maxRecDepth 100000 in
theorem ct_Jx4a65c_grow_92f84 {K : Cfg} {l : Launch} (hst : l.stackTraces = false) (a0 : Nat) (a1 : Int32) : mPr K l yJx4a65c_grow_92f84 cJx4a65c_grow_92f84 4 (some (.array (.object "java/lang/Object"))) rm_Jx4a65c_grow_92f84 [.ref a0, .int a1] (f_Jx4a65c_grow_92f84 K a0 a1) := by
  refine mPr.of hst (by decide +kernel) (Nat.le_of_ble_eq_true rfl) ?_
  intro M k Q hk hP p e s m below meth c X hr hlocks hname hM ls hl
  have hx := X.1.1
  have hb := X.1.2.1
  have X : Cx K p l s m ([.ref a0, .int a1] : List Value).toArray c cJx4a65c_grow_92f84 4 RJx4a65c := X
  have hS : va_S (mFA K) s.heap s.heap [] := va_S.rf
  have hl : lv_has ls 4 [(0, .ref a0), (1, .int a1)] := hl
  have hb20 : ∀ (u w : Nat) (M : Mem) (H : Heap) (locs : List Loc) (ls : Array Slot), mh K M H → va_S (mFA K) s.heap H locs → lv_has ls 4 [] → f_Jx4a65c_grow_92f84_b20 K k u w M → W p l e rm_Jx4a65c_grow_92f84 s m ([.ref a0, .int a1] : List Value).toArray below meth c H locs u w (MQ below (mQ K Q) ([.ref a0, .int a1] : List Value).toArray s rm_Jx4a65c_grow_92f84.cells rm_Jx4a65c_grow_92f84.slots (mFA K)) (F0 m 20 ls []) := by
    intro u w M H locs ls hM hS hl hP
    unfold f_Jx4a65c_grow_92f84_b20 at hP
    exact hP.elim
  unfold f_Jx4a65c_grow_92f84 at hP
  refine lv_aload_n hx hb dJx4a65c_grow_92f84_0 rfl (lv_at hl 0 rfl) ?_
  refine r_getr X hM hP fl_Jx4a65c_9 dJx4a65c_grow_92f84_1 (fun x1 hP => ?_)
  refine r_lenE X hM hS hP dJx4a65c_grow_92f84_4 (fun x2 hP => ?_)
  refine lv_istore_n (lv' := [(2, .int x2), (0, .ref a0), (1, .int a1)]) hx hb dJx4a65c_grow_92f84_5 rfl hl (by decide) rfl (fun ls hl => ?_)
  refine lv_iload_n hx hb dJx4a65c_grow_92f84_6 rfl (lv_at hl 0 rfl) ?_
  refine lv_if_gt (tgt := 20) hx hb dJx4a65c_grow_92f84_7 (by decide) (fun hc => ?_) (fun hc => ?_)
  · have hP := mIf_t hP hc
    exact hb20 0 0 _ _ _ _ hM hS (lv_sub hl [] rfl) hP
  · have hP := mIf_f hP hc
    refine lv_aload_n hx hb dJx4a65c_grow_92f84_10 rfl (lv_at hl 1 rfl) ?_
    refine r_getr X hM hP fl_Jx4a65c_9 dJx4a65c_grow_92f84_11 (fun x3 hP => ?_)
    refine r_gets X hS X.2.1.2.2.2.2.2.2.1.1 gs_Jx4a65c_39 dJx4a65c_grow_92f84_14 ?_
    refine lv_acmp_eq (tgt := 45) (rx := some x3) (ry := some (K.2.2 1)) hx hb dJx4a65c_grow_92f84_17 (by decide) (fun hc => ?_) (fun hc => ?_)
    · have hP := mIf_t hP hc
      refine lv_aload_n hx hb dJx4a65c_grow_92f84_45 rfl (lv_at hl 1 rfl) ?_
      refine lv_bipush (v := 10) hx hb dJx4a65c_grow_92f84_46 (by decide) ?_
      refine lv_iload_n hx hb dJx4a65c_grow_92f84_48 rfl (lv_at hl 2 rfl) ?_
      obtain ⟨hcs, hP⟩ := hP
      refine r_callSi (rest := [.ref a0]) X hM hS (ct_J9_max_7cf53 hst 10 a1) hP mS_Jx4a65c_79 rfl rfl hl.1 (Nat.le_of_ble_eq_true rfl) ⟨⟨by decide, by decide⟩, hcs⟩ dJx4a65c_grow_92f84_49 (fun r4 M H locs hM hS hP => ?_)
      obtain ⟨⟨h91, h92⟩, hP⟩ := hP
      obtain ⟨hcs, hP⟩ := hP
      refine r_newq (t := 7) (fun _ => rfl) (List.mem_of_getElem? (i := 3) rfl) al_Jx4a65c_7 X hM hS hP h91 rfl (by omega) hcs dJx4a65c_grow_92f84_52 (fun x5 M H hM hS hP => ?_)
      refine lv_dup_x1 hx hb dJx4a65c_grow_92f84_55 rfl rfl ?_
      refine r_put X hM hS hP fl_Jx4a65c_9 ft_Jx4a65c rfl (tyJx4a65c_ok 1 (Nat.le_of_ble_eq_true rfl)) rfl rfl dJx4a65c_grow_92f84_56 (fun M H locs hM hS hP => ?_)
      obtain ⟨⟨h97, h98⟩, hP⟩ := hP
      exact e_aret X hM hS (hk _ _ hP) hr (Or.inr ⟨_, rfl⟩) hlocks h97 h98 dJx4a65c_grow_92f84_59
    · have hP := mIf_f hP hc
      exact hb20 0 0 _ _ _ _ hM hS (lv_sub hl [] rfl) hP
def f_Jx4a65c_grow_d5877 (K : Cfg) (a0 : Nat) (k : Nat → Mem → Prop) : Mem → Prop :=
 mGetI a0 0 2 fun x1 =>
 mRecv a0 0 <|
 f_Jx4a65c_grow_92f84 K a0 (x1 + 1) (fun r2 =>
 k r2)
abbrev rm_Jx4a65c_grow_d5877 : Room := { frames := 2, cells := 1, slots := 10, locals := 44 }
set_option maxHeartbeats 4000000 in
set_option maxRecDepth 100000 in
theorem ct_Jx4a65c_grow_d5877 {K : Cfg} {l : Launch} (hst : l.stackTraces = false) (a0 : Nat) : mPr K l yJx4a65c_grow_d5877 cJx4a65c_grow_d5877 1 (some (.array (.object "java/lang/Object"))) rm_Jx4a65c_grow_d5877 [.ref a0] (f_Jx4a65c_grow_d5877 K a0) := by
  refine mPr.of hst (by decide +kernel) (Nat.le_of_ble_eq_true rfl) ?_
  intro M k Q hk hP p e s m below meth c X hr hlocks hname hM ls hl
  have hx := X.1.1
  have hb := X.1.2.1
  have X : Cx K p l s m ([.ref a0] : List Value).toArray c cJx4a65c_grow_d5877 1 RJx4a65c := X
  have hS : va_S (mFA K) s.heap s.heap [] := va_S.rf
  have hl : lv_has ls 1 [(0, .ref a0)] := hl
  unfold f_Jx4a65c_grow_d5877 at hP
  refine lv_aload_n hx hb dJx4a65c_grow_d5877_0 rfl (lv_at hl 0 rfl) ?_
  refine lv_aload_n hx hb dJx4a65c_grow_d5877_1 rfl (lv_at hl 0 rfl) ?_
  refine r_geti X hM hP fl_Jx4a65c_48 dJx4a65c_grow_d5877_2 (fun x1 hP => ?_)
  refine lv_iconst (v := 1) hx hb dJx4a65c_grow_d5877_5 (by decide) ?_
  refine lv_iadd hx hb dJx4a65c_grow_d5877_6 ?_
  refine r_callVr (rest := []) (T := TJx4a65c) (N := 3) X hM hS (ct_Jx4a65c_grow_92f84 hst a0 (x1 + 1)) hP mV_Jx4a65c_69 rfl rfl rfl hl.1 (Nat.le_of_ble_eq_true rfl) ⟨⟨by decide, by decide⟩, ⟨by decide, by decide⟩⟩ dJx4a65c_grow_d5877_7 (fun r2 M H locs hM hS hP => ?_)
  exact e_aret X hM hS (hk _ _ hP) hr (Or.inr ⟨_, rfl⟩) hlocks (by decide) (by decide) dJx4a65c_grow_d5877_10
def f_Jx4a65c_add_72be8_b11 (K : Cfg) (k : Mem → Prop) (v0 : Nat) (v1 : Nat) (v2 : Nat) (v3 : Int32) : Mem → Prop :=
 mStO K v2 v3 v1 <|
 mPut v0 0 2 (.int (v3 + 1)) <|
 k
def f_Jx4a65c_add_72be8 (K : Cfg) (a0 : Nat) (a1 : Nat) (a2 : Nat) (a3 : Int32) (k : Mem → Prop) : Mem → Prop :=
 mLenE K a2 fun x1 =>
 mIf (a3 = x1)
 (mRecv a0 0 <|
 f_Jx4a65c_grow_d5877 K a0 (fun r2 =>
 f_Jx4a65c_add_72be8_b11 K k a0 a1 r2 a3))
 (f_Jx4a65c_add_72be8_b11 K k a0 a1 a2 a3)
abbrev rm_Jx4a65c_add_72be8 : Room := { frames := 3, cells := 1, slots := 10, locals := 64 }
set_option maxHeartbeats 4000000 in
set_option maxRecDepth 100000 in
theorem ct_Jx4a65c_add_72be8 {K : Cfg} {l : Launch} (hst : l.stackTraces = false) (a0 : Nat) (a1 : Nat) (a2 : Nat) (a3 : Int32) : mPv K l yJx4a65c_add_72be8 cJx4a65c_add_72be8 4 none rm_Jx4a65c_add_72be8 [.ref a0, .ref a1, .ref a2, .int a3] (f_Jx4a65c_add_72be8 K a0 a1 a2 a3) := by
  refine mPv.of hst (by decide +kernel) (Nat.le_of_ble_eq_true rfl) ?_
  intro M k Q hk hP p e s m below meth c X hr hlocks hname hM ls hl
  have hx := X.1.1
  have hb := X.1.2.1
  have X : Cx K p l s m ([.ref a0, .ref a1, .ref a2, .int a3] : List Value).toArray c cJx4a65c_add_72be8 4 RJx4a65c := X
  have hS : va_S (mFA K) s.heap s.heap [] := va_S.rf
  have hl : lv_has ls 4 [(0, .ref a0), (1, .ref a1), (2, .ref a2), (3, .int a3)] := hl
  have hb11 : ∀ (v0 : Nat) (v1 : Nat) (v2 : Nat) (v3 : Int32) (M : Mem) (H : Heap) (locs : List Loc) (ls : Array Slot), mh K M H → va_S (mFA K) s.heap H locs → lv_has ls 4 [(0, .ref v0), (1, .ref v1), (2, .ref v2), (3, .int v3)] → f_Jx4a65c_add_72be8_b11 K k v0 v1 v2 v3 M → W p l e rm_Jx4a65c_add_72be8 s m ([.ref a0, .ref a1, .ref a2, .int a3] : List Value).toArray below meth c H locs 1 10 (MQ below (mQ K Q) ([.ref a0, .ref a1, .ref a2, .int a3] : List Value).toArray s rm_Jx4a65c_add_72be8.cells rm_Jx4a65c_add_72be8.slots (mFA K)) (F0 m 11 ls []) := by
    intro v0 v1 v2 v3 M H locs ls hM hS hl hP
    unfold f_Jx4a65c_add_72be8_b11 at hP
    refine lv_aload_n hx hb dJx4a65c_add_72be8_11 rfl (lv_at hl 2 rfl) ?_
    refine lv_iload_n hx hb dJx4a65c_add_72be8_12 rfl (lv_at hl 3 rfl) ?_
    refine lv_aload_n hx hb dJx4a65c_add_72be8_13 rfl (lv_at hl 1 rfl) ?_
    refine r_stO X hM hS hP dJx4a65c_add_72be8_14 (fun M H locs hM hS hP => ?_)
    refine lv_aload_n hx hb dJx4a65c_add_72be8_15 rfl (lv_at hl 0 rfl) ?_
    refine lv_iload_n hx hb dJx4a65c_add_72be8_16 rfl (lv_at hl 3 rfl) ?_
    refine lv_iconst (v := 1) hx hb dJx4a65c_add_72be8_17 (by decide) ?_
    refine lv_iadd hx hb dJx4a65c_add_72be8_18 ?_
    refine r_put X hM hS hP fl_Jx4a65c_48 ft_Jx4a65c rfl (tyJx4a65c_ok 2 (Nat.le_of_ble_eq_true rfl)) rfl rfl dJx4a65c_add_72be8_19 (fun M H locs hM hS hP => ?_)
    exact e_vret X hM hS (hk _ hP) hr hlocks (by decide) (by decide) dJx4a65c_add_72be8_22
  unfold f_Jx4a65c_add_72be8 at hP
  refine lv_iload_n hx hb dJx4a65c_add_72be8_0 rfl (lv_at hl 3 rfl) ?_
  refine lv_aload_n hx hb dJx4a65c_add_72be8_1 rfl (lv_at hl 2 rfl) ?_
  refine r_lenE X hM hS hP dJx4a65c_add_72be8_2 (fun x1 hP => ?_)
  refine lv_icmp_ne (tgt := 11) hx hb dJx4a65c_add_72be8_3 (by decide) (fun hc => ?_) (fun hc => ?_)
  · have hP := mIf_f hP hc
    refine W.widen (k := 1) (n := 10) (by decide) (by decide) ?_
    exact hb11 a0 a1 a2 a3 _ _ _ _ hM hS (lv_sub hl [0, 1, 2, 3] rfl) hP
  · have hP := mIf_t hP hc
    refine lv_aload_n hx hb dJx4a65c_add_72be8_6 rfl (lv_at hl 0 rfl) ?_
    refine r_callVr (rest := []) (T := TJx4a65c) (N := 3) X hM hS (ct_Jx4a65c_grow_d5877 hst a0) hP mV_Jx4a65c_129 rfl rfl rfl hl.1 (Nat.le_of_ble_eq_true rfl) ⟨⟨by decide, by decide⟩, ⟨by decide, by decide⟩⟩ dJx4a65c_add_72be8_7 (fun r2 M H locs hM hS hP => ?_)
    refine lv_astore_n (lv' := [(2, .ref r2), (0, .ref a0), (1, .ref a1), (3, .int a3)]) hx hb dJx4a65c_add_72be8_10 rfl hl (by decide) rfl (fun ls hl => ?_)
    exact hb11 a0 a1 r2 a3 _ _ _ _ hM hS (lv_sub hl [1, 2, 0, 3] rfl) hP
def f_Jx4a65c_add_9ea2d (K : Cfg) (a0 : Nat) (a1 : Nat) (k : Int32 → Mem → Prop) : Mem → Prop :=
 mGetI a0 0 0 fun x1 =>
 mPut a0 0 0 (.int (x1 + 1)) <|
 mGetR a0 0 1 fun x2 =>
 mGetI a0 0 2 fun x3 =>
 mRecv a0 0 <|
 f_Jx4a65c_add_72be8 K a0 a1 x2 x3 (
 mAs ((1 : Int32) = 0 ∨ (1 : Int32) = 1) <|
 k 1)
abbrev rm_Jx4a65c_add_9ea2d : Room := { frames := 4, cells := 1, slots := 10, locals := 87 }
set_option maxHeartbeats 4000000 in
set_option maxRecDepth 100000 in
theorem ct_Jx4a65c_add_9ea2d {K : Cfg} {l : Launch} (hst : l.stackTraces = false) (a0 : Nat) (a1 : Nat) : mPi K l yJx4a65c_add_9ea2d cJx4a65c_add_9ea2d 2 (some .boolean) rm_Jx4a65c_add_9ea2d [.ref a0, .ref a1] (f_Jx4a65c_add_9ea2d K a0 a1) := by
  refine mPi.of hst (by decide +kernel) (Nat.le_of_ble_eq_true rfl) ?_
  intro M k Q hk hP p e s m below meth c X hr hlocks hname hM ls hl
  have hx := X.1.1
  have hb := X.1.2.1
  have X : Cx K p l s m ([.ref a0, .ref a1] : List Value).toArray c cJx4a65c_add_9ea2d 2 RJx4a65c := X
  have hS : va_S (mFA K) s.heap s.heap [] := va_S.rf
  have hl : lv_has ls 2 [(0, .ref a0), (1, .ref a1)] := hl
  unfold f_Jx4a65c_add_9ea2d at hP
  refine lv_aload_n hx hb dJx4a65c_add_9ea2d_0 rfl (lv_at hl 0 rfl) ?_
  refine lv_dup hx hb dJx4a65c_add_9ea2d_1 rfl ?_
  refine r_geti X hM hP fl_Jx4a65c_63 dJx4a65c_add_9ea2d_2 (fun x1 hP => ?_)
  refine lv_iconst (v := 1) hx hb dJx4a65c_add_9ea2d_5 (by decide) ?_
  refine lv_iadd hx hb dJx4a65c_add_9ea2d_6 ?_
  refine r_put X hM hS hP fl_Jx4a65c_63 ft_Jx4a65c rfl (tyJx4a65c_ok 0 (Nat.le_of_ble_eq_true rfl)) rfl rfl dJx4a65c_add_9ea2d_7 (fun M H locs hM hS hP => ?_)
  refine lv_aload_n hx hb dJx4a65c_add_9ea2d_10 rfl (lv_at hl 0 rfl) ?_
  refine lv_aload_n hx hb dJx4a65c_add_9ea2d_11 rfl (lv_at hl 1 rfl) ?_
  refine lv_aload_n hx hb dJx4a65c_add_9ea2d_12 rfl (lv_at hl 0 rfl) ?_
  refine r_getr X hM hP fl_Jx4a65c_9 dJx4a65c_add_9ea2d_13 (fun x2 hP => ?_)
  refine lv_aload_n hx hb dJx4a65c_add_9ea2d_16 rfl (lv_at hl 0 rfl) ?_
  refine r_geti X hM hP fl_Jx4a65c_48 dJx4a65c_add_9ea2d_17 (fun x3 hP => ?_)
  refine r_callVv (rest := []) (T := TJx4a65c) (N := 3) X hM hS (ct_Jx4a65c_add_72be8 hst a0 a1 x2 x3) hP mV_Jx4a65c_131 rfl rfl rfl hl.1 (Nat.le_of_ble_eq_true rfl) ⟨⟨by decide, by decide⟩, ⟨by decide, by decide⟩⟩ dJx4a65c_add_9ea2d_20 (fun M H locs hM hS hP => ?_)
  refine lv_iconst (v := 1) hx hb dJx4a65c_add_9ea2d_23 (by decide) ?_
  obtain ⟨h9, hP⟩ := hP
  exact e_zret X hM hS h9 (hk _ _ hP) hr hlocks (by decide) (by decide) dJx4a65c_add_9ea2d_24
