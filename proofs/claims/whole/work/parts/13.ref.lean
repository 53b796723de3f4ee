/-! ===== shadows and walks, laid by program ===== -/
def f_X9_loading (K : Cfg) (a0 : Nat) (a1 : Nat) (k : UInt32 → Mem → Prop) : Mem → Prop :=
 mGetI a0 8 0 fun x1 =>
 mAs (vf_n32 (FP.fmul (FP.i2f x1) 1092616192)) <|
 mGetI a1 9 0 fun x2 =>
 mAs (vf_n32 (FP.fdiv (FP.fmul (FP.i2f x1) 1092616192) (FP.i2f x2))) <|
 k (FP.fdiv (FP.fmul (FP.i2f x1) 1092616192) (FP.i2f x2))
abbrev rm_X9_loading : Room := { frames := 0, cells := 0, slots := 0, locals := 0 }
set_option maxHeartbeats 4000000 in
set_option maxRecDepth 100000 in
theorem ct_X9_loading {K : Cfg} {l : Launch} (hst : l.stackTraces = false) (a0 : Nat) (a1 : Nat) : mPf K l yX9_loading cX9_loading 2 (some .float) rm_X9_loading [.ref a0, .ref a1] (f_X9_loading K a0 a1) := by
  refine mPf.of hst (by decide +kernel) (Nat.le_of_ble_eq_true rfl) ?_
  intro M k Q hk hP p e s m below meth c X hr hlocks hname hM ls hl
  have hx := X.1.1
  have hb := X.1.2.1
  have X : Cx K p l s m ([.ref a0, .ref a1] : List Value).toArray c cX9_loading 2 RX9 := X
  have hS : va_S (mFA K) s.heap s.heap [] := va_S.rf
  have hl : lv_has ls 2 [(0, .ref a0), (1, .ref a1)] := hl
  unfold f_X9_loading at hP
  refine lv_aload_n hx hb dX9_loading_0 rfl (lv_at hl 0 rfl) ?_
  refine r_geti X hM hP fl_X9_43 dX9_loading_1 (fun x1 hP => ?_)
  refine lv_i2f hx hb dX9_loading_4 ?_
  refine r_ldcf (v := 1092616192) X kc_X9_48 dX9_loading_5 ?_
  obtain ⟨h9, hP⟩ := hP
  refine lv_fmul hx hb dX9_loading_7 h9 ?_
  refine lv_aload_n hx hb dX9_loading_8 rfl (lv_at hl 1 rfl) ?_
  refine r_geti X hM hP fl_X9_49 dX9_loading_9 (fun x2 hP => ?_)
  refine lv_i2f hx hb dX9_loading_12 ?_
  obtain ⟨h9, hP⟩ := hP
  refine lv_fdiv hx hb dX9_loading_13 h9 ?_
  exact e_fret X hM hS (hk _ _ hP) hr hlocks (by decide) (by decide) dX9_loading_14
def f_X9_loading__b32 (K : Cfg) (k : UInt32 → Mem → Prop) (t0 : UInt32) : Mem → Prop :=
 k t0
def f_X9_loading_ (K : Cfg) (a0 : Nat) (a1 : Nat) (k : UInt32 → Mem → Prop) : Mem → Prop :=
 mGetI a1 8 2 fun x1 =>
 mIf (x1 = (-1))
 (f_X9_loading__b32 K k FP.fconst0)
 (mGetR a0 10 2 fun x2 =>
 mGetI a1 8 2 fun x3 =>
 mRecv x2 0 <|
 f_Jx4a65c_get_915e3 K x2 x3 (fun r4 =>
 mRecv r4 9 <|
 f_X9_loading K a1 r4 (fun r5 =>
 f_X9_loading__b32 K k r5)))
abbrev rm_X9_loading_ : Room := { frames := 3, cells := 0, slots := 0, locals := 64 }
set_option maxHeartbeats 4000000 in
set_option maxRecDepth 100000 in
theorem ct_X9_loading_ {K : Cfg} {l : Launch} (hst : l.stackTraces = false) (a0 : Nat) (a1 : Nat) : mPf K l yX9_loading_ cX9_loading_ 2 (some .float) rm_X9_loading_ [.ref a0, .ref a1] (f_X9_loading_ K a0 a1) := by
  refine mPf.of hst (by decide +kernel) (Nat.le_of_ble_eq_true rfl) ?_
  intro M k Q hk hP p e s m below meth c X hr hlocks hname hM ls hl
  have hx := X.1.1
  have hb := X.1.2.1
  have X : Cx K p l s m ([.ref a0, .ref a1] : List Value).toArray c cX9_loading_ 2 RX9 := X
  have hS : va_S (mFA K) s.heap s.heap [] := va_S.rf
  have hl : lv_has ls 2 [(0, .ref a0), (1, .ref a1)] := hl
  have hb32 : ∀ (t0 : UInt32) (M : Mem) (H : Heap) (locs : List Loc) (ls : Array Slot), mh K M H → va_S (mFA K) s.heap H locs → lv_has ls 2 [] → f_X9_loading__b32 K k t0 M → W p l e rm_X9_loading_ s m ([.ref a0, .ref a1] : List Value).toArray below meth c H locs 0 0 (MQ below (mQ K Q) ([.ref a0, .ref a1] : List Value).toArray s rm_X9_loading_.cells rm_X9_loading_.slots (mFA K)) (F0 m 32 ls [.float t0]) := by
    intro t0 M H locs ls hM hS hl hP
    unfold f_X9_loading__b32 at hP
    exact e_fret X hM hS (hk _ _ hP) hr hlocks (by decide) (by decide) dX9_loading__32
  unfold f_X9_loading_ at hP
  refine lv_aload_n hx hb dX9_loading__0 rfl (lv_at hl 1 rfl) ?_
  refine r_geti X hM hP fl_X9_54 dX9_loading__1 (fun x1 hP => ?_)
  refine lv_iconst (v := (-1)) hx hb dX9_loading__4 (by decide) ?_
  refine lv_icmp_ne (tgt := 12) hx hb dX9_loading__5 (by decide) (fun hc => ?_) (fun hc => ?_)
  · have hP := mIf_f hP hc
    refine lv_aload_n hx hb dX9_loading__12 rfl (lv_at hl 1 rfl) ?_
    refine lv_aload_n hx hb dX9_loading__13 rfl (lv_at hl 0 rfl) ?_
    refine r_getr X hM hP fl_X9_16 dX9_loading__14 (fun x2 hP => ?_)
    refine lv_aload_n hx hb dX9_loading__17 rfl (lv_at hl 1 rfl) ?_
    refine r_geti X hM hP fl_X9_54 dX9_loading__18 (fun x3 hP => ?_)
    refine r_callFr (rest := [.ref a1]) X hM hS (ct_Jx4a65c_get_915e3 hst x2 x3) hP mF_X9_57 rfl rfl hl.1 (Nat.le_of_ble_eq_true rfl) ⟨⟨by decide, by decide⟩, ⟨by decide, by decide⟩⟩ dX9_loading__21 (fun r4 M H locs hM hS hP => ?_)
    refine r_cast (C := RX8) (T := TX8) (N := 5) X hM hP rfl al_X9_50 dX9_loading__26 (fun hP => ?_)
    refine r_callSf (rest := []) X hM hS (ct_X9_loading hst a1 r4) hP mS_X9_61 rfl rfl hl.1 (Nat.le_of_ble_eq_true rfl) ⟨⟨by decide, by decide⟩, ⟨by decide, by decide⟩⟩ dX9_loading__29 (fun r5 M H locs hM hS hP => ?_)
    exact hb32 r5 _ _ _ _ hM hS (lv_sub hl [] rfl) hP
  · have hP := mIf_t hP hc
    refine lv_fconst0 hx hb dX9_loading__8 ?_
    refine lv_goto (tgt := 32) hx hb dX9_loading__9 (by decide) ?_
    exact hb32 FP.fconst0 _ _ _ _ hM hS (lv_sub hl [] rfl) hP
def f_X6_init (K : Cfg) (a0 : Nat) (a1 : Nat) (a2 : Nat) (a3 : Int32) (a4 : Int32) (a5 : Int32) (a6 : UInt64) (k : Mem → Prop) : Mem → Prop :=
 mPut a0 7 12 (.ref a1) <|
 mPut a0 7 6 (.int 9) <|
 mPut a0 7 0 (.ref a2) <|
 mPut a0 7 2 (.int a3) <|
 mPut a0 7 8 (.int a4) <|
 mPut a0 7 1 (.int a5) <|
 mPut a0 7 4 (.double a6) <|
 mRecv a1 10 <|
 f_X9_loading_ K a1 a2 (fun r1 =>
 mPut a0 7 3 (.float r1) <|
 k)
abbrev rm_X6_init : Room := { frames := 4, cells := 0, slots := 0, locals := 85 }
set_option maxHeartbeats 4000000 in
set_option maxRecDepth 100000 in
theorem ct_X6_init {K : Cfg} {l : Launch} (hst : l.stackTraces = false) (a0 : Nat) (a1 : Nat) (a2 : Nat) (a3 : Int32) (a4 : Int32) (a5 : Int32) (a6 : UInt64) : mPv K l yX6_init cX6_init 8 none rm_X6_init [.ref a0, .ref a1, .ref a2, .int a3, .int a4, .int a5, .double a6] (f_X6_init K a0 a1 a2 a3 a4 a5 a6) := by
  refine mPv.of hst (by decide +kernel) (Nat.le_of_ble_eq_true rfl) ?_
  intro M k Q hk hP p e s m below meth c X hr hlocks hname hM ls hl
  have hx := X.1.1
  have hb := X.1.2.1
  have X : Cx K p l s m ([.ref a0, .ref a1, .ref a2, .int a3, .int a4, .int a5, .double a6] : List Value).toArray c cX6_init 8 RX6 := X
  have hS : va_S (mFA K) s.heap s.heap [] := va_S.rf
  have hl : lv_has ls 8 [(0, .ref a0), (1, .ref a1), (2, .ref a2), (3, .int a3), (4, .int a4), (5, .int a5), (6, .double a6)] := hl
  unfold f_X6_init at hP
  refine lv_aload_n hx hb dX6_init_0 rfl (lv_at hl 0 rfl) ?_
  refine lv_aload_n hx hb dX6_init_1 rfl (lv_at hl 1 rfl) ?_
  refine r_putF X hM hS hP fl_X6_3 ft_X6 rfl hname rfl (tyX6_ok 12 (Nat.le_of_ble_eq_true rfl)) rfl rfl dX6_init_2 (fun M H locs hM hS hP => ?_)
  refine lv_aload_n hx hb dX6_init_5 rfl (lv_at hl 0 rfl) ?_
  refine r_objInit X ol_X6_9 mLA_oi mLA_oc hl.1 (by decide) (by decide) dX6_init_6 ?_
  refine lv_aload_n hx hb dX6_init_9 rfl (lv_at hl 0 rfl) ?_
  refine lv_bipush (v := 9) hx hb dX6_init_10 (by decide) ?_
  refine r_put X hM hS hP fl_X6_15 ft_X6 rfl (tyX6_ok 6 (Nat.le_of_ble_eq_true rfl)) rfl rfl dX6_init_12 (fun M H locs hM hS hP => ?_)
  refine lv_aload_n hx hb dX6_init_15 rfl (lv_at hl 0 rfl) ?_
  refine lv_aload_n hx hb dX6_init_16 rfl (lv_at hl 2 rfl) ?_
  refine r_putF X hM hS hP fl_X6_19 ft_X6 rfl hname rfl (tyX6_ok 0 (Nat.le_of_ble_eq_true rfl)) rfl rfl dX6_init_17 (fun M H locs hM hS hP => ?_)
  refine lv_aload_n hx hb dX6_init_20 rfl (lv_at hl 0 rfl) ?_
  refine lv_iload_n hx hb dX6_init_21 rfl (lv_at hl 3 rfl) ?_
  refine r_putF X hM hS hP fl_X6_23 ft_X6 rfl hname rfl (tyX6_ok 2 (Nat.le_of_ble_eq_true rfl)) rfl rfl dX6_init_22 (fun M H locs hM hS hP => ?_)
  refine lv_aload_n hx hb dX6_init_25 rfl (lv_at hl 0 rfl) ?_
  refine lv_iload hx hb dX6_init_26 (lv_at hl 4 rfl) ?_
  refine r_put X hM hS hP fl_X6_26 ft_X6 rfl (tyX6_ok 8 (Nat.le_of_ble_eq_true rfl)) rfl rfl dX6_init_28 (fun M H locs hM hS hP => ?_)
  refine lv_aload_n hx hb dX6_init_31 rfl (lv_at hl 0 rfl) ?_
  refine lv_iload hx hb dX6_init_32 (lv_at hl 5 rfl) ?_
  refine r_putF X hM hS hP fl_X6_29 ft_X6 rfl hname rfl (tyX6_ok 1 (Nat.le_of_ble_eq_true rfl)) rfl rfl dX6_init_34 (fun M H locs hM hS hP => ?_)
  refine lv_aload_n hx hb dX6_init_37 rfl (lv_at hl 0 rfl) ?_
  refine lv_dload hx hb dX6_init_38 (lv_at hl 6 rfl) ?_
  refine r_put X hM hS hP fl_X6_32 ft_X6 rfl (tyX6_ok 4 (Nat.le_of_ble_eq_true rfl)) rfl rfl dX6_init_40 (fun M H locs hM hS hP => ?_)
  refine lv_aload_n hx hb dX6_init_43 rfl (lv_at hl 0 rfl) ?_
  refine lv_aload_n hx hb dX6_init_44 rfl (lv_at hl 1 rfl) ?_
  refine lv_aload_n hx hb dX6_init_45 rfl (lv_at hl 2 rfl) ?_
  refine r_callVNf (n := 1) (rest := [.ref a0]) (host := "ChuteLoftModel") (T := TX9) (N := 14) X hM hS (ct_X9_loading_ hst a1 a2) hP (List.mem_of_getElem? (i := 5) rfl) cw_X9_loading_ iw_ChuteLoftModel (by decide +kernel) in9_X9_loading_ se9_X9_loading_ rfl rfl rfl hl.1 (Nat.le_of_ble_eq_true rfl) ⟨⟨by decide, by decide⟩, ⟨by decide, by decide⟩⟩ dX6_init_46 (fun r1 M H locs hM hS hP => ?_)
  refine r_putF X hM hS hP fl_X6_40 ft_X6 rfl hname rfl (tyX6_ok 3 (Nat.le_of_ble_eq_true rfl)) rfl rfl dX6_init_49 (fun M H locs hM hS hP => ?_)
  exact e_vret X hM hS (hk _ hP) hr hlocks (by decide) (by decide) dX6_init_52
def f_X6_isDown_b12 (K : Cfg) (k : Int32 → Mem → Prop) (t0 : Int32) : Mem → Prop :=
 mAs ((t0 : Int32) = 0 ∨ (t0 : Int32) = 1) <|
 k t0
def f_X6_isDown (K : Cfg) (a0 : Nat) (k : Int32 → Mem → Prop) : Mem → Prop :=
 mGetI a0 7 6 fun x1 =>
 mIf (0 ≤ x1)
 (f_X6_isDown_b12 K k 0)
 (f_X6_isDown_b12 K k 1)
abbrev rm_X6_isDown : Room := { frames := 0, cells := 0, slots := 0, locals := 0 }
set_option maxHeartbeats 4000000 in
set_option maxRecDepth 100000 in
theorem ct_X6_isDown {K : Cfg} {l : Launch} (hst : l.stackTraces = false) (a0 : Nat) : mPi K l yX6_isDown cX6_isDown 1 (some .boolean) rm_X6_isDown [.ref a0] (f_X6_isDown K a0) := by
  refine mPi.of hst (by decide +kernel) (Nat.le_of_ble_eq_true rfl) ?_
  intro M k Q hk hP p e s m below meth c X hr hlocks hname hM ls hl
  have hx := X.1.1
  have hb := X.1.2.1
  have X : Cx K p l s m ([.ref a0] : List Value).toArray c cX6_isDown 1 RX6 := X
  have hS : va_S (mFA K) s.heap s.heap [] := va_S.rf
  have hl : lv_has ls 1 [(0, .ref a0)] := hl
  have hb12 : ∀ (t0 : Int32) (M : Mem) (H : Heap) (locs : List Loc) (ls : Array Slot), mh K M H → va_S (mFA K) s.heap H locs → lv_has ls 1 [] → f_X6_isDown_b12 K k t0 M → W p l e rm_X6_isDown s m ([.ref a0] : List Value).toArray below meth c H locs 0 0 (MQ below (mQ K Q) ([.ref a0] : List Value).toArray s rm_X6_isDown.cells rm_X6_isDown.slots (mFA K)) (F0 m 12 ls [.int t0]) := by
    intro t0 M H locs ls hM hS hl hP
    unfold f_X6_isDown_b12 at hP
    obtain ⟨h9, hP⟩ := hP
    exact e_zret X hM hS h9 (hk _ _ hP) hr hlocks (by decide) (by decide) dX6_isDown_12
  unfold f_X6_isDown at hP
  refine lv_aload_n hx hb dX6_isDown_0 rfl (lv_at hl 0 rfl) ?_
  refine r_geti X hM hP fl_X6_15 dX6_isDown_1 (fun x1 hP => ?_)
  refine lv_if_ge (tgt := 11) hx hb dX6_isDown_4 (by decide) (fun hc => ?_) (fun hc => ?_)
  · have hP := mIf_t hP hc
    refine lv_iconst (v := 0) hx hb dX6_isDown_11 (by decide) ?_
    exact hb12 0 _ _ _ _ hM hS (lv_sub hl [] rfl) hP
  · have hP := mIf_f hP hc
    refine lv_iconst (v := 1) hx hb dX6_isDown_7 (by decide) ?_
    refine lv_goto (tgt := 12) hx hb dX6_isDown_8 (by decide) ?_
    exact hb12 1 _ _ _ _ hM hS (lv_sub hl [] rfl) hP
def f_X6_stay_b50 (K : Cfg) (k : Int32 → Mem → Prop) (t0 : Int32) : Mem → Prop :=
 k t0
def f_X6_stay_b18 (K : Cfg) (k : Int32 → Mem → Prop) (v0 : Nat) : Mem → Prop :=
 mGetI v0 7 9 fun x1 =>
 mIf (x1 = 0)
 (mGetI v0 7 2 fun x2 =>
 mIf (x2 = 0)
 (f_X6_stay_b50 K k 2)
 (f_X6_stay_b50 K k 1))
 (mGetF v0 7 3 fun x3 =>
 mAs (vf_n32 (FP.fdiv 1090519040 x3)) <|
 f_X6_stay_b50 K k (1 + (FP.f2i (FP.fdiv 1090519040 x3))))
def f_X6_stay (K : Cfg) (a0 : Nat) (k : Int32 → Mem → Prop) : Mem → Prop :=
 mGetI a0 7 10 fun x1 =>
 mIf (x1 = 0)
 (f_X6_stay_b18 K k a0)
 (mGetI a0 7 9 fun x2 =>
 mIf (x2 = 0)
 (f_X6_stay_b18 K k a0)
 (f_X6_stay_b50 K k 4))
abbrev rm_X6_stay : Room := { frames := 0, cells := 0, slots := 0, locals := 0 }
set_option maxHeartbeats 4000000 in
set_option maxRecDepth 100000 in
theorem ct_X6_stay {K : Cfg} {l : Launch} (hst : l.stackTraces = false) (a0 : Nat) : mPi K l yX6_stay cX6_stay 1 (some .int) rm_X6_stay [.ref a0] (f_X6_stay K a0) := by
  refine mPi.of hst (by decide +kernel) (Nat.le_of_ble_eq_true rfl) ?_
  intro M k Q hk hP p e s m below meth c X hr hlocks hname hM ls hl
  have hx := X.1.1
  have hb := X.1.2.1
  have X : Cx K p l s m ([.ref a0] : List Value).toArray c cX6_stay 1 RX6 := X
  have hS : va_S (mFA K) s.heap s.heap [] := va_S.rf
  have hl : lv_has ls 1 [(0, .ref a0)] := hl
  have hb50 : ∀ (t0 : Int32) (M : Mem) (H : Heap) (locs : List Loc) (ls : Array Slot), mh K M H → va_S (mFA K) s.heap H locs → lv_has ls 1 [] → f_X6_stay_b50 K k t0 M → W p l e rm_X6_stay s m ([.ref a0] : List Value).toArray below meth c H locs 0 0 (MQ below (mQ K Q) ([.ref a0] : List Value).toArray s rm_X6_stay.cells rm_X6_stay.slots (mFA K)) (F0 m 50 ls [.int t0]) := by
    intro t0 M H locs ls hM hS hl hP
    unfold f_X6_stay_b50 at hP
    exact e_iret X hM hS (hk _ _ hP) hr hlocks (by decide) (by decide) dX6_stay_50
  have hb18 : ∀ (v0 : Nat) (M : Mem) (H : Heap) (locs : List Loc) (ls : Array Slot), mh K M H → va_S (mFA K) s.heap H locs → lv_has ls 1 [(0, .ref v0)] → f_X6_stay_b18 K k v0 M → W p l e rm_X6_stay s m ([.ref a0] : List Value).toArray below meth c H locs 0 0 (MQ below (mQ K Q) ([.ref a0] : List Value).toArray s rm_X6_stay.cells rm_X6_stay.slots (mFA K)) (F0 m 18 ls []) := by
    intro v0 M H locs ls hM hS hl hP
    unfold f_X6_stay_b18 at hP
    refine lv_aload_n hx hb dX6_stay_18 rfl (lv_at hl 0 rfl) ?_
    refine r_geti X hM hP fl_X6_47 dX6_stay_19 (fun x1 hP => ?_)
    refine lv_if_eq (tgt := 38) hx hb dX6_stay_22 (by decide) (fun hc => ?_) (fun hc => ?_)
    · have hP := mIf_t hP hc
      refine lv_aload_n hx hb dX6_stay_38 rfl (lv_at hl 0 rfl) ?_
      refine r_geti X hM hP fl_X6_23 dX6_stay_39 (fun x2 hP => ?_)
      refine lv_if_ne (tgt := 49) hx hb dX6_stay_42 (by decide) (fun hc => ?_) (fun hc => ?_)
      · have hP := mIf_f hP hc
        refine lv_iconst (v := 1) hx hb dX6_stay_49 (by decide) ?_
        exact hb50 1 _ _ _ _ hM hS (lv_sub hl [] rfl) hP
      · have hP := mIf_t hP hc
        refine lv_iconst (v := 2) hx hb dX6_stay_45 (by decide) ?_
        refine lv_goto (tgt := 50) hx hb dX6_stay_46 (by decide) ?_
        exact hb50 2 _ _ _ _ hM hS (lv_sub hl [] rfl) hP
    · have hP := mIf_f hP hc
      refine lv_iconst (v := 1) hx hb dX6_stay_25 (by decide) ?_
      refine r_ldcf (v := 1090519040) X kc_X6_50 dX6_stay_26 ?_
      refine lv_aload_n hx hb dX6_stay_28 rfl (lv_at hl 0 rfl) ?_
      refine r_getf X hM hP fl_X6_40 dX6_stay_29 (fun x3 hP => ?_)
      obtain ⟨h9, hP⟩ := hP
      refine lv_fdiv hx hb dX6_stay_32 h9 ?_
      refine lv_f2i hx hb dX6_stay_33 ?_
      refine lv_iadd hx hb dX6_stay_34 ?_
      refine lv_goto (tgt := 50) hx hb dX6_stay_35 (by decide) ?_
      exact hb50 (1 + (FP.f2i (FP.fdiv 1090519040 x3))) _ _ _ _ hM hS (lv_sub hl [] rfl) hP
  unfold f_X6_stay at hP
  refine lv_aload_n hx hb dX6_stay_0 rfl (lv_at hl 0 rfl) ?_
  refine r_geti X hM hP fl_X6_43 dX6_stay_1 (fun x1 hP => ?_)
  refine lv_if_eq (tgt := 18) hx hb dX6_stay_4 (by decide) (fun hc => ?_) (fun hc => ?_)
  · have hP := mIf_t hP hc
    exact hb18 a0 _ _ _ _ hM hS (lv_sub hl [0] rfl) hP
  · have hP := mIf_f hP hc
    refine lv_aload_n hx hb dX6_stay_7 rfl (lv_at hl 0 rfl) ?_
    refine r_geti X hM hP fl_X6_47 dX6_stay_8 (fun x2 hP => ?_)
    refine lv_if_eq (tgt := 18) hx hb dX6_stay_11 (by decide) (fun hc => ?_) (fun hc => ?_)
    · have hP := mIf_t hP hc
      exact hb18 a0 _ _ _ _ hM hS (lv_sub hl [0] rfl) hP
    · have hP := mIf_f hP hc
      refine lv_iconst (v := 4) hx hb dX6_stay_14 (by decide) ?_
      refine lv_goto (tgt := 50) hx hb dX6_stay_15 (by decide) ?_
      exact hb50 4 _ _ _ _ hM hS (lv_sub hl [] rfl) hP
def f_X6_forward_b48 (K : Cfg) (k : UInt64 → Mem → Prop) (t0 : UInt64) : Mem → Prop :=
 k t0
def f_X6_forward (K : Cfg) (a0 : Nat) (k : UInt64 → Mem → Prop) : Mem → Prop :=
 mGetI a0 7 10 fun x1 =>
 mIf (x1 = 0)
 (mGetR a0 7 0 fun x2 =>
 mGetI x2 8 1 fun x3 =>
 mIf (x3 = 0)
 (mGetF a0 7 3 fun x5 =>
 mAs (vf_n64 (FP.f2d x5)) <|
 mAs (vf_n64 (FP.dadd 4616189618054758400 (FP.f2d x5))) <|
 mAs (vf_n64 (FP.ddiv (FP.dadd 4616189618054758400 (FP.f2d x5)) 4611686018427387904)) <|
 f_X6_forward_b48 K k (FP.ddiv (FP.dadd 4616189618054758400 (FP.f2d x5)) 4611686018427387904))
 (mGetF a0 7 3 fun x4 =>
 mAs (vf_n64 (FP.f2d x4)) <|
 mAs (vf_n64 (FP.dadd 4616189618054758400 (FP.f2d x4))) <|
 f_X6_forward_b48 K k (FP.dadd 4616189618054758400 (FP.f2d x4))))
 (f_X6_forward_b48 K k 4613937818241073152)
abbrev rm_X6_forward : Room := { frames := 0, cells := 0, slots := 0, locals := 0 }
set_option maxHeartbeats 4000000 in
set_option maxRecDepth 100000 in
theorem ct_X6_forward {K : Cfg} {l : Launch} (hst : l.stackTraces = false) (a0 : Nat) : mPd K l yX6_forward cX6_forward 1 (some .double) rm_X6_forward [.ref a0] (f_X6_forward K a0) := by
  refine mPd.of hst (by decide +kernel) (Nat.le_of_ble_eq_true rfl) ?_
  intro M k Q hk hP p e s m below meth c X hr hlocks hname hM ls hl
  have hx := X.1.1
  have hb := X.1.2.1
  have X : Cx K p l s m ([.ref a0] : List Value).toArray c cX6_forward 1 RX6 := X
  have hS : va_S (mFA K) s.heap s.heap [] := va_S.rf
  have hl : lv_has ls 1 [(0, .ref a0)] := hl
  have hb48 : ∀ (t0 : UInt64) (M : Mem) (H : Heap) (locs : List Loc) (ls : Array Slot), mh K M H → va_S (mFA K) s.heap H locs → lv_has ls 1 [] → f_X6_forward_b48 K k t0 M → W p l e rm_X6_forward s m ([.ref a0] : List Value).toArray below meth c H locs 0 0 (MQ below (mQ K Q) ([.ref a0] : List Value).toArray s rm_X6_forward.cells rm_X6_forward.slots (mFA K)) (F0 m 48 ls [.double t0]) := by
    intro t0 M H locs ls hM hS hl hP
    unfold f_X6_forward_b48 at hP
    exact e_dret X hM hS (hk _ _ hP) hr hlocks (by decide) (by decide) dX6_forward_48
  unfold f_X6_forward at hP
  refine lv_aload_n hx hb dX6_forward_0 rfl (lv_at hl 0 rfl) ?_
  refine r_geti X hM hP fl_X6_43 dX6_forward_1 (fun x1 hP => ?_)
  refine lv_if_eq (tgt := 13) hx hb dX6_forward_4 (by decide) (fun hc => ?_) (fun hc => ?_)
  · have hP := mIf_t hP hc
    refine lv_aload_n hx hb dX6_forward_13 rfl (lv_at hl 0 rfl) ?_
    refine r_getr X hM hP fl_X6_19 dX6_forward_14 (fun x2 hP => ?_)
    refine r_geti X hM hP fl_X6_53 dX6_forward_17 (fun x3 hP => ?_)
    refine lv_if_ne (tgt := 39) hx hb dX6_forward_20 (by decide) (fun hc => ?_) (fun hc => ?_)
    · have hP := mIf_f hP hc
      refine r_ldcd (v := 4616189618054758400) X kc_X6_58 dX6_forward_39 ?_
      refine lv_aload_n hx hb dX6_forward_42 rfl (lv_at hl 0 rfl) ?_
      refine r_getf X hM hP fl_X6_40 dX6_forward_43 (fun x4 hP => ?_)
      obtain ⟨h9, hP⟩ := hP
      refine lv_f2d hx hb dX6_forward_46 h9 ?_
      obtain ⟨h9, hP⟩ := hP
      refine lv_dadd hx hb dX6_forward_47 h9 ?_
      exact hb48 (FP.dadd 4616189618054758400 (FP.f2d x4)) _ _ _ _ hM hS (lv_sub hl [] rfl) hP
    · have hP := mIf_t hP hc
      refine r_ldcd (v := 4616189618054758400) X kc_X6_58 dX6_forward_23 ?_
      refine lv_aload_n hx hb dX6_forward_26 rfl (lv_at hl 0 rfl) ?_
      refine r_getf X hM hP fl_X6_40 dX6_forward_27 (fun x5 hP => ?_)
      obtain ⟨h9, hP⟩ := hP
      refine lv_f2d hx hb dX6_forward_30 h9 ?_
      obtain ⟨h9, hP⟩ := hP
      refine lv_dadd hx hb dX6_forward_31 h9 ?_
      refine r_ldcd (v := 4611686018427387904) X kc_X6_60 dX6_forward_32 ?_
      obtain ⟨h9, hP⟩ := hP
      refine lv_ddiv hx hb dX6_forward_35 h9 ?_
      refine lv_goto (tgt := 48) hx hb dX6_forward_36 (by decide) ?_
      exact hb48 (FP.ddiv (FP.dadd 4616189618054758400 (FP.f2d x5)) 4611686018427387904) _ _ _ _ hM hS (lv_sub hl [] rfl) hP
  · have hP := mIf_f hP hc
    refine r_ldcd (v := 4613937818241073152) X kc_X6_51 dX6_forward_7 ?_
    refine lv_goto (tgt := 48) hx hb dX6_forward_10 (by decide) ?_
    exact hb48 4613937818241073152 _ _ _ _ hM hS (lv_sub hl [] rfl) hP
def f_X6_nearer_b23 (K : Cfg) (k : UInt64 → Mem → Prop) (t0 : UInt64) : Mem → Prop :=
 k t0
def f_X6_nearer (K : Cfg) (a0 : Nat) (a1 : UInt64) (a2 : UInt64) (k : UInt64 → Mem → Prop) : Mem → Prop :=
 mIf ((Op.cmpValue (FP.dcmp a1 FP.dconst0) .l) ≤ 0)
 (mAs (vf_n64 (FP.dadd a1 a2)) <|
 mAs (vf_n64 FP.dconst0 ∧ vf_n64 (FP.dadd a1 a2)) <|
 f_X6_nearer_b23 K k (Native.java_lang_Math.nans.pick64 false FP.dconst0 (FP.dadd a1 a2)))
 (mAs (vf_n64 (FP.dsub a1 a2)) <|
 mAs (vf_n64 FP.dconst0 ∧ vf_n64 (FP.dsub a1 a2)) <|
 f_X6_nearer_b23 K k (Native.java_lang_Math.nans.pick64 true FP.dconst0 (FP.dsub a1 a2)))
abbrev rm_X6_nearer : Room := { frames := 1, cells := 0, slots := 0, locals := 23 }
set_option maxHeartbeats 4000000 in
set_option maxRecDepth 100000 in
theorem ct_X6_nearer {K : Cfg} {l : Launch} (hst : l.stackTraces = false) (a0 : Nat) (a1 : UInt64) (a2 : UInt64) : mPd K l yX6_nearer cX6_nearer 5 (some .double) rm_X6_nearer [.ref a0, .double a1, .double a2] (f_X6_nearer K a0 a1 a2) := by
  refine mPd.of hst (by decide +kernel) (Nat.le_of_ble_eq_true rfl) ?_
  intro M k Q hk hP p e s m below meth c X hr hlocks hname hM ls hl
  have hx := X.1.1
  have hb := X.1.2.1
  have X : Cx K p l s m ([.ref a0, .double a1, .double a2] : List Value).toArray c cX6_nearer 5 RX6 := X
  have hS : va_S (mFA K) s.heap s.heap [] := va_S.rf
  have hl : lv_has ls 5 [(0, .ref a0), (1, .double a1), (3, .double a2)] := hl
  have hb23 : ∀ (t0 : UInt64) (M : Mem) (H : Heap) (locs : List Loc) (ls : Array Slot), mh K M H → va_S (mFA K) s.heap H locs → lv_has ls 5 [] → f_X6_nearer_b23 K k t0 M → W p l e rm_X6_nearer s m ([.ref a0, .double a1, .double a2] : List Value).toArray below meth c H locs 0 0 (MQ below (mQ K Q) ([.ref a0, .double a1, .double a2] : List Value).toArray s rm_X6_nearer.cells rm_X6_nearer.slots (mFA K)) (F0 m 23 ls [.double t0]) := by
    intro t0 M H locs ls hM hS hl hP
    unfold f_X6_nearer_b23 at hP
    exact e_dret X hM hS (hk _ _ hP) hr hlocks (by decide) (by decide) dX6_nearer_23
  unfold f_X6_nearer at hP
  refine lv_dload_n hx hb dX6_nearer_0 rfl (lv_at hl 1 rfl) ?_
  refine lv_dconst0 hx hb dX6_nearer_1 ?_
  refine lv_dcmp hx hb dX6_nearer_2 ?_
  refine lv_if_le (tgt := 16) hx hb dX6_nearer_3 (by decide) (fun hc => ?_) (fun hc => ?_)
  · have hP := mIf_t hP hc
    refine lv_dconst0 hx hb dX6_nearer_16 ?_
    refine lv_dload_n hx hb dX6_nearer_17 rfl (lv_at hl 1 rfl) ?_
    refine lv_dload_n hx hb dX6_nearer_18 rfl (lv_at hl 2 rfl) ?_
    obtain ⟨h9, hP⟩ := hP
    refine lv_dadd hx hb dX6_nearer_19 h9 ?_
    obtain ⟨h9, hP⟩ := hP
    refine r_minD X ol_X6_104 nw_minD.1 nw_minD.2 iw_java_lang_Math hl.1 ⟨by decide, by decide, (⟨Nat.le_refl _, Nat.le_refl _⟩ : 0 ≤ 0 ∧ 0 ≤ 0).1, (⟨Nat.le_refl _, Nat.le_refl _⟩ : 0 ≤ 0 ∧ 0 ≤ 0).2⟩ h9 (Nat.le_of_ble_eq_true rfl) dX6_nearer_20 ?_
    exact hb23 (Native.java_lang_Math.nans.pick64 false FP.dconst0 (FP.dadd a1 a2)) _ _ _ _ hM hS (lv_sub hl [] rfl) hP
  · have hP := mIf_f hP hc
    refine lv_dconst0 hx hb dX6_nearer_6 ?_
    refine lv_dload_n hx hb dX6_nearer_7 rfl (lv_at hl 1 rfl) ?_
    refine lv_dload_n hx hb dX6_nearer_8 rfl (lv_at hl 2 rfl) ?_
    obtain ⟨h9, hP⟩ := hP
    refine lv_dsub hx hb dX6_nearer_9 h9 ?_
    obtain ⟨h9, hP⟩ := hP
    refine r_maxD X ol_X6_101 nw_maxD.1 nw_maxD.2 iw_java_lang_Math hl.1 ⟨by decide, by decide, (⟨Nat.le_refl _, Nat.le_refl _⟩ : 0 ≤ 0 ∧ 0 ≤ 0).1, (⟨Nat.le_refl _, Nat.le_refl _⟩ : 0 ≤ 0 ∧ 0 ≤ 0).2⟩ h9 (Nat.le_of_ble_eq_true rfl) dX6_nearer_10 ?_
    refine lv_goto (tgt := 23) hx hb dX6_nearer_13 (by decide) ?_
    exact hb23 (Native.java_lang_Math.nans.pick64 true FP.dconst0 (FP.dsub a1 a2)) _ _ _ _ hM hS (lv_sub hl [] rfl) hP
def f_X6_steer_b97 (K : Cfg) (k : Mem → Prop) : Mem → Prop :=
 k
def f_X6_steer (K : Cfg) (a0 : Nat) (k : Mem → Prop) : Mem → Prop :=
 mGetD a0 7 4 fun x1 =>
 mGetR a0 7 12 fun x2 =>
 mGetR x2 10 3 fun x3 =>
 mGetI a0 7 6 fun x4 =>
 mLdI K x3 x4 fun x5 =>
 mAs (vf_n64 (FP.dadd x1 (FP.i2d x5))) <|
 mPut a0 7 4 (.double (FP.dadd x1 (FP.i2d x5))) <|
 mGetD a0 7 5 fun x6 =>
 mGetR a0 7 12 fun x7 =>
 mGetR x7 10 4 fun x8 =>
 mGetI a0 7 6 fun x9 =>
 mLdI K x8 x9 fun x10 =>
 mAs (vf_n64 (FP.dadd x6 (FP.i2d x10))) <|
 mPut a0 7 5 (.double (FP.dadd x6 (FP.i2d x10))) <|
 mGetD a0 7 4 fun x11 =>
 mAs (vf_n64 x11) <|
 mGetD a0 7 5 fun x12 =>
 mAs (vf_n64 x12) <|
 mIf ((Op.cmpValue (FP.dcmp (x11 &&& 0x7fffffffffffffff) (x12 &&& 0x7fffffffffffffff)) .l) < 0)
 (mGetD a0 7 5 fun x13 =>
 mRecv a0 7 <|
 f_X6_forward K a0 (fun r14 =>
 mRecv a0 7 <|
 f_X6_nearer K a0 x13 r14 (fun r15 =>
 mPut a0 7 5 (.double r15) <|
 f_X6_steer_b97 K k)))
 (mGetD a0 7 4 fun x16 =>
 mRecv a0 7 <|
 f_X6_forward K a0 (fun r17 =>
 mRecv a0 7 <|
 f_X6_nearer K a0 x16 r17 (fun r18 =>
 mPut a0 7 4 (.double r18) <|
 f_X6_steer_b97 K k)))
abbrev rm_X6_steer : Room := { frames := 2, cells := 0, slots := 0, locals := 47 }
set_option maxHeartbeats 4000000 in
set_option maxRecDepth 100000 in
theorem ct_X6_steer {K : Cfg} {l : Launch} (hst : l.stackTraces = false) (a0 : Nat) : mPv K l yX6_steer cX6_steer 1 none rm_X6_steer [.ref a0] (f_X6_steer K a0) := by
  refine mPv.of hst (by decide +kernel) (Nat.le_of_ble_eq_true rfl) ?_
  intro M k Q hk hP p e s m below meth c X hr hlocks hname hM ls hl
  have hx := X.1.1
  have hb := X.1.2.1
  have X : Cx K p l s m ([.ref a0] : List Value).toArray c cX6_steer 1 RX6 := X
  have hS : va_S (mFA K) s.heap s.heap [] := va_S.rf
  have hl : lv_has ls 1 [(0, .ref a0)] := hl
  have hb97 : ∀ (M : Mem) (H : Heap) (locs : List Loc) (ls : Array Slot), mh K M H → va_S (mFA K) s.heap H locs → lv_has ls 1 [] → f_X6_steer_b97 K k M → W p l e rm_X6_steer s m ([.ref a0] : List Value).toArray below meth c H locs 0 0 (MQ below (mQ K Q) ([.ref a0] : List Value).toArray s rm_X6_steer.cells rm_X6_steer.slots (mFA K)) (F0 m 97 ls []) := by
    intro M H locs ls hM hS hl hP
    unfold f_X6_steer_b97 at hP
    exact e_vret X hM hS (hk _ hP) hr hlocks (by decide) (by decide) dX6_steer_97
  unfold f_X6_steer at hP
  refine lv_aload_n hx hb dX6_steer_0 rfl (lv_at hl 0 rfl) ?_
  refine lv_dup hx hb dX6_steer_1 rfl ?_
  refine r_getd X hM hP fl_X6_32 dX6_steer_2 (fun x1 hP => ?_)
  refine lv_aload_n hx hb dX6_steer_5 rfl (lv_at hl 0 rfl) ?_
  refine r_getr X hM hP fl_X6_3 dX6_steer_6 (fun x2 hP => ?_)
  refine r_getrN (C := RX9) (T := TX9) (N := 14) (host := "ChuteLoftModel") X hM hP rfl (by decide) in_X9 (List.mem_of_getElem? (i := 0) rfl) rfl dX6_steer_9 (fun x3 hP => ?_)
  refine lv_aload_n hx hb dX6_steer_12 rfl (lv_at hl 0 rfl) ?_
  refine r_geti X hM hP fl_X6_15 dX6_steer_13 (fun x4 hP => ?_)
  refine r_ldi X hM hP dX6_steer_16 (fun x5 hP => ?_)
  refine lv_i2d hx hb dX6_steer_17 ?_
  obtain ⟨h9, hP⟩ := hP
  refine lv_dadd hx hb dX6_steer_18 h9 ?_
  refine r_put X hM hS hP fl_X6_32 ft_X6 rfl (tyX6_ok 4 (Nat.le_of_ble_eq_true rfl)) rfl rfl dX6_steer_19 (fun M H locs hM hS hP => ?_)
  refine lv_aload_n hx hb dX6_steer_22 rfl (lv_at hl 0 rfl) ?_
  refine lv_dup hx hb dX6_steer_23 rfl ?_
  refine r_getd X hM hP fl_X6_71 dX6_steer_24 (fun x6 hP => ?_)
  refine lv_aload_n hx hb dX6_steer_27 rfl (lv_at hl 0 rfl) ?_
  refine r_getr X hM hP fl_X6_3 dX6_steer_28 (fun x7 hP => ?_)
  refine r_getrN (C := RX9) (T := TX9) (N := 14) (host := "ChuteLoftModel") X hM hP rfl (by decide) in_X9 (List.mem_of_getElem? (i := 1) rfl) rfl dX6_steer_31 (fun x8 hP => ?_)
  refine lv_aload_n hx hb dX6_steer_34 rfl (lv_at hl 0 rfl) ?_
  refine r_geti X hM hP fl_X6_15 dX6_steer_35 (fun x9 hP => ?_)
  refine r_ldi X hM hP dX6_steer_38 (fun x10 hP => ?_)
  refine lv_i2d hx hb dX6_steer_39 ?_
  obtain ⟨h9, hP⟩ := hP
  refine lv_dadd hx hb dX6_steer_40 h9 ?_
  refine r_put X hM hS hP fl_X6_71 ft_X6 rfl (tyX6_ok 5 (Nat.le_of_ble_eq_true rfl)) rfl rfl dX6_steer_41 (fun M H locs hM hS hP => ?_)
  refine lv_aload_n hx hb dX6_steer_44 rfl (lv_at hl 0 rfl) ?_
  refine r_getd X hM hP fl_X6_32 dX6_steer_45 (fun x11 hP => ?_)
  obtain ⟨h9, hP⟩ := hP
  refine r_absD X ol_X6_87 nw_absD.1 nw_absD.2 iw_java_lang_Math hl.1 ⟨by decide, by decide, (⟨Nat.le_refl _, Nat.le_refl _⟩ : 0 ≤ 0 ∧ 0 ≤ 0).1, (⟨Nat.le_refl _, Nat.le_refl _⟩ : 0 ≤ 0 ∧ 0 ≤ 0).2⟩ h9 (Nat.le_of_ble_eq_true rfl) dX6_steer_48 ?_
  refine lv_aload_n hx hb dX6_steer_51 rfl (lv_at hl 0 rfl) ?_
  refine r_getd X hM hP fl_X6_71 dX6_steer_52 (fun x12 hP => ?_)
  obtain ⟨h9, hP⟩ := hP
  refine r_absD X ol_X6_87 nw_absD.1 nw_absD.2 iw_java_lang_Math hl.1 ⟨by decide, by decide, (⟨Nat.le_refl _, Nat.le_refl _⟩ : 0 ≤ 0 ∧ 0 ≤ 0).1, (⟨Nat.le_refl _, Nat.le_refl _⟩ : 0 ≤ 0 ∧ 0 ≤ 0).2⟩ h9 (Nat.le_of_ble_eq_true rfl) dX6_steer_55 ?_
  refine lv_dcmp hx hb dX6_steer_58 ?_
  refine lv_if_lt (tgt := 81) hx hb dX6_steer_59 (by decide) (fun hc => ?_) (fun hc => ?_)
  · have hP := mIf_t hP hc
    refine lv_aload_n hx hb dX6_steer_81 rfl (lv_at hl 0 rfl) ?_
    refine lv_aload_n hx hb dX6_steer_82 rfl (lv_at hl 0 rfl) ?_
    refine lv_aload_n hx hb dX6_steer_83 rfl (lv_at hl 0 rfl) ?_
    refine r_getd X hM hP fl_X6_71 dX6_steer_84 (fun x13 hP => ?_)
    refine lv_aload_n hx hb dX6_steer_87 rfl (lv_at hl 0 rfl) ?_
    refine r_callVd (rest := [.double x13, .ref a0, .ref a0]) (T := TX6) (N := 13) X hM hS (ct_X6_forward hst a0) hP mV_X6_93 rfl rfl rfl hl.1 (Nat.le_of_ble_eq_true rfl) ⟨⟨by decide, by decide⟩, ⟨by decide, by decide⟩⟩ dX6_steer_88 (fun r14 M H locs hM hS hP => ?_)
    refine r_callVd (rest := [.ref a0]) (T := TX6) (N := 13) X hM hS (ct_X6_nearer hst a0 x13 r14) hP mV_X6_97 rfl rfl rfl hl.1 (Nat.le_of_ble_eq_true rfl) ⟨⟨by decide, by decide⟩, ⟨by decide, by decide⟩⟩ dX6_steer_91 (fun r15 M H locs hM hS hP => ?_)
    refine r_put X hM hS hP fl_X6_71 ft_X6 rfl (tyX6_ok 5 (Nat.le_of_ble_eq_true rfl)) rfl rfl dX6_steer_94 (fun M H locs hM hS hP => ?_)
    exact hb97 _ _ _ _ hM hS (lv_sub hl [] rfl) hP
  · have hP := mIf_f hP hc
    refine lv_aload_n hx hb dX6_steer_62 rfl (lv_at hl 0 rfl) ?_
    refine lv_aload_n hx hb dX6_steer_63 rfl (lv_at hl 0 rfl) ?_
    refine lv_aload_n hx hb dX6_steer_64 rfl (lv_at hl 0 rfl) ?_
    refine r_getd X hM hP fl_X6_32 dX6_steer_65 (fun x16 hP => ?_)
    refine lv_aload_n hx hb dX6_steer_68 rfl (lv_at hl 0 rfl) ?_
    refine r_callVd (rest := [.double x16, .ref a0, .ref a0]) (T := TX6) (N := 13) X hM hS (ct_X6_forward hst a0) hP mV_X6_93 rfl rfl rfl hl.1 (Nat.le_of_ble_eq_true rfl) ⟨⟨by decide, by decide⟩, ⟨by decide, by decide⟩⟩ dX6_steer_69 (fun r17 M H locs hM hS hP => ?_)
    refine r_callVd (rest := [.ref a0]) (T := TX6) (N := 13) X hM hS (ct_X6_nearer hst a0 x16 r17) hP mV_X6_97 rfl rfl rfl hl.1 (Nat.le_of_ble_eq_true rfl) ⟨⟨by decide, by decide⟩, ⟨by decide, by decide⟩⟩ dX6_steer_72 (fun r18 M H locs hM hS hP => ?_)
    refine r_put X hM hS hP fl_X6_32 ft_X6 rfl (tyX6_ok 4 (Nat.le_of_ble_eq_true rfl)) rfl rfl dX6_steer_75 (fun M H locs hM hS hP => ?_)
    refine lv_goto (tgt := 97) hx hb dX6_steer_78 (by decide) ?_
    exact hb97 _ _ _ _ hM hS (lv_sub hl [] rfl) hP
def f_X6_tick_b159 (K : Cfg) (k : Mem → Prop) : Mem → Prop :=
 k
def f_X6_tick_b154 (K : Cfg) (k : Mem → Prop) (v0 : Nat) : Mem → Prop :=
 mPutZ v0 7 9 1 <|
 f_X6_tick_b159 K k
def f_X6_tick_b121 (K : Cfg) (k : Mem → Prop) : Mem → Prop :=
 k
def f_X6_tick_b66 (K : Cfg) (k : Mem → Prop) (v0 : Nat) : Mem → Prop :=
 mGetI v0 7 7 fun x1 =>
 mPut v0 7 7 (.int (x1 + 1)) <|
 mGetI v0 7 7 fun x2 =>
 mRecv v0 7 <|
 f_X6_stay K v0 (fun r3 =>
 mIf (r3 ≤ x2)
 (mPut v0 7 7 (.int 0) <|
 mGetI v0 7 6 fun x4 =>
 mPut v0 7 6 (.int (x4 - 1)) <|
 mGetI v0 7 9 fun x5 =>
 mIf (x5 = 0)
 (mGetI v0 7 6 fun x6 =>
 mGetI v0 7 8 fun x7 =>
 mIf (x6 = x7)
 (mGetI v0 7 11 fun x8 =>
 mIf (x8 = 0)
 (f_X6_tick_b154 K k v0)
 (mGetI v0 7 10 fun x9 =>
 mIf (x9 = 0)
 (mPutZ v0 7 10 1 <|
 mGetI v0 7 8 fun x10 =>
 mPut v0 7 8 (.int (x10 - 1)) <|
 f_X6_tick_b159 K k)
 (f_X6_tick_b154 K k v0)))
 (f_X6_tick_b121 K k))
 (f_X6_tick_b121 K k))
 (k))
def f_X6_tick (K : Cfg) (a0 : Nat) (k : Mem → Prop) : Mem → Prop :=
 mGetI a0 7 9 fun x1 =>
 mIf (x1 = 0)
 (mGetD a0 7 4 fun x2 =>
 mGetR a0 7 12 fun x3 =>
 mGetR x3 10 3 fun x4 =>
 mGetI a0 7 6 fun x5 =>
 mLdI K x4 x5 fun x6 =>
 mAs (vf_n64 (FP.dmul (FP.i2d x6) 4602678819172646912)) <|
 mAs (vf_n64 (FP.dadd x2 (FP.dmul (FP.i2d x6) 4602678819172646912))) <|
 mPut a0 7 4 (.double (FP.dadd x2 (FP.dmul (FP.i2d x6) 4602678819172646912))) <|
 mGetD a0 7 5 fun x7 =>
 mGetR a0 7 12 fun x8 =>
 mGetR x8 10 4 fun x9 =>
 mGetI a0 7 6 fun x10 =>
 mLdI K x9 x10 fun x11 =>
 mAs (vf_n64 (FP.dmul (FP.i2d x11) 4602678819172646912)) <|
 mAs (vf_n64 (FP.dadd x7 (FP.dmul (FP.i2d x11) 4602678819172646912))) <|
 mPut a0 7 5 (.double (FP.dadd x7 (FP.dmul (FP.i2d x11) 4602678819172646912))) <|
 f_X6_tick_b66 K k a0)
 (mRecv a0 7 <|
 f_X6_steer K a0 (
 f_X6_tick_b66 K k a0))
abbrev rm_X6_tick : Room := { frames := 3, cells := 0, slots := 0, locals := 67 }
set_option maxHeartbeats 4000000 in
set_option maxRecDepth 100000 in
theorem ct_X6_tick {K : Cfg} {l : Launch} (hst : l.stackTraces = false) (a0 : Nat) : mPv K l yX6_tick cX6_tick 1 none rm_X6_tick [.ref a0] (f_X6_tick K a0) := by
  refine mPv.of hst (by decide +kernel) (Nat.le_of_ble_eq_true rfl) ?_
  intro M k Q hk hP p e s m below meth c X hr hlocks hname hM ls hl
  have hx := X.1.1
  have hb := X.1.2.1
  have X : Cx K p l s m ([.ref a0] : List Value).toArray c cX6_tick 1 RX6 := X
  have hS : va_S (mFA K) s.heap s.heap [] := va_S.rf
  have hl : lv_has ls 1 [(0, .ref a0)] := hl
  have hb159 : ∀ (M : Mem) (H : Heap) (locs : List Loc) (ls : Array Slot), mh K M H → va_S (mFA K) s.heap H locs → lv_has ls 1 [] → f_X6_tick_b159 K k M → W p l e rm_X6_tick s m ([.ref a0] : List Value).toArray below meth c H locs 0 0 (MQ below (mQ K Q) ([.ref a0] : List Value).toArray s rm_X6_tick.cells rm_X6_tick.slots (mFA K)) (F0 m 159 ls []) := by
    intro M H locs ls hM hS hl hP
    unfold f_X6_tick_b159 at hP
    exact e_vret X hM hS (hk _ hP) hr hlocks (by decide) (by decide) dX6_tick_159
  have hb154 : ∀ (v0 : Nat) (M : Mem) (H : Heap) (locs : List Loc) (ls : Array Slot), mh K M H → va_S (mFA K) s.heap H locs → lv_has ls 1 [(0, .ref v0)] → f_X6_tick_b154 K k v0 M → W p l e rm_X6_tick s m ([.ref a0] : List Value).toArray below meth c H locs 0 0 (MQ below (mQ K Q) ([.ref a0] : List Value).toArray s rm_X6_tick.cells rm_X6_tick.slots (mFA K)) (F0 m 154 ls []) := by
    intro v0 M H locs ls hM hS hl hP
    unfold f_X6_tick_b154 at hP
    refine lv_aload_n hx hb dX6_tick_154 rfl (lv_at hl 0 rfl) ?_
    refine lv_iconst (v := 1) hx hb dX6_tick_155 (by decide) ?_
    refine r_putz X hM hS hP fl_X6_47 ft_X6 rfl (tyX6_ok 9 (Nat.le_of_ble_eq_true rfl)) dX6_tick_156 (fun M H locs hM hS hP => ?_)
    exact hb159 _ _ _ _ hM hS (lv_sub hl [] rfl) hP
  have hb121 : ∀ (M : Mem) (H : Heap) (locs : List Loc) (ls : Array Slot), mh K M H → va_S (mFA K) s.heap H locs → lv_has ls 1 [] → f_X6_tick_b121 K k M → W p l e rm_X6_tick s m ([.ref a0] : List Value).toArray below meth c H locs 0 0 (MQ below (mQ K Q) ([.ref a0] : List Value).toArray s rm_X6_tick.cells rm_X6_tick.slots (mFA K)) (F0 m 121 ls []) := by
    intro M H locs ls hM hS hl hP
    unfold f_X6_tick_b121 at hP
    exact e_vret X hM hS (hk _ hP) hr hlocks (by decide) (by decide) dX6_tick_121
  have hb66 : ∀ (v0 : Nat) (M : Mem) (H : Heap) (locs : List Loc) (ls : Array Slot), mh K M H → va_S (mFA K) s.heap H locs → lv_has ls 1 [(0, .ref v0)] → f_X6_tick_b66 K k v0 M → W p l e rm_X6_tick s m ([.ref a0] : List Value).toArray below meth c H locs 0 0 (MQ below (mQ K Q) ([.ref a0] : List Value).toArray s rm_X6_tick.cells rm_X6_tick.slots (mFA K)) (F0 m 66 ls []) := by
    intro v0 M H locs ls hM hS hl hP
    unfold f_X6_tick_b66 at hP
    refine lv_aload_n hx hb dX6_tick_66 rfl (lv_at hl 0 rfl) ?_
    refine lv_dup hx hb dX6_tick_67 rfl ?_
    refine r_geti X hM hP fl_X6_77 dX6_tick_68 (fun x1 hP => ?_)
    refine lv_iconst (v := 1) hx hb dX6_tick_71 (by decide) ?_
    refine lv_iadd hx hb dX6_tick_72 ?_
    refine r_put X hM hS hP fl_X6_77 ft_X6 rfl (tyX6_ok 7 (Nat.le_of_ble_eq_true rfl)) rfl rfl dX6_tick_73 (fun M H locs hM hS hP => ?_)
    refine lv_aload_n hx hb dX6_tick_76 rfl (lv_at hl 0 rfl) ?_
    refine r_geti X hM hP fl_X6_77 dX6_tick_77 (fun x2 hP => ?_)
    refine lv_aload_n hx hb dX6_tick_80 rfl (lv_at hl 0 rfl) ?_
    refine r_callVi (rest := [.int x2]) (T := TX6) (N := 13) X hM hS (ct_X6_stay hst v0) hP mV_X6_80 rfl rfl rfl hl.1 (Nat.le_of_ble_eq_true rfl) ⟨⟨by decide, by decide⟩, ⟨by decide, by decide⟩⟩ dX6_tick_81 (fun r3 M H locs hM hS hP => ?_)
    refine lv_icmp_ge (tgt := 88) hx hb dX6_tick_84 (by decide) (fun hc => ?_) (fun hc => ?_)
    · have hP := mIf_t hP hc
      refine lv_aload_n hx hb dX6_tick_88 rfl (lv_at hl 0 rfl) ?_
      refine lv_iconst (v := 0) hx hb dX6_tick_89 (by decide) ?_
      refine r_put X hM hS hP fl_X6_77 ft_X6 rfl (tyX6_ok 7 (Nat.le_of_ble_eq_true rfl)) rfl rfl dX6_tick_90 (fun M H locs hM hS hP => ?_)
      refine lv_aload_n hx hb dX6_tick_93 rfl (lv_at hl 0 rfl) ?_
      refine lv_dup hx hb dX6_tick_94 rfl ?_
      refine r_geti X hM hP fl_X6_15 dX6_tick_95 (fun x4 hP => ?_)
      refine lv_iconst (v := 1) hx hb dX6_tick_98 (by decide) ?_
      refine lv_isub hx hb dX6_tick_99 ?_
      refine r_put X hM hS hP fl_X6_15 ft_X6 rfl (tyX6_ok 6 (Nat.le_of_ble_eq_true rfl)) rfl rfl dX6_tick_100 (fun M H locs hM hS hP => ?_)
      refine lv_aload_n hx hb dX6_tick_103 rfl (lv_at hl 0 rfl) ?_
      refine r_geti X hM hP fl_X6_47 dX6_tick_104 (fun x5 hP => ?_)
      refine lv_if_ne (tgt := 121) hx hb dX6_tick_107 (by decide) (fun hc => ?_) (fun hc => ?_)
      · have hP := mIf_f hP hc
        exact hb121 _ _ _ _ hM hS (lv_sub hl [] rfl) hP
      · have hP := mIf_t hP hc
        refine lv_aload_n hx hb dX6_tick_110 rfl (lv_at hl 0 rfl) ?_
        refine r_geti X hM hP fl_X6_15 dX6_tick_111 (fun x6 hP => ?_)
        refine lv_aload_n hx hb dX6_tick_114 rfl (lv_at hl 0 rfl) ?_
        refine r_geti X hM hP fl_X6_26 dX6_tick_115 (fun x7 hP => ?_)
        refine lv_icmp_eq (tgt := 122) hx hb dX6_tick_118 (by decide) (fun hc => ?_) (fun hc => ?_)
        · have hP := mIf_t hP hc
          refine lv_aload_n hx hb dX6_tick_122 rfl (lv_at hl 0 rfl) ?_
          refine r_geti X hM hP fl_X6_84 dX6_tick_123 (fun x8 hP => ?_)
          refine lv_if_eq (tgt := 154) hx hb dX6_tick_126 (by decide) (fun hc => ?_) (fun hc => ?_)
          · have hP := mIf_t hP hc
            exact hb154 v0 _ _ _ _ hM hS (lv_sub hl [0] rfl) hP
          · have hP := mIf_f hP hc
            refine lv_aload_n hx hb dX6_tick_129 rfl (lv_at hl 0 rfl) ?_
            refine r_geti X hM hP fl_X6_43 dX6_tick_130 (fun x9 hP => ?_)
            refine lv_if_ne (tgt := 154) hx hb dX6_tick_133 (by decide) (fun hc => ?_) (fun hc => ?_)
            · have hP := mIf_f hP hc
              exact hb154 v0 _ _ _ _ hM hS (lv_sub hl [0] rfl) hP
            · have hP := mIf_t hP hc
              refine lv_aload_n hx hb dX6_tick_136 rfl (lv_at hl 0 rfl) ?_
              refine lv_iconst (v := 1) hx hb dX6_tick_137 (by decide) ?_
              refine r_putz X hM hS hP fl_X6_43 ft_X6 rfl (tyX6_ok 10 (Nat.le_of_ble_eq_true rfl)) dX6_tick_138 (fun M H locs hM hS hP => ?_)
              refine lv_aload_n hx hb dX6_tick_141 rfl (lv_at hl 0 rfl) ?_
              refine lv_dup hx hb dX6_tick_142 rfl ?_
              refine r_geti X hM hP fl_X6_26 dX6_tick_143 (fun x10 hP => ?_)
              refine lv_iconst (v := 1) hx hb dX6_tick_146 (by decide) ?_
              refine lv_isub hx hb dX6_tick_147 ?_
              refine r_put X hM hS hP fl_X6_26 ft_X6 rfl (tyX6_ok 8 (Nat.le_of_ble_eq_true rfl)) rfl rfl dX6_tick_148 (fun M H locs hM hS hP => ?_)
              refine lv_goto (tgt := 159) hx hb dX6_tick_151 (by decide) ?_
              exact hb159 _ _ _ _ hM hS (lv_sub hl [] rfl) hP
        · have hP := mIf_f hP hc
          exact hb121 _ _ _ _ hM hS (lv_sub hl [] rfl) hP
    · have hP := mIf_f hP hc
      exact e_vret X hM hS (hk _ hP) hr hlocks (by decide) (by decide) dX6_tick_87
  unfold f_X6_tick at hP
  refine lv_aload_n hx hb dX6_tick_0 rfl (lv_at hl 0 rfl) ?_
  refine r_geti X hM hP fl_X6_47 dX6_tick_1 (fun x1 hP => ?_)
  refine lv_if_eq (tgt := 14) hx hb dX6_tick_4 (by decide) (fun hc => ?_) (fun hc => ?_)
  · have hP := mIf_t hP hc
    refine lv_aload_n hx hb dX6_tick_14 rfl (lv_at hl 0 rfl) ?_
    refine lv_dup hx hb dX6_tick_15 rfl ?_
    refine r_getd X hM hP fl_X6_32 dX6_tick_16 (fun x2 hP => ?_)
    refine lv_aload_n hx hb dX6_tick_19 rfl (lv_at hl 0 rfl) ?_
    refine r_getr X hM hP fl_X6_3 dX6_tick_20 (fun x3 hP => ?_)
    refine r_getrN (C := RX9) (T := TX9) (N := 14) (host := "ChuteLoftModel") X hM hP rfl (by decide) in_X9 (List.mem_of_getElem? (i := 0) rfl) rfl dX6_tick_23 (fun x4 hP => ?_)
    refine lv_aload_n hx hb dX6_tick_26 rfl (lv_at hl 0 rfl) ?_
    refine r_geti X hM hP fl_X6_15 dX6_tick_27 (fun x5 hP => ?_)
    refine r_ldi X hM hP dX6_tick_30 (fun x6 hP => ?_)
    refine lv_i2d hx hb dX6_tick_31 ?_
    refine r_ldcd (v := 4602678819172646912) X kc_X6_69 dX6_tick_32 ?_
    obtain ⟨h9, hP⟩ := hP
    refine lv_dmul hx hb dX6_tick_35 h9 ?_
    obtain ⟨h9, hP⟩ := hP
    refine lv_dadd hx hb dX6_tick_36 h9 ?_
    refine r_put X hM hS hP fl_X6_32 ft_X6 rfl (tyX6_ok 4 (Nat.le_of_ble_eq_true rfl)) rfl rfl dX6_tick_37 (fun M H locs hM hS hP => ?_)
    refine lv_aload_n hx hb dX6_tick_40 rfl (lv_at hl 0 rfl) ?_
    refine lv_dup hx hb dX6_tick_41 rfl ?_
    refine r_getd X hM hP fl_X6_71 dX6_tick_42 (fun x7 hP => ?_)
    refine lv_aload_n hx hb dX6_tick_45 rfl (lv_at hl 0 rfl) ?_
    refine r_getr X hM hP fl_X6_3 dX6_tick_46 (fun x8 hP => ?_)
    refine r_getrN (C := RX9) (T := TX9) (N := 14) (host := "ChuteLoftModel") X hM hP rfl (by decide) in_X9 (List.mem_of_getElem? (i := 1) rfl) rfl dX6_tick_49 (fun x9 hP => ?_)
    refine lv_aload_n hx hb dX6_tick_52 rfl (lv_at hl 0 rfl) ?_
    refine r_geti X hM hP fl_X6_15 dX6_tick_53 (fun x10 hP => ?_)
    refine r_ldi X hM hP dX6_tick_56 (fun x11 hP => ?_)
    refine lv_i2d hx hb dX6_tick_57 ?_
    refine r_ldcd (v := 4602678819172646912) X kc_X6_69 dX6_tick_58 ?_
    obtain ⟨h9, hP⟩ := hP
    refine lv_dmul hx hb dX6_tick_61 h9 ?_
    obtain ⟨h9, hP⟩ := hP
    refine lv_dadd hx hb dX6_tick_62 h9 ?_
    refine r_put X hM hS hP fl_X6_71 ft_X6 rfl (tyX6_ok 5 (Nat.le_of_ble_eq_true rfl)) rfl rfl dX6_tick_63 (fun M H locs hM hS hP => ?_)
    exact hb66 a0 _ _ _ _ hM hS (lv_sub hl [0] rfl) hP
  · have hP := mIf_f hP hc
    refine lv_aload_n hx hb dX6_tick_7 rfl (lv_at hl 0 rfl) ?_
    refine r_callVv (rest := []) (T := TX6) (N := 13) X hM hS (ct_X6_steer hst a0) hP mV_X6_62 rfl rfl rfl hl.1 (Nat.le_of_ble_eq_true rfl) ⟨⟨by decide, by decide⟩, ⟨by decide, by decide⟩⟩ dX6_tick_8 (fun M H locs hM hS hP => ?_)
    refine lv_goto (tgt := 66) hx hb dX6_tick_11 (by decide) ?_
    exact hb66 a0 _ _ _ _ hM hS (lv_sub hl [0] rfl) hP
def f_X6_far (K : Cfg) (a0 : Nat) (k : UInt64 → Mem → Prop) : Mem → Prop :=
 mGetD a0 7 4 fun x1 =>
 mAs (vf_n64 x1) <|
 mGetD a0 7 5 fun x2 =>
 mAs (vf_n64 x2) <|
 mAs (vf_n64 (x1 &&& 0x7fffffffffffffff) ∧ vf_n64 (x2 &&& 0x7fffffffffffffff)) <|
 k (Native.java_lang_Math.nans.pick64 true (x1 &&& 0x7fffffffffffffff) (x2 &&& 0x7fffffffffffffff))
abbrev rm_X6_far : Room := { frames := 1, cells := 0, slots := 0, locals := 23 }
set_option maxHeartbeats 4000000 in
set_option maxRecDepth 100000 in
theorem ct_X6_far {K : Cfg} {l : Launch} (hst : l.stackTraces = false) (a0 : Nat) : mPd K l yX6_far cX6_far 1 (some .double) rm_X6_far [.ref a0] (f_X6_far K a0) := by
  refine mPd.of hst (by decide +kernel) (Nat.le_of_ble_eq_true rfl) ?_
  intro M k Q hk hP p e s m below meth c X hr hlocks hname hM ls hl
  have hx := X.1.1
  have hb := X.1.2.1
  have X : Cx K p l s m ([.ref a0] : List Value).toArray c cX6_far 1 RX6 := X
  have hS : va_S (mFA K) s.heap s.heap [] := va_S.rf
  have hl : lv_has ls 1 [(0, .ref a0)] := hl
  unfold f_X6_far at hP
  refine lv_aload_n hx hb dX6_far_0 rfl (lv_at hl 0 rfl) ?_
  refine r_getd X hM hP fl_X6_32 dX6_far_1 (fun x1 hP => ?_)
  obtain ⟨h9, hP⟩ := hP
  refine r_absD X ol_X6_87 nw_absD.1 nw_absD.2 iw_java_lang_Math hl.1 ⟨by decide, by decide, (⟨Nat.le_refl _, Nat.le_refl _⟩ : 0 ≤ 0 ∧ 0 ≤ 0).1, (⟨Nat.le_refl _, Nat.le_refl _⟩ : 0 ≤ 0 ∧ 0 ≤ 0).2⟩ h9 (Nat.le_of_ble_eq_true rfl) dX6_far_4 ?_
  refine lv_aload_n hx hb dX6_far_7 rfl (lv_at hl 0 rfl) ?_
  refine r_getd X hM hP fl_X6_71 dX6_far_8 (fun x2 hP => ?_)
  obtain ⟨h9, hP⟩ := hP
  refine r_absD X ol_X6_87 nw_absD.1 nw_absD.2 iw_java_lang_Math hl.1 ⟨by decide, by decide, (⟨Nat.le_refl _, Nat.le_refl _⟩ : 0 ≤ 0 ∧ 0 ≤ 0).1, (⟨Nat.le_refl _, Nat.le_refl _⟩ : 0 ≤ 0 ∧ 0 ≤ 0).2⟩ h9 (Nat.le_of_ble_eq_true rfl) dX6_far_11 ?_
  obtain ⟨h9, hP⟩ := hP
  refine r_maxD X ol_X6_101 nw_maxD.1 nw_maxD.2 iw_java_lang_Math hl.1 ⟨by decide, by decide, (⟨Nat.le_refl _, Nat.le_refl _⟩ : 0 ≤ 0 ∧ 0 ≤ 0).1, (⟨Nat.le_refl _, Nat.le_refl _⟩ : 0 ≤ 0 ∧ 0 ≤ 0).2⟩ h9 (Nat.le_of_ble_eq_true rfl) dX6_far_14 ?_
  exact e_dret X hM hS (hk _ _ hP) hr hlocks (by decide) (by decide) dX6_far_17
def f_X6_points_b31 (K : Cfg) (k : Int32 → Mem → Prop) (t0 : Int32) : Mem → Prop :=
 k t0
def f_X6_points (K : Cfg) (a0 : Nat) (k : Int32 → Mem → Prop) : Mem → Prop :=
 mRecv a0 7 <|
 f_X6_far K a0 (fun r1 =>
 mIf (0 < (Op.cmpValue (FP.dcmp r1 4617315517961601024) .g))
 (mRecv a0 7 <|
 f_X6_far K a0 (fun r2 =>
 mIf (0 < (Op.cmpValue (FP.dcmp r2 4626322717216342016) .g))
 (f_X6_points_b31 K k 0)
 (f_X6_points_b31 K k 1)))
 (f_X6_points_b31 K k 3))
abbrev rm_X6_points : Room := { frames := 2, cells := 0, slots := 0, locals := 43 }
set_option maxHeartbeats 4000000 in
set_option maxRecDepth 100000 in
theorem ct_X6_points {K : Cfg} {l : Launch} (hst : l.stackTraces = false) (a0 : Nat) : mPi K l yX6_points cX6_points 1 (some .int) rm_X6_points [.ref a0] (f_X6_points K a0) := by
  refine mPi.of hst (by decide +kernel) (Nat.le_of_ble_eq_true rfl) ?_
  intro M k Q hk hP p e s m below meth c X hr hlocks hname hM ls hl
  have hx := X.1.1
  have hb := X.1.2.1
  have X : Cx K p l s m ([.ref a0] : List Value).toArray c cX6_points 1 RX6 := X
  have hS : va_S (mFA K) s.heap s.heap [] := va_S.rf
  have hl : lv_has ls 1 [(0, .ref a0)] := hl
  have hb31 : ∀ (t0 : Int32) (M : Mem) (H : Heap) (locs : List Loc) (ls : Array Slot), mh K M H → va_S (mFA K) s.heap H locs → lv_has ls 1 [] → f_X6_points_b31 K k t0 M → W p l e rm_X6_points s m ([.ref a0] : List Value).toArray below meth c H locs 0 0 (MQ below (mQ K Q) ([.ref a0] : List Value).toArray s rm_X6_points.cells rm_X6_points.slots (mFA K)) (F0 m 31 ls [.int t0]) := by
    intro t0 M H locs ls hM hS hl hP
    unfold f_X6_points_b31 at hP
    exact e_iret X hM hS (hk _ _ hP) hr hlocks (by decide) (by decide) dX6_points_31
  unfold f_X6_points at hP
  refine lv_aload_n hx hb dX6_points_0 rfl (lv_at hl 0 rfl) ?_
  refine r_callVd (rest := []) (T := TX6) (N := 13) X hM hS (ct_X6_far hst a0) hP mV_X6_107 rfl rfl rfl hl.1 (Nat.le_of_ble_eq_true rfl) ⟨⟨by decide, by decide⟩, ⟨by decide, by decide⟩⟩ dX6_points_1 (fun r1 M H locs hM hS hP => ?_)
  refine r_ldcd (v := 4617315517961601024) X kc_X6_110 dX6_points_4 ?_
  refine lv_dcmp hx hb dX6_points_7 ?_
  refine lv_if_gt (tgt := 15) hx hb dX6_points_8 (by decide) (fun hc => ?_) (fun hc => ?_)
  · have hP := mIf_t hP hc
    refine lv_aload_n hx hb dX6_points_15 rfl (lv_at hl 0 rfl) ?_
    refine r_callVd (rest := []) (T := TX6) (N := 13) X hM hS (ct_X6_far hst a0) hP mV_X6_107 rfl rfl rfl hl.1 (Nat.le_of_ble_eq_true rfl) ⟨⟨by decide, by decide⟩, ⟨by decide, by decide⟩⟩ dX6_points_16 (fun r2 M H locs hM hS hP => ?_)
    refine r_ldcd (v := 4626322717216342016) X kc_X6_112 dX6_points_19 ?_
    refine lv_dcmp hx hb dX6_points_22 ?_
    refine lv_if_gt (tgt := 30) hx hb dX6_points_23 (by decide) (fun hc => ?_) (fun hc => ?_)
    · have hP := mIf_t hP hc
      refine lv_iconst (v := 0) hx hb dX6_points_30 (by decide) ?_
      exact hb31 0 _ _ _ _ hM hS (lv_sub hl [] rfl) hP
    · have hP := mIf_f hP hc
      refine lv_iconst (v := 1) hx hb dX6_points_26 (by decide) ?_
      refine lv_goto (tgt := 31) hx hb dX6_points_27 (by decide) ?_
      exact hb31 1 _ _ _ _ hM hS (lv_sub hl [] rfl) hP
  · have hP := mIf_f hP hc
    refine lv_iconst (v := 3) hx hb dX6_points_11 (by decide) ?_
    refine lv_goto (tgt := 31) hx hb dX6_points_12 (by decide) ?_
    exact hb31 3 _ _ _ _ hM hS (lv_sub hl [] rfl) hP
def f_X6_meets_b75 (K : Cfg) (k : Int32 → Mem → Prop) (t0 : Int32) : Mem → Prop :=
 mAs ((t0 : Int32) = 0 ∨ (t0 : Int32) = 1) <|
 k t0
def f_X6_meets_b74 (K : Cfg) (k : Int32 → Mem → Prop) : Mem → Prop :=
 f_X6_meets_b75 K k 0
def f_X6_meets (K : Cfg) (a0 : Nat) (a1 : Nat) (k : Int32 → Mem → Prop) : Mem → Prop :=
 mGetI a0 7 9 fun x1 =>
 mIf (x1 = 0)
 (f_X6_meets_b74 K k)
 (mGetI a1 7 9 fun x2 =>
 mIf (x2 = 0)
 (f_X6_meets_b74 K k)
 (mRecv a0 7 <|
 f_X6_isDown K a0 (fun r3 =>
 mIf (r3 = 0)
 (mGetI a0 7 6 fun x4 =>
 mGetI a1 7 6 fun x5 =>
 mIf (x4 = x5)
 (mGetD a0 7 4 fun x6 =>
 mGetD a1 7 4 fun x7 =>
 mAs (vf_n64 (FP.dsub x6 x7)) <|
 mAs (vf_n64 (FP.dsub x6 x7)) <|
 mIf (0 ≤ (Op.cmpValue (FP.dcmp ((FP.dsub x6 x7) &&& 0x7fffffffffffffff) 4621819117588971520) .g))
 (f_X6_meets_b74 K k)
 (mGetD a0 7 5 fun x8 =>
 mGetD a1 7 5 fun x9 =>
 mAs (vf_n64 (FP.dsub x8 x9)) <|
 mAs (vf_n64 (FP.dsub x8 x9)) <|
 mIf (0 ≤ (Op.cmpValue (FP.dcmp ((FP.dsub x8 x9) &&& 0x7fffffffffffffff) 4621819117588971520) .g))
 (f_X6_meets_b74 K k)
 (f_X6_meets_b75 K k 1)))
 (f_X6_meets_b74 K k))
 (f_X6_meets_b74 K k))))
abbrev rm_X6_meets : Room := { frames := 1, cells := 0, slots := 0, locals := 21 }
set_option maxHeartbeats 4000000 in
set_option maxRecDepth 100000 in
theorem ct_X6_meets {K : Cfg} {l : Launch} (hst : l.stackTraces = false) (a0 : Nat) (a1 : Nat) : mPi K l yX6_meets cX6_meets 2 (some .boolean) rm_X6_meets [.ref a0, .ref a1] (f_X6_meets K a0 a1) := by
  refine mPi.of hst (by decide +kernel) (Nat.le_of_ble_eq_true rfl) ?_
  intro M k Q hk hP p e s m below meth c X hr hlocks hname hM ls hl
  have hx := X.1.1
  have hb := X.1.2.1
  have X : Cx K p l s m ([.ref a0, .ref a1] : List Value).toArray c cX6_meets 2 RX6 := X
  have hS : va_S (mFA K) s.heap s.heap [] := va_S.rf
  have hl : lv_has ls 2 [(0, .ref a0), (1, .ref a1)] := hl
  have hb75 : ∀ (t0 : Int32) (M : Mem) (H : Heap) (locs : List Loc) (ls : Array Slot), mh K M H → va_S (mFA K) s.heap H locs → lv_has ls 2 [] → f_X6_meets_b75 K k t0 M → W p l e rm_X6_meets s m ([.ref a0, .ref a1] : List Value).toArray below meth c H locs 0 0 (MQ below (mQ K Q) ([.ref a0, .ref a1] : List Value).toArray s rm_X6_meets.cells rm_X6_meets.slots (mFA K)) (F0 m 75 ls [.int t0]) := by
    intro t0 M H locs ls hM hS hl hP
    unfold f_X6_meets_b75 at hP
    obtain ⟨h9, hP⟩ := hP
    exact e_zret X hM hS h9 (hk _ _ hP) hr hlocks (by decide) (by decide) dX6_meets_75
  have hb74 : ∀ (M : Mem) (H : Heap) (locs : List Loc) (ls : Array Slot), mh K M H → va_S (mFA K) s.heap H locs → lv_has ls 2 [] → f_X6_meets_b74 K k M → W p l e rm_X6_meets s m ([.ref a0, .ref a1] : List Value).toArray below meth c H locs 0 0 (MQ below (mQ K Q) ([.ref a0, .ref a1] : List Value).toArray s rm_X6_meets.cells rm_X6_meets.slots (mFA K)) (F0 m 74 ls []) := by
    intro M H locs ls hM hS hl hP
    unfold f_X6_meets_b74 at hP
    refine lv_iconst (v := 0) hx hb dX6_meets_74 (by decide) ?_
    exact hb75 0 _ _ _ _ hM hS (lv_sub hl [] rfl) hP
  unfold f_X6_meets at hP
  refine lv_aload_n hx hb dX6_meets_0 rfl (lv_at hl 0 rfl) ?_
  refine r_geti X hM hP fl_X6_47 dX6_meets_1 (fun x1 hP => ?_)
  refine lv_if_eq (tgt := 74) hx hb dX6_meets_4 (by decide) (fun hc => ?_) (fun hc => ?_)
  · have hP := mIf_t hP hc
    exact hb74 _ _ _ _ hM hS (lv_sub hl [] rfl) hP
  · have hP := mIf_f hP hc
    refine lv_aload_n hx hb dX6_meets_7 rfl (lv_at hl 1 rfl) ?_
    refine r_geti X hM hP fl_X6_47 dX6_meets_8 (fun x2 hP => ?_)
    refine lv_if_eq (tgt := 74) hx hb dX6_meets_11 (by decide) (fun hc => ?_) (fun hc => ?_)
    · have hP := mIf_t hP hc
      exact hb74 _ _ _ _ hM hS (lv_sub hl [] rfl) hP
    · have hP := mIf_f hP hc
      refine lv_aload_n hx hb dX6_meets_14 rfl (lv_at hl 0 rfl) ?_
      refine r_callVi (rest := []) (T := TX6) (N := 13) X hM hS (ct_X6_isDown hst a0) hP mV_X6_114 rfl rfl rfl hl.1 (Nat.le_of_ble_eq_true rfl) ⟨⟨by decide, by decide⟩, ⟨by decide, by decide⟩⟩ dX6_meets_15 (fun r3 M H locs hM hS hP => ?_)
      refine lv_if_ne (tgt := 74) hx hb dX6_meets_18 (by decide) (fun hc => ?_) (fun hc => ?_)
      · have hP := mIf_f hP hc
        exact hb74 _ _ _ _ hM hS (lv_sub hl [] rfl) hP
      · have hP := mIf_t hP hc
        refine lv_aload_n hx hb dX6_meets_21 rfl (lv_at hl 0 rfl) ?_
        refine r_geti X hM hP fl_X6_15 dX6_meets_22 (fun x4 hP => ?_)
        refine lv_aload_n hx hb dX6_meets_25 rfl (lv_at hl 1 rfl) ?_
        refine r_geti X hM hP fl_X6_15 dX6_meets_26 (fun x5 hP => ?_)
        refine lv_icmp_ne (tgt := 74) hx hb dX6_meets_29 (by decide) (fun hc => ?_) (fun hc => ?_)
        · have hP := mIf_f hP hc
          exact hb74 _ _ _ _ hM hS (lv_sub hl [] rfl) hP
        · have hP := mIf_t hP hc
          refine lv_aload_n hx hb dX6_meets_32 rfl (lv_at hl 0 rfl) ?_
          refine r_getd X hM hP fl_X6_32 dX6_meets_33 (fun x6 hP => ?_)
          refine lv_aload_n hx hb dX6_meets_36 rfl (lv_at hl 1 rfl) ?_
          refine r_getd X hM hP fl_X6_32 dX6_meets_37 (fun x7 hP => ?_)
          obtain ⟨h9, hP⟩ := hP
          refine lv_dsub hx hb dX6_meets_40 h9 ?_
          obtain ⟨h9, hP⟩ := hP
          refine r_absD X ol_X6_87 nw_absD.1 nw_absD.2 iw_java_lang_Math hl.1 ⟨by decide, by decide, (⟨Nat.le_refl _, Nat.le_refl _⟩ : 0 ≤ 0 ∧ 0 ≤ 0).1, (⟨Nat.le_refl _, Nat.le_refl _⟩ : 0 ≤ 0 ∧ 0 ≤ 0).2⟩ h9 (Nat.le_of_ble_eq_true rfl) dX6_meets_41 ?_
          refine r_ldcd (v := 4621819117588971520) X kc_X6_118 dX6_meets_44 ?_
          refine lv_dcmp hx hb dX6_meets_47 ?_
          refine lv_if_ge (tgt := 74) hx hb dX6_meets_48 (by decide) (fun hc => ?_) (fun hc => ?_)
          · have hP := mIf_t hP hc
            exact hb74 _ _ _ _ hM hS (lv_sub hl [] rfl) hP
          · have hP := mIf_f hP hc
            refine lv_aload_n hx hb dX6_meets_51 rfl (lv_at hl 0 rfl) ?_
            refine r_getd X hM hP fl_X6_71 dX6_meets_52 (fun x8 hP => ?_)
            refine lv_aload_n hx hb dX6_meets_55 rfl (lv_at hl 1 rfl) ?_
            refine r_getd X hM hP fl_X6_71 dX6_meets_56 (fun x9 hP => ?_)
            obtain ⟨h9, hP⟩ := hP
            refine lv_dsub hx hb dX6_meets_59 h9 ?_
            obtain ⟨h9, hP⟩ := hP
            refine r_absD X ol_X6_87 nw_absD.1 nw_absD.2 iw_java_lang_Math hl.1 ⟨by decide, by decide, (⟨Nat.le_refl _, Nat.le_refl _⟩ : 0 ≤ 0 ∧ 0 ≤ 0).1, (⟨Nat.le_refl _, Nat.le_refl _⟩ : 0 ≤ 0 ∧ 0 ≤ 0).2⟩ h9 (Nat.le_of_ble_eq_true rfl) dX6_meets_60 ?_
            refine r_ldcd (v := 4621819117588971520) X kc_X6_118 dX6_meets_63 ?_
            refine lv_dcmp hx hb dX6_meets_66 ?_
            refine lv_if_ge (tgt := 74) hx hb dX6_meets_67 (by decide) (fun hc => ?_) (fun hc => ?_)
            · have hP := mIf_t hP hc
              exact hb74 _ _ _ _ hM hS (lv_sub hl [] rfl) hP
            · have hP := mIf_f hP hc
              refine lv_iconst (v := 1) hx hb dX6_meets_70 (by decide) ?_
              refine lv_goto (tgt := 75) hx hb dX6_meets_71 (by decide) ?_
              exact hb75 1 _ _ _ _ hM hS (lv_sub hl [] rfl) hP
def f_X7_init (K : Cfg) (a0 : Nat) (a1 : Int32) (a2 : Int32) (a3 : Int32) (k : Mem → Prop) : Mem → Prop :=
 mPut a0 8 2 (.int (-1)) <|
 mPut a0 8 10 (.int (-1)) <|
 mPut a0 8 0 (.int a1) <|
 mPut a0 8 1 (.int a2) <|
 mPut a0 8 3 (.int a3) <|
 k
abbrev rm_X7_init : Room := { frames := 1, cells := 0, slots := 0, locals := 12 }
set_option maxHeartbeats 4000000 in
set_option maxRecDepth 100000 in
theorem ct_X7_init {K : Cfg} {l : Launch} (hst : l.stackTraces = false) (a0 : Nat) (a1 : Int32) (a2 : Int32) (a3 : Int32) : mPv K l yX7_init cX7_init 4 none rm_X7_init [.ref a0, .int a1, .int a2, .int a3] (f_X7_init K a0 a1 a2 a3) := by
  refine mPv.of hst (by decide +kernel) (Nat.le_of_ble_eq_true rfl) ?_
  intro M k Q hk hP p e s m below meth c X hr hlocks hname hM ls hl
  have hx := X.1.1
  have hb := X.1.2.1
  have X : Cx K p l s m ([.ref a0, .int a1, .int a2, .int a3] : List Value).toArray c cX7_init 4 RX7 := X
  have hS : va_S (mFA K) s.heap s.heap [] := va_S.rf
  have hl : lv_has ls 4 [(0, .ref a0), (1, .int a1), (2, .int a2), (3, .int a3)] := hl
  unfold f_X7_init at hP
  refine lv_aload_n hx hb dX7_init_0 rfl (lv_at hl 0 rfl) ?_
  refine r_objInit X ol_X7_3 mLA_oi mLA_oc hl.1 (by decide) (by decide) dX7_init_1 ?_
  refine lv_aload_n hx hb dX7_init_4 rfl (lv_at hl 0 rfl) ?_
  refine lv_iconst (v := (-1)) hx hb dX7_init_5 (by decide) ?_
  refine r_put X hM hS hP fl_X7_9 ft_X7 rfl (tyX7_ok 2 (Nat.le_of_ble_eq_true rfl)) rfl rfl dX7_init_6 (fun M H locs hM hS hP => ?_)
  refine lv_aload_n hx hb dX7_init_9 rfl (lv_at hl 0 rfl) ?_
  refine lv_iconst (v := (-1)) hx hb dX7_init_10 (by decide) ?_
  refine r_put X hM hS hP fl_X7_15 ft_X7 rfl (tyX7_ok 10 (Nat.le_of_ble_eq_true rfl)) rfl rfl dX7_init_11 (fun M H locs hM hS hP => ?_)
  refine lv_aload_n hx hb dX7_init_14 rfl (lv_at hl 0 rfl) ?_
  refine lv_iload_n hx hb dX7_init_15 rfl (lv_at hl 1 rfl) ?_
  refine r_putF X hM hS hP fl_X7_18 ft_X7 rfl hname rfl (tyX7_ok 0 (Nat.le_of_ble_eq_true rfl)) rfl rfl dX7_init_16 (fun M H locs hM hS hP => ?_)
  refine lv_aload_n hx hb dX7_init_19 rfl (lv_at hl 0 rfl) ?_
  refine lv_iload_n hx hb dX7_init_20 rfl (lv_at hl 2 rfl) ?_
  refine r_putF X hM hS hP fl_X7_21 ft_X7 rfl hname rfl (tyX7_ok 1 (Nat.le_of_ble_eq_true rfl)) rfl rfl dX7_init_21 (fun M H locs hM hS hP => ?_)
  refine lv_aload_n hx hb dX7_init_24 rfl (lv_at hl 0 rfl) ?_
  refine lv_iload_n hx hb dX7_init_25 rfl (lv_at hl 3 rfl) ?_
  refine r_put X hM hS hP fl_X7_24 ft_X7 rfl (tyX7_ok 3 (Nat.le_of_ble_eq_true rfl)) rfl rfl dX7_init_26 (fun M H locs hM hS hP => ?_)
  exact e_vret X hM hS (hk _ hP) hr hlocks (by decide) (by decide) dX7_init_29
def f_X8_init (K : Cfg) (a0 : Nat) (a1 : Int32) (a2 : Int32) (k : Mem → Prop) : Mem → Prop :=
 mPut a0 9 0 (.int a1) <|
 mPut a0 9 1 (.int a2) <|
 k
abbrev rm_X8_init : Room := { frames := 1, cells := 0, slots := 0, locals := 12 }
set_option maxHeartbeats 4000000 in
set_option maxRecDepth 100000 in
theorem ct_X8_init {K : Cfg} {l : Launch} (hst : l.stackTraces = false) (a0 : Nat) (a1 : Int32) (a2 : Int32) : mPv K l yX8_init cX8_init 3 none rm_X8_init [.ref a0, .int a1, .int a2] (f_X8_init K a0 a1 a2) := by
  refine mPv.of hst (by decide +kernel) (Nat.le_of_ble_eq_true rfl) ?_
  intro M k Q hk hP p e s m below meth c X hr hlocks hname hM ls hl
  have hx := X.1.1
  have hb := X.1.2.1
  have X : Cx K p l s m ([.ref a0, .int a1, .int a2] : List Value).toArray c cX8_init 3 RX8 := X
  have hS : va_S (mFA K) s.heap s.heap [] := va_S.rf
  have hl : lv_has ls 3 [(0, .ref a0), (1, .int a1), (2, .int a2)] := hl
  unfold f_X8_init at hP
  refine lv_aload_n hx hb dX8_init_0 rfl (lv_at hl 0 rfl) ?_
  refine r_objInit X ol_X8_1 mLA_oi mLA_oc hl.1 (by decide) (by decide) dX8_init_1 ?_
  refine lv_aload_n hx hb dX8_init_4 rfl (lv_at hl 0 rfl) ?_
  refine lv_iload_n hx hb dX8_init_5 rfl (lv_at hl 1 rfl) ?_
  refine r_putF X hM hS hP fl_X8_7 ft_X8 rfl hname rfl (tyX8_ok 0 (Nat.le_of_ble_eq_true rfl)) rfl rfl dX8_init_6 (fun M H locs hM hS hP => ?_)
  refine lv_aload_n hx hb dX8_init_9 rfl (lv_at hl 0 rfl) ?_
  refine lv_iload_n hx hb dX8_init_10 rfl (lv_at hl 2 rfl) ?_
  refine r_put X hM hS hP fl_X8_13 ft_X8 rfl (tyX8_ok 1 (Nat.le_of_ble_eq_true rfl)) rfl rfl dX8_init_11 (fun M H locs hM hS hP => ?_)
  exact e_vret X hM hS (hk _ hP) hr hlocks (by decide) (by decide) dX8_init_14
def f_X9_init (K : Cfg) (a0 : Nat) (k : Mem → Prop) : Mem → Prop :=
 mNew K 0 [.int 0, .null, .int 0] fun x1 =>
 f_Jx4a65c_init_da8c8 K x1 (
 mPut a0 10 1 (.ref x1) <|
 mNew K 0 [.int 0, .null, .int 0] fun x3 =>
 f_Jx4a65c_init_da8c8 K x3 (
 mPut a0 10 2 (.ref x3) <|
 mNewA K 0 (10, .inl (fun _ => 0)) fun x5 =>
 mPut a0 10 3 (.ref x5) <|
 mNewA K 0 (10, .inl (fun _ => 0)) fun x6 =>
 mPut a0 10 4 (.ref x6) <|
 mPut a0 10 6 (.int 3) <|
 k))
abbrev rm_X9_init : Room := { frames := 4, cells := 4, slots := 26, locals := 72 }
set_option maxHeartbeats 4000000 in
set_option maxRecDepth 100000 in
theorem ct_X9_init {K : Cfg} {l : Launch} (hst : l.stackTraces = false) (a0 : Nat) : mPv K l yX9_init cX9_init 1 none rm_X9_init [.ref a0] (f_X9_init K a0) := by
  refine mPv.of hst (by decide +kernel) (Nat.le_of_ble_eq_true rfl) ?_
  intro M k Q hk hP p e s m below meth c X hr hlocks hname hM ls hl
  have hx := X.1.1
  have hb := X.1.2.1
  have X : Cx K p l s m ([.ref a0] : List Value).toArray c cX9_init 1 RX9 := X
  have hS : va_S (mFA K) s.heap s.heap [] := va_S.rf
  have hl : lv_has ls 1 [(0, .ref a0)] := hl
  unfold f_X9_init at hP
  refine lv_aload_n hx hb dX9_init_0 rfl (lv_at hl 0 rfl) ?_
  refine r_objInit X ol_X9_1 mLA_oi mLA_oc hl.1 (by decide) (by decide) dX9_init_1 ?_
  refine lv_aload_n hx hb dX9_init_4 rfl (lv_at hl 0 rfl) ?_
  refine r_new X hM hS hP nl_X9_7 ft_Jx4a65c df_Jx4a65c ⟨by decide, by decide⟩ dX9_init_5 (fun x1 M H hM hS hP => ?_)
  refine lv_dup hx hb dX9_init_8 rfl ?_
  refine r_callIv (rest := [.ref x1, .ref a0]) X hM hS (ct_Jx4a65c_init_da8c8 hst x1) hP mI_X9_9 rfl rfl hl.1 (Nat.le_of_ble_eq_true rfl) ⟨⟨by decide, by decide⟩, ⟨by decide, by decide⟩⟩ dX9_init_9 (fun M H locs hM hS hP => ?_)
  refine r_putF X hM hS hP fl_X9_10 ft_X9 rfl hname rfl (tyX9_ok 1 (Nat.le_of_ble_eq_true rfl)) rfl rfl dX9_init_12 (fun M H locs hM hS hP => ?_)
  refine lv_aload_n hx hb dX9_init_15 rfl (lv_at hl 0 rfl) ?_
  refine r_new X hM hS hP nl_X9_7 ft_Jx4a65c df_Jx4a65c ⟨by decide, by decide⟩ dX9_init_16 (fun x3 M H hM hS hP => ?_)
  refine lv_dup hx hb dX9_init_19 rfl ?_
  refine r_callIv (rest := [.ref x3, .ref a0]) X hM hS (ct_Jx4a65c_init_da8c8 hst x3) hP mI_X9_9 rfl rfl hl.1 (Nat.le_of_ble_eq_true rfl) ⟨⟨by decide, by decide⟩, ⟨by decide, by decide⟩⟩ dX9_init_20 (fun M H locs hM hS hP => ?_)
  refine r_putF X hM hS hP fl_X9_16 ft_X9 rfl hname rfl (tyX9_ok 2 (Nat.le_of_ble_eq_true rfl)) rfl rfl dX9_init_23 (fun M H locs hM hS hP => ?_)
  refine lv_aload_n hx hb dX9_init_26 rfl (lv_at hl 0 rfl) ?_
  refine lv_bipush (v := 10) hx hb dX9_init_27 (by decide) ?_
  refine r_newa (t := 0) (atype := .int) (fun _ => rfl) (fun _ _ h => h) X hM hS ac_int hP (fun _ => rfl) (by decide) (by decide) (by decide) ⟨by decide, by decide⟩ dX9_init_29 (fun x5 M H hM hS hP => ?_)
  refine r_putF X hM hS hP fl_X9_19 ft_X9 rfl hname rfl (tyX9_ok 3 (Nat.le_of_ble_eq_true rfl)) rfl rfl dX9_init_31 (fun M H locs hM hS hP => ?_)
  refine lv_aload_n hx hb dX9_init_34 rfl (lv_at hl 0 rfl) ?_
  refine lv_bipush (v := 10) hx hb dX9_init_35 (by decide) ?_
  refine r_newa (t := 0) (atype := .int) (fun _ => rfl) (fun _ _ h => h) X hM hS ac_int hP (fun _ => rfl) (by decide) (by decide) (by decide) ⟨by decide, by decide⟩ dX9_init_37 (fun x6 M H hM hS hP => ?_)
  refine r_putF X hM hS hP fl_X9_23 ft_X9 rfl hname rfl (tyX9_ok 4 (Nat.le_of_ble_eq_true rfl)) rfl rfl dX9_init_39 (fun M H locs hM hS hP => ?_)
  refine lv_aload_n hx hb dX9_init_42 rfl (lv_at hl 0 rfl) ?_
  refine lv_iconst (v := 3) hx hb dX9_init_43 (by decide) ?_
  refine r_put X hM hS hP fl_X9_26 ft_X9 rfl (tyX9_ok 6 (Nat.le_of_ble_eq_true rfl)) rfl rfl dX9_init_44 (fun M H locs hM hS hP => ?_)
  exact e_vret X hM hS (hk _ hP) hr hlocks (by decide) (by decide) dX9_init_47
def f_X9_thrown (K : Cfg) (a0 : Nat) (k : Int32 → Mem → Prop) : Mem → Prop :=
 mGetI a0 10 0 fun x1 =>
 k x1
abbrev rm_X9_thrown : Room := { frames := 0, cells := 0, slots := 0, locals := 0 }
set_option maxHeartbeats 4000000 in
set_option maxRecDepth 100000 in
theorem ct_X9_thrown {K : Cfg} {l : Launch} (hst : l.stackTraces = false) (a0 : Nat) : mPi K l yX9_thrown cX9_thrown 1 (some .int) rm_X9_thrown [.ref a0] (f_X9_thrown K a0) := by
  refine mPi.of hst (by decide +kernel) (Nat.le_of_ble_eq_true rfl) ?_
  intro M k Q hk hP p e s m below meth c X hr hlocks hname hM ls hl
  have hx := X.1.1
  have hb := X.1.2.1
  have X : Cx K p l s m ([.ref a0] : List Value).toArray c cX9_thrown 1 RX9 := X
  have hS : va_S (mFA K) s.heap s.heap [] := va_S.rf
  have hl : lv_has ls 1 [(0, .ref a0)] := hl
  unfold f_X9_thrown at hP
  refine lv_aload_n hx hb dX9_thrown_0 rfl (lv_at hl 0 rfl) ?_
  refine r_geti X hM hP fl_X9_30 dX9_thrown_1 (fun x1 hP => ?_)
  exact e_iret X hM hS (hk _ _ hP) hr hlocks (by decide) (by decide) dX9_thrown_4
def f_X9_no (K : Cfg) (a0 : Nat) (a1 : Int32) (k : Int32 → Mem → Prop) : Mem → Prop :=
 mPut a0 10 0 (.int a1) <|
 k 0
abbrev rm_X9_no : Room := { frames := 0, cells := 0, slots := 0, locals := 0 }
set_option maxHeartbeats 4000000 in
set_option maxRecDepth 100000 in
theorem ct_X9_no {K : Cfg} {l : Launch} (hst : l.stackTraces = false) (a0 : Nat) (a1 : Int32) : mPi K l yX9_no cX9_no 2 (some .int) rm_X9_no [.ref a0, .int a1] (f_X9_no K a0 a1) := by
  refine mPi.of hst (by decide +kernel) (Nat.le_of_ble_eq_true rfl) ?_
  intro M k Q hk hP p e s m below meth c X hr hlocks hname hM ls hl
  have hx := X.1.1
  have hb := X.1.2.1
  have X : Cx K p l s m ([.ref a0, .int a1] : List Value).toArray c cX9_no 2 RX9 := X
  have hS : va_S (mFA K) s.heap s.heap [] := va_S.rf
  have hl : lv_has ls 2 [(0, .ref a0), (1, .int a1)] := hl
  unfold f_X9_no at hP
  refine lv_aload_n hx hb dX9_no_0 rfl (lv_at hl 0 rfl) ?_
  refine lv_iload_n hx hb dX9_no_1 rfl (lv_at hl 1 rfl) ?_
  refine r_put X hM hS hP fl_X9_30 ft_X9 rfl (tyX9_ok 0 (Nat.le_of_ble_eq_true rfl)) rfl rfl dX9_no_2 (fun M H locs hM hS hP => ?_)
  refine lv_iconst (v := 0) hx hb dX9_no_5 (by decide) ?_
  exact e_iret X hM hS (hk _ _ hP) hr hlocks (by decide) (by decide) dX9_no_6
def f_X9_in_b15 (K : Cfg) (k : Int32 → Mem → Prop) (t0 : Int32) : Mem → Prop :=
 mAs ((t0 : Int32) = 0 ∨ (t0 : Int32) = 1) <|
 k t0
def f_X9_in_b14 (K : Cfg) (k : Int32 → Mem → Prop) : Mem → Prop :=
 f_X9_in_b15 K k 0
def f_X9_in (K : Cfg) (a0 : Int32) (a1 : Int32) (a2 : Int32) (k : Int32 → Mem → Prop) : Mem → Prop :=
 mIf (a0 < a1)
 (f_X9_in_b14 K k)
 (mIf (a2 < a0)
 (f_X9_in_b14 K k)
 (f_X9_in_b15 K k 1))
abbrev rm_X9_in : Room := { frames := 0, cells := 0, slots := 0, locals := 0 }
set_option maxHeartbeats 4000000 in
set_option maxRecDepth 100000 in
theorem ct_X9_in {K : Cfg} {l : Launch} (hst : l.stackTraces = false) (a0 : Int32) (a1 : Int32) (a2 : Int32) : mPi K l yX9_in cX9_in 3 (some .boolean) rm_X9_in [.int a0, .int a1, .int a2] (f_X9_in K a0 a1 a2) := by
  refine mPi.of hst (by decide +kernel) (Nat.le_of_ble_eq_true rfl) ?_
  intro M k Q hk hP p e s m below meth c X hr hlocks hname hM ls hl
  have hx := X.1.1
  have hb := X.1.2.1
  have X : Cx K p l s m ([.int a0, .int a1, .int a2] : List Value).toArray c cX9_in 3 RX9 := X
  have hS : va_S (mFA K) s.heap s.heap [] := va_S.rf
  have hl : lv_has ls 3 [(0, .int a0), (1, .int a1), (2, .int a2)] := hl
  have hb15 : ∀ (t0 : Int32) (M : Mem) (H : Heap) (locs : List Loc) (ls : Array Slot), mh K M H → va_S (mFA K) s.heap H locs → lv_has ls 3 [] → f_X9_in_b15 K k t0 M → W p l e rm_X9_in s m ([.int a0, .int a1, .int a2] : List Value).toArray below meth c H locs 0 0 (MQ below (mQ K Q) ([.int a0, .int a1, .int a2] : List Value).toArray s rm_X9_in.cells rm_X9_in.slots (mFA K)) (F0 m 15 ls [.int t0]) := by
    intro t0 M H locs ls hM hS hl hP
    unfold f_X9_in_b15 at hP
    obtain ⟨h9, hP⟩ := hP
    exact e_zret X hM hS h9 (hk _ _ hP) hr hlocks (by decide) (by decide) dX9_in_15
  have hb14 : ∀ (M : Mem) (H : Heap) (locs : List Loc) (ls : Array Slot), mh K M H → va_S (mFA K) s.heap H locs → lv_has ls 3 [] → f_X9_in_b14 K k M → W p l e rm_X9_in s m ([.int a0, .int a1, .int a2] : List Value).toArray below meth c H locs 0 0 (MQ below (mQ K Q) ([.int a0, .int a1, .int a2] : List Value).toArray s rm_X9_in.cells rm_X9_in.slots (mFA K)) (F0 m 14 ls []) := by
    intro M H locs ls hM hS hl hP
    unfold f_X9_in_b14 at hP
    refine lv_iconst (v := 0) hx hb dX9_in_14 (by decide) ?_
    exact hb15 0 _ _ _ _ hM hS (lv_sub hl [] rfl) hP
  unfold f_X9_in at hP
  refine lv_iload_n hx hb dX9_in_0 rfl (lv_at hl 0 rfl) ?_
  refine lv_iload_n hx hb dX9_in_1 rfl (lv_at hl 1 rfl) ?_
  refine lv_icmp_lt (tgt := 14) hx hb dX9_in_2 (by decide) (fun hc => ?_) (fun hc => ?_)
  · have hP := mIf_t hP hc
    exact hb14 _ _ _ _ hM hS (lv_sub hl [] rfl) hP
  · have hP := mIf_f hP hc
    refine lv_iload_n hx hb dX9_in_5 rfl (lv_at hl 0 rfl) ?_
    refine lv_iload_n hx hb dX9_in_6 rfl (lv_at hl 2 rfl) ?_
    refine lv_icmp_gt (tgt := 14) hx hb dX9_in_7 (by decide) (fun hc => ?_) (fun hc => ?_)
    · have hP := mIf_t hP hc
      exact hb14 _ _ _ _ hM hS (lv_sub hl [] rfl) hP
    · have hP := mIf_f hP hc
      refine lv_iconst (v := 1) hx hb dX9_in_10 (by decide) ?_
      refine lv_goto (tgt := 15) hx hb dX9_in_11 (by decide) ?_
      exact hb15 1 _ _ _ _ hM hS (lv_sub hl [] rfl) hP
def f_X9_isJumper (K : Cfg) (a0 : Nat) (a1 : Int32) (k : Int32 → Mem → Prop) : Mem → Prop :=
 mGetR a0 10 1 fun x1 =>
 mRecv x1 0 <|
 f_Jx4a65c_size_8abf5 K x1 (fun r2 =>
 f_X9_in K a1 0 (r2 - 1) (fun r3 =>
 mAs ((r3 : Int32) = 0 ∨ (r3 : Int32) = 1) <|
 k r3))
abbrev rm_X9_isJumper : Room := { frames := 1, cells := 0, slots := 0, locals := 22 }
set_option maxHeartbeats 4000000 in
set_option maxRecDepth 100000 in
theorem ct_X9_isJumper {K : Cfg} {l : Launch} (hst : l.stackTraces = false) (a0 : Nat) (a1 : Int32) : mPi K l yX9_isJumper cX9_isJumper 2 (some .boolean) rm_X9_isJumper [.ref a0, .int a1] (f_X9_isJumper K a0 a1) := by
  refine mPi.of hst (by decide +kernel) (Nat.le_of_ble_eq_true rfl) ?_
  intro M k Q hk hP p e s m below meth c X hr hlocks hname hM ls hl
  have hx := X.1.1
  have hb := X.1.2.1
  have X : Cx K p l s m ([.ref a0, .int a1] : List Value).toArray c cX9_isJumper 2 RX9 := X
  have hS : va_S (mFA K) s.heap s.heap [] := va_S.rf
  have hl : lv_has ls 2 [(0, .ref a0), (1, .int a1)] := hl
  unfold f_X9_isJumper at hP
  refine lv_iload_n hx hb dX9_isJumper_0 rfl (lv_at hl 1 rfl) ?_
  refine lv_iconst (v := 0) hx hb dX9_isJumper_1 (by decide) ?_
  refine lv_aload_n hx hb dX9_isJumper_2 rfl (lv_at hl 0 rfl) ?_
  refine r_getr X hM hP fl_X9_10 dX9_isJumper_3 (fun x1 hP => ?_)
  refine r_callFi (rest := [.int 0, .int a1]) X hM hS (ct_Jx4a65c_size_8abf5 hst x1) hP mF_X9_33 rfl rfl hl.1 (Nat.le_of_ble_eq_true rfl) ⟨⟨by decide, by decide⟩, ⟨by decide, by decide⟩⟩ dX9_isJumper_6 (fun r2 M H locs hM hS hP => ?_)
  refine lv_iconst (v := 1) hx hb dX9_isJumper_11 (by decide) ?_
  refine lv_isub hx hb dX9_isJumper_12 ?_
  refine r_callSi (rest := []) X hM hS (ct_X9_in hst a1 0 (r2 - 1)) hP mS_X9_39 rfl rfl hl.1 (Nat.le_of_ble_eq_true rfl) ⟨⟨by decide, by decide⟩, ⟨by decide, by decide⟩⟩ dX9_isJumper_13 (fun r3 M H locs hM hS hP => ?_)
  obtain ⟨h9, hP⟩ := hP
  exact e_zret X hM hS h9 (hk _ _ hP) hr hlocks (by decide) (by decide) dX9_isJumper_16
def f_X9_isRig (K : Cfg) (a0 : Nat) (a1 : Int32) (k : Int32 → Mem → Prop) : Mem → Prop :=
 mGetR a0 10 2 fun x1 =>
 mRecv x1 0 <|
 f_Jx4a65c_size_8abf5 K x1 (fun r2 =>
 f_X9_in K a1 0 (r2 - 1) (fun r3 =>
 mAs ((r3 : Int32) = 0 ∨ (r3 : Int32) = 1) <|
 k r3))
abbrev rm_X9_isRig : Room := { frames := 1, cells := 0, slots := 0, locals := 22 }
set_option maxHeartbeats 4000000 in
set_option maxRecDepth 100000 in
theorem ct_X9_isRig {K : Cfg} {l : Launch} (hst : l.stackTraces = false) (a0 : Nat) (a1 : Int32) : mPi K l yX9_isRig cX9_isRig 2 (some .boolean) rm_X9_isRig [.ref a0, .int a1] (f_X9_isRig K a0 a1) := by
  refine mPi.of hst (by decide +kernel) (Nat.le_of_ble_eq_true rfl) ?_
  intro M k Q hk hP p e s m below meth c X hr hlocks hname hM ls hl
  have hx := X.1.1
  have hb := X.1.2.1
  have X : Cx K p l s m ([.ref a0, .int a1] : List Value).toArray c cX9_isRig 2 RX9 := X
  have hS : va_S (mFA K) s.heap s.heap [] := va_S.rf
  have hl : lv_has ls 2 [(0, .ref a0), (1, .int a1)] := hl
  unfold f_X9_isRig at hP
  refine lv_iload_n hx hb dX9_isRig_0 rfl (lv_at hl 1 rfl) ?_
  refine lv_iconst (v := 0) hx hb dX9_isRig_1 (by decide) ?_
  refine lv_aload_n hx hb dX9_isRig_2 rfl (lv_at hl 0 rfl) ?_
  refine r_getr X hM hP fl_X9_16 dX9_isRig_3 (fun x1 hP => ?_)
  refine r_callFi (rest := [.int 0, .int a1]) X hM hS (ct_Jx4a65c_size_8abf5 hst x1) hP mF_X9_33 rfl rfl hl.1 (Nat.le_of_ble_eq_true rfl) ⟨⟨by decide, by decide⟩, ⟨by decide, by decide⟩⟩ dX9_isRig_6 (fun r2 M H locs hM hS hP => ?_)
  refine lv_iconst (v := 1) hx hb dX9_isRig_11 (by decide) ?_
  refine lv_isub hx hb dX9_isRig_12 ?_
  refine r_callSi (rest := []) X hM hS (ct_X9_in hst a1 0 (r2 - 1)) hP mS_X9_39 rfl rfl hl.1 (Nat.le_of_ble_eq_true rfl) ⟨⟨by decide, by decide⟩, ⟨by decide, by decide⟩⟩ dX9_isRig_13 (fun r3 M H locs hM hS hP => ?_)
  obtain ⟨h9, hP⟩ := hP
  exact e_zret X hM hS h9 (hk _ _ hP) hr hlocks (by decide) (by decide) dX9_isRig_16
def f_X9_holder_b2_body (K : Cfg) (k : Int32 → Mem → Prop) (lp2 : Nat → Int32 → Int32 → Mem → Prop) (v0 : Nat) (v1 : Int32) (v2 : Int32) : Mem → Prop :=
 mGetR v0 10 1 fun x1 =>
 mRecv x1 0 <|
 f_Jx4a65c_size_8abf5 K x1 (fun r2 =>
 mIf (r2 ≤ v2)
 (k (-1))
 (mGetR v0 10 1 fun x3 =>
 mRecv x3 0 <|
 f_Jx4a65c_get_915e3 K x3 v2 (fun r4 =>
 mRecv r4 8 <|
 mGetI r4 8 2 fun x5 =>
 mIf (x5 = v1)
 (k v2)
 (lp2 v0 v1 (v2 + 1)))))
def f_X9_holder_b2 (K : Cfg) (k : Int32 → Mem → Prop) : Nat → Nat → Int32 → Int32 → Mem → Prop
  | 0 => fun _ _ _ _ => False
  | n + 1 => f_X9_holder_b2_body K k (f_X9_holder_b2 K k n)
def f_X9_holder (K : Cfg) (a0 : Nat) (a1 : Int32) (k : Int32 → Mem → Prop) : Mem → Prop :=
 f_X9_holder_b2 K k mFuel a0 a1 0
abbrev rm_X9_holder : Room := { frames := 3, cells := 0, slots := 0, locals := 64 }
set_option maxHeartbeats 4000000 in
set_option maxRecDepth 100000 in
theorem ct_X9_holder {K : Cfg} {l : Launch} (hst : l.stackTraces = false) (a0 : Nat) (a1 : Int32) : mPi K l yX9_holder cX9_holder 3 (some .int) rm_X9_holder [.ref a0, .int a1] (f_X9_holder K a0 a1) := by
  refine mPi.of hst (by decide +kernel) (Nat.le_of_ble_eq_true rfl) ?_
  intro M k Q hk hP p e s m below meth c X hr hlocks hname hM ls hl
  have hx := X.1.1
  have hb := X.1.2.1
  have X : Cx K p l s m ([.ref a0, .int a1] : List Value).toArray c cX9_holder 3 RX9 := X
  have hS : va_S (mFA K) s.heap s.heap [] := va_S.rf
  have hl : lv_has ls 3 [(0, .ref a0), (1, .int a1)] := hl
  have hb2 : ∀ (n2 : Nat) (v0 : Nat) (v1 : Int32) (v2 : Int32) (M : Mem) (H : Heap) (locs : List Loc) (ls : Array Slot), mh K M H → va_S (mFA K) s.heap H locs → lv_has ls 3 [(0, .ref v0), (1, .int v1), (2, .int v2)] → f_X9_holder_b2 K k n2 v0 v1 v2 M → W p l e rm_X9_holder s m ([.ref a0, .int a1] : List Value).toArray below meth c H locs 0 0 (MQ below (mQ K Q) ([.ref a0, .int a1] : List Value).toArray s rm_X9_holder.cells rm_X9_holder.slots (mFA K)) (F0 m 2 ls []) := by
    intro n2
    induction n2 with
    | zero =>
      intro v0 v1 v2 M H locs ls hM hS hl hP
      exact hP.elim
    | succ n2 ih2 =>
      intro v0 v1 v2 M H locs ls hM hS hl hP
      have hP : f_X9_holder_b2_body K k (f_X9_holder_b2 K k n2) v0 v1 v2 M := hP
      unfold f_X9_holder_b2_body at hP
      refine lv_iload_n hx hb dX9_holder_2 rfl (lv_at hl 2 rfl) ?_
      refine lv_aload_n hx hb dX9_holder_3 rfl (lv_at hl 0 rfl) ?_
      refine r_getr X hM hP fl_X9_10 dX9_holder_4 (fun x1 hP => ?_)
      refine r_callFi (rest := [.int v2]) X hM hS (ct_Jx4a65c_size_8abf5 hst x1) hP mF_X9_33 rfl rfl hl.1 (Nat.le_of_ble_eq_true rfl) ⟨⟨by decide, by decide⟩, ⟨by decide, by decide⟩⟩ dX9_holder_7 (fun r2 M H locs hM hS hP => ?_)
      refine lv_icmp_ge (tgt := 43) hx hb dX9_holder_12 (by decide) (fun hc => ?_) (fun hc => ?_)
      · have hP := mIf_t hP hc
        refine lv_iconst (v := (-1)) hx hb dX9_holder_43 (by decide) ?_
        exact e_iret X hM hS (hk _ _ hP) hr hlocks (by decide) (by decide) dX9_holder_44
      · have hP := mIf_f hP hc
        refine lv_aload_n hx hb dX9_holder_15 rfl (lv_at hl 0 rfl) ?_
        refine r_getr X hM hP fl_X9_10 dX9_holder_16 (fun x3 hP => ?_)
        refine lv_iload_n hx hb dX9_holder_19 rfl (lv_at hl 2 rfl) ?_
        refine r_callFr (rest := []) X hM hS (ct_Jx4a65c_get_915e3 hst x3 v2) hP mF_X9_57 rfl rfl hl.1 (Nat.le_of_ble_eq_true rfl) ⟨⟨by decide, by decide⟩, ⟨by decide, by decide⟩⟩ dX9_holder_20 (fun r4 M H locs hM hS hP => ?_)
        refine r_cast (C := RX7) (T := TX7) (N := 12) X hM hP rfl al_X9_44 dX9_holder_25 (fun hP => ?_)
        refine r_geti X hM hP fl_X9_54 dX9_holder_28 (fun x5 hP => ?_)
        refine lv_iload_n hx hb dX9_holder_31 rfl (lv_at hl 1 rfl) ?_
        refine lv_icmp_ne (tgt := 37) hx hb dX9_holder_32 (by decide) (fun hc => ?_) (fun hc => ?_)
        · have hP := mIf_f hP hc
          refine lv_iinc (v := v2 + 1) (lv' := [(2, .int (v2 + 1)), (0, .ref v0), (1, .int v1)]) hx hb dX9_holder_37 hl (k := 2) rfl rfl (by decide) rfl (fun ls hl => ?_)
          refine lv_goto (tgt := 2) hx hb dX9_holder_40 (by decide) ?_
          exact ih2 v0 v1 (v2 + 1) _ _ _ _ hM hS (lv_sub hl [1, 2, 0] rfl) hP
        · have hP := mIf_t hP hc
          refine lv_iload_n hx hb dX9_holder_35 rfl (lv_at hl 2 rfl) ?_
          exact e_iret X hM hS (hk _ _ hP) hr hlocks (by decide) (by decide) dX9_holder_36
  unfold f_X9_holder at hP
  refine lv_iconst (v := 0) hx hb dX9_holder_0 (by decide) ?_
  refine lv_istore_n (lv' := [(2, .int 0), (0, .ref a0), (1, .int a1)]) hx hb dX9_holder_1 rfl hl (by decide) rfl (fun ls hl => ?_)
  exact hb2 mFuel a0 a1 0 _ _ _ _ hM hS (lv_sub hl [1, 2, 0] rfl) hP
def f_X9_aboard_b43 (K : Cfg) (k : Int32 → Mem → Prop) (lp4 : Nat → Int32 → Int32 → Mem → Prop) (v0 : Nat) (v2 : Int32) (t0 : Int32) (t1 : Int32) : Mem → Prop :=
 lp4 v0 (t0 + t1) (v2 + 1)
def f_X9_aboard_b4_body (K : Cfg) (k : Int32 → Mem → Prop) (lp4 : Nat → Int32 → Int32 → Mem → Prop) (v0 : Nat) (v1 : Int32) (v2 : Int32) : Mem → Prop :=
 mGetR v0 10 1 fun x1 =>
 mRecv x1 0 <|
 f_Jx4a65c_size_8abf5 K x1 (fun r2 =>
 mIf (r2 ≤ v2)
 (k v1)
 (mGetR v0 10 1 fun x3 =>
 mRecv x3 0 <|
 f_Jx4a65c_get_915e3 K x3 v2 (fun r4 =>
 mRecv r4 8 <|
 mGetI r4 8 10 fun x5 =>
 mIf (x5 = (-1))
 (f_X9_aboard_b43 K k lp4 v0 v2 v1 0)
 (f_X9_aboard_b43 K k lp4 v0 v2 v1 1))))
def f_X9_aboard_b4 (K : Cfg) (k : Int32 → Mem → Prop) : Nat → Nat → Int32 → Int32 → Mem → Prop
  | 0 => fun _ _ _ _ => False
  | n + 1 => f_X9_aboard_b4_body K k (f_X9_aboard_b4 K k n)
def f_X9_aboard (K : Cfg) (a0 : Nat) (k : Int32 → Mem → Prop) : Mem → Prop :=
 f_X9_aboard_b4 K k mFuel a0 0 0
abbrev rm_X9_aboard : Room := { frames := 3, cells := 0, slots := 0, locals := 64 }
set_option maxHeartbeats 4000000 in
set_option maxRecDepth 100000 in
theorem ct_X9_aboard {K : Cfg} {l : Launch} (hst : l.stackTraces = false) (a0 : Nat) : mPi K l yX9_aboard cX9_aboard 3 (some .int) rm_X9_aboard [.ref a0] (f_X9_aboard K a0) := by
  refine mPi.of hst (by decide +kernel) (Nat.le_of_ble_eq_true rfl) ?_
  intro M k Q hk hP p e s m below meth c X hr hlocks hname hM ls hl
  have hx := X.1.1
  have hb := X.1.2.1
  have X : Cx K p l s m ([.ref a0] : List Value).toArray c cX9_aboard 3 RX9 := X
  have hS : va_S (mFA K) s.heap s.heap [] := va_S.rf
  have hl : lv_has ls 3 [(0, .ref a0)] := hl
  have hb4 : ∀ (n4 : Nat) (v0 : Nat) (v1 : Int32) (v2 : Int32) (M : Mem) (H : Heap) (locs : List Loc) (ls : Array Slot), mh K M H → va_S (mFA K) s.heap H locs → lv_has ls 3 [(0, .ref v0), (1, .int v1), (2, .int v2)] → f_X9_aboard_b4 K k n4 v0 v1 v2 M → W p l e rm_X9_aboard s m ([.ref a0] : List Value).toArray below meth c H locs 0 0 (MQ below (mQ K Q) ([.ref a0] : List Value).toArray s rm_X9_aboard.cells rm_X9_aboard.slots (mFA K)) (F0 m 4 ls []) := by
    intro n4
    induction n4 with
    | zero =>
      intro v0 v1 v2 M H locs ls hM hS hl hP
      exact hP.elim
    | succ n4 ih4 =>
      have hb43 : ∀ (v0 : Nat) (v2 : Int32) (t0 : Int32) (t1 : Int32) (M : Mem) (H : Heap) (locs : List Loc) (ls : Array Slot), mh K M H → va_S (mFA K) s.heap H locs → lv_has ls 3 [(0, .ref v0), (2, .int v2)] → f_X9_aboard_b43 K k (f_X9_aboard_b4 K k n4) v0 v2 t0 t1 M → W p l e rm_X9_aboard s m ([.ref a0] : List Value).toArray below meth c H locs 0 0 (MQ below (mQ K Q) ([.ref a0] : List Value).toArray s rm_X9_aboard.cells rm_X9_aboard.slots (mFA K)) (F0 m 43 ls [.int t1, .int t0]) := by
        intro v0 v2 t0 t1 M H locs ls hM hS hl hP
        unfold f_X9_aboard_b43 at hP
        refine lv_iadd hx hb dX9_aboard_43 ?_
        refine lv_istore_n (lv' := [(1, .int (t0 + t1)), (0, .ref v0), (2, .int v2)]) hx hb dX9_aboard_44 rfl hl (by decide) rfl (fun ls hl => ?_)
        refine lv_iinc (v := v2 + 1) (lv' := [(2, .int (v2 + 1)), (1, .int (t0 + t1)), (0, .ref v0)]) hx hb dX9_aboard_45 hl (k := 2) rfl rfl (by decide) rfl (fun ls hl => ?_)
        refine lv_goto (tgt := 4) hx hb dX9_aboard_48 (by decide) ?_
        exact ih4 v0 (t0 + t1) (v2 + 1) _ _ _ _ hM hS (lv_sub hl [2, 1, 0] rfl) hP
      intro v0 v1 v2 M H locs ls hM hS hl hP
      have hP : f_X9_aboard_b4_body K k (f_X9_aboard_b4 K k n4) v0 v1 v2 M := hP
      unfold f_X9_aboard_b4_body at hP
      refine lv_iload_n hx hb dX9_aboard_4 rfl (lv_at hl 2 rfl) ?_
      refine lv_aload_n hx hb dX9_aboard_5 rfl (lv_at hl 0 rfl) ?_
      refine r_getr X hM hP fl_X9_10 dX9_aboard_6 (fun x1 hP => ?_)
      refine r_callFi (rest := [.int v2]) X hM hS (ct_Jx4a65c_size_8abf5 hst x1) hP mF_X9_33 rfl rfl hl.1 (Nat.le_of_ble_eq_true rfl) ⟨⟨by decide, by decide⟩, ⟨by decide, by decide⟩⟩ dX9_aboard_9 (fun r2 M H locs hM hS hP => ?_)
      refine lv_icmp_ge (tgt := 51) hx hb dX9_aboard_14 (by decide) (fun hc => ?_) (fun hc => ?_)
      · have hP := mIf_t hP hc
        refine lv_iload_n hx hb dX9_aboard_51 rfl (lv_at hl 1 rfl) ?_
        exact e_iret X hM hS (hk _ _ hP) hr hlocks (by decide) (by decide) dX9_aboard_52
      · have hP := mIf_f hP hc
        refine lv_iload_n hx hb dX9_aboard_17 rfl (lv_at hl 1 rfl) ?_
        refine lv_aload_n hx hb dX9_aboard_18 rfl (lv_at hl 0 rfl) ?_
        refine r_getr X hM hP fl_X9_10 dX9_aboard_19 (fun x3 hP => ?_)
        refine lv_iload_n hx hb dX9_aboard_22 rfl (lv_at hl 2 rfl) ?_
        refine r_callFr (rest := [.int v1]) X hM hS (ct_Jx4a65c_get_915e3 hst x3 v2) hP mF_X9_57 rfl rfl hl.1 (Nat.le_of_ble_eq_true rfl) ⟨⟨by decide, by decide⟩, ⟨by decide, by decide⟩⟩ dX9_aboard_23 (fun r4 M H locs hM hS hP => ?_)
        refine r_cast (C := RX7) (T := TX7) (N := 12) X hM hP rfl al_X9_44 dX9_aboard_28 (fun hP => ?_)
        refine r_geti X hM hP fl_X9_65 dX9_aboard_31 (fun x5 hP => ?_)
        refine lv_iconst (v := (-1)) hx hb dX9_aboard_34 (by decide) ?_
        refine lv_icmp_ne (tgt := 42) hx hb dX9_aboard_35 (by decide) (fun hc => ?_) (fun hc => ?_)
        · have hP := mIf_f hP hc
          refine lv_iconst (v := 1) hx hb dX9_aboard_42 (by decide) ?_
          exact hb43 v0 v2 v1 1 _ _ _ _ hM hS (lv_sub hl [0, 2] rfl) hP
        · have hP := mIf_t hP hc
          refine lv_iconst (v := 0) hx hb dX9_aboard_38 (by decide) ?_
          refine lv_goto (tgt := 43) hx hb dX9_aboard_39 (by decide) ?_
          exact hb43 v0 v2 v1 0 _ _ _ _ hM hS (lv_sub hl [0, 2] rfl) hP
  unfold f_X9_aboard at hP
  refine lv_iconst (v := 0) hx hb dX9_aboard_0 (by decide) ?_
  refine lv_istore_n (lv' := [(1, .int 0), (0, .ref a0)]) hx hb dX9_aboard_1 rfl hl (by decide) rfl (fun ls hl => ?_)
  refine lv_iconst (v := 0) hx hb dX9_aboard_2 (by decide) ?_
  refine lv_istore_n (lv' := [(2, .int 0), (1, .int 0), (0, .ref a0)]) hx hb dX9_aboard_3 rfl hl (by decide) rfl (fun ls hl => ?_)
  exact hb4 mFuel a0 0 0 _ _ _ _ hM hS (lv_sub hl [2, 1, 0] rfl) hP
def f_X9_ground (K : Cfg) (a0 : Nat) (k : Int32 → Mem → Prop) : Mem → Prop :=
 mGetR a0 10 3 fun x1 =>
 mLdI K x1 0 fun x2 =>
 f_J9_abs_0f7a4 K x2 (fun r3 =>
 mGetR a0 10 4 fun x4 =>
 mLdI K x4 0 fun x5 =>
 f_J9_abs_0f7a4 K x5 (fun r6 =>
 k (r3 + r6)))
abbrev rm_X9_ground : Room := { frames := 1, cells := 0, slots := 0, locals := 20 }
set_option maxHeartbeats 4000000 in
set_option maxRecDepth 100000 in
theorem ct_X9_ground {K : Cfg} {l : Launch} (hst : l.stackTraces = false) (a0 : Nat) : mPi K l yX9_ground cX9_ground 1 (some .int) rm_X9_ground [.ref a0] (f_X9_ground K a0) := by
  refine mPi.of hst (by decide +kernel) (Nat.le_of_ble_eq_true rfl) ?_
  intro M k Q hk hP p e s m below meth c X hr hlocks hname hM ls hl
  have hx := X.1.1
  have hb := X.1.2.1
  have X : Cx K p l s m ([.ref a0] : List Value).toArray c cX9_ground 1 RX9 := X
  have hS : va_S (mFA K) s.heap s.heap [] := va_S.rf
  have hl : lv_has ls 1 [(0, .ref a0)] := hl
  unfold f_X9_ground at hP
  refine lv_aload_n hx hb dX9_ground_0 rfl (lv_at hl 0 rfl) ?_
  refine r_getr X hM hP fl_X9_19 dX9_ground_1 (fun x1 hP => ?_)
  refine lv_iconst (v := 0) hx hb dX9_ground_4 (by decide) ?_
  refine r_ldi X hM hP dX9_ground_5 (fun x2 hP => ?_)
  refine r_callSi (rest := []) X hM hS (ct_J9_abs_0f7a4 hst x2) hP mS_X9_68 rfl rfl hl.1 (Nat.le_of_ble_eq_true rfl) ⟨⟨by decide, by decide⟩, ⟨by decide, by decide⟩⟩ dX9_ground_6 (fun r3 M H locs hM hS hP => ?_)
  refine lv_aload_n hx hb dX9_ground_9 rfl (lv_at hl 0 rfl) ?_
  refine r_getr X hM hP fl_X9_23 dX9_ground_10 (fun x4 hP => ?_)
  refine lv_iconst (v := 0) hx hb dX9_ground_13 (by decide) ?_
  refine r_ldi X hM hP dX9_ground_14 (fun x5 hP => ?_)
  refine r_callSi (rest := [.int r3]) X hM hS (ct_J9_abs_0f7a4 hst x5) hP mS_X9_68 rfl rfl hl.1 (Nat.le_of_ble_eq_true rfl) ⟨⟨by decide, by decide⟩, ⟨by decide, by decide⟩⟩ dX9_ground_15 (fun r6 M H locs hM hS hP => ?_)
  refine lv_iadd hx hb dX9_ground_18 ?_
  exact e_iret X hM hS (hk _ _ hP) hr hlocks (by decide) (by decide) dX9_ground_19
def f_X9_isAhead_b140 (K : Cfg) (k : Int32 → Mem → Prop) (t0 : Int32) : Mem → Prop :=
 mAs ((t0 : Int32) = 0 ∨ (t0 : Int32) = 1) <|
 k t0
def f_X9_isAhead_b139 (K : Cfg) (k : Int32 → Mem → Prop) : Mem → Prop :=
 f_X9_isAhead_b140 K k 0
def f_X9_isAhead_b135 (K : Cfg) (k : Int32 → Mem → Prop) : Mem → Prop :=
 f_X9_isAhead_b140 K k 1
def f_X9_isAhead_b99 (K : Cfg) (k : Int32 → Mem → Prop) (t0 : Int32) : Mem → Prop :=
 mAs ((t0 : Int32) = 0 ∨ (t0 : Int32) = 1) <|
 k t0
def f_X9_isAhead_b69 (K : Cfg) (k : Int32 → Mem → Prop) (t0 : Int32) : Mem → Prop :=
 mAs ((t0 : Int32) = 0 ∨ (t0 : Int32) = 1) <|
 k t0
def f_X9_isAhead_b54 (K : Cfg) (k : Int32 → Mem → Prop) (v0 : Nat) (v1 : Int32) (v2 : Int32) (v3 : Nat) (v4 : Nat) (t0 : Int32) (t1 : Int32) : Mem → Prop :=
 mIf (t0 = t1)
 (mGetI v3 8 10 fun x1 =>
 mGetI v4 8 10 fun x2 =>
 mIf (x1 = x2)
 (mRecv v0 10 <|
 f_X9_loading_ K v0 v3 (fun r3 =>
 mRecv v0 10 <|
 f_X9_loading_ K v0 v4 (fun r4 =>
 mIf (0 < (Op.cmpValue (FP.fcmp r3 r4) .l))
 (f_X9_isAhead_b135 K k)
 (mRecv v0 10 <|
 f_X9_loading_ K v0 v3 (fun r5 =>
 mRecv v0 10 <|
 f_X9_loading_ K v0 v4 (fun r6 =>
 mIf ((Op.cmpValue (FP.fcmp r5 r6) .l) = 0)
 (mIf (v2 ≤ v1)
 (f_X9_isAhead_b139 K k)
 (f_X9_isAhead_b135 K k))
 (f_X9_isAhead_b139 K k)))))))
 (mGetI v3 8 10 fun x7 =>
 mGetI v4 8 10 fun x8 =>
 mIf (x8 ≤ x7)
 (f_X9_isAhead_b99 K k 0)
 (f_X9_isAhead_b99 K k 1)))
 (mGetI v3 8 1 fun x9 =>
 mIf (x9 ≤ 0)
 (f_X9_isAhead_b69 K k 0)
 (f_X9_isAhead_b69 K k 1))
def f_X9_isAhead_b41 (K : Cfg) (k : Int32 → Mem → Prop) (v0 : Nat) (v1 : Int32) (v2 : Int32) (v3 : Nat) (v4 : Nat) (t0 : Int32) : Mem → Prop :=
 mGetI v4 8 1 fun x1 =>
 mIf (x1 ≤ 0)
 (f_X9_isAhead_b54 K k v0 v1 v2 v3 v4 t0 0)
 (f_X9_isAhead_b54 K k v0 v1 v2 v3 v4 t0 1)
def f_X9_isAhead (K : Cfg) (a0 : Nat) (a1 : Int32) (a2 : Int32) (k : Int32 → Mem → Prop) : Mem → Prop :=
 mGetR a0 10 1 fun x1 =>
 mRecv x1 0 <|
 f_Jx4a65c_get_915e3 K x1 a1 (fun r2 =>
 mRecv r2 8 <|
 mGetR a0 10 1 fun x3 =>
 mRecv x3 0 <|
 f_Jx4a65c_get_915e3 K x3 a2 (fun r4 =>
 mRecv r4 8 <|
 mGetI r2 8 1 fun x5 =>
 mIf (x5 ≤ 0)
 (f_X9_isAhead_b41 K k a0 a1 a2 r2 r4 0)
 (f_X9_isAhead_b41 K k a0 a1 a2 r2 r4 1)))
abbrev rm_X9_isAhead : Room := { frames := 4, cells := 0, slots := 0, locals := 85 }
set_option maxHeartbeats 4000000 in
set_option maxRecDepth 100000 in
theorem ct_X9_isAhead {K : Cfg} {l : Launch} (hst : l.stackTraces = false) (a0 : Nat) (a1 : Int32) (a2 : Int32) : mPi K l yX9_isAhead cX9_isAhead 5 (some .boolean) rm_X9_isAhead [.ref a0, .int a1, .int a2] (f_X9_isAhead K a0 a1 a2) := by
  refine mPi.of hst (by decide +kernel) (Nat.le_of_ble_eq_true rfl) ?_
  intro M k Q hk hP p e s m below meth c X hr hlocks hname hM ls hl
  have hx := X.1.1
  have hb := X.1.2.1
  have X : Cx K p l s m ([.ref a0, .int a1, .int a2] : List Value).toArray c cX9_isAhead 5 RX9 := X
  have hS : va_S (mFA K) s.heap s.heap [] := va_S.rf
  have hl : lv_has ls 5 [(0, .ref a0), (1, .int a1), (2, .int a2)] := hl
  have hb140 : ∀ (t0 : Int32) (M : Mem) (H : Heap) (locs : List Loc) (ls : Array Slot), mh K M H → va_S (mFA K) s.heap H locs → lv_has ls 5 [] → f_X9_isAhead_b140 K k t0 M → W p l e rm_X9_isAhead s m ([.ref a0, .int a1, .int a2] : List Value).toArray below meth c H locs 0 0 (MQ below (mQ K Q) ([.ref a0, .int a1, .int a2] : List Value).toArray s rm_X9_isAhead.cells rm_X9_isAhead.slots (mFA K)) (F0 m 140 ls [.int t0]) := by
    intro t0 M H locs ls hM hS hl hP
    unfold f_X9_isAhead_b140 at hP
    obtain ⟨h9, hP⟩ := hP
    exact e_zret X hM hS h9 (hk _ _ hP) hr hlocks (by decide) (by decide) dX9_isAhead_140
  have hb139 : ∀ (M : Mem) (H : Heap) (locs : List Loc) (ls : Array Slot), mh K M H → va_S (mFA K) s.heap H locs → lv_has ls 5 [] → f_X9_isAhead_b139 K k M → W p l e rm_X9_isAhead s m ([.ref a0, .int a1, .int a2] : List Value).toArray below meth c H locs 0 0 (MQ below (mQ K Q) ([.ref a0, .int a1, .int a2] : List Value).toArray s rm_X9_isAhead.cells rm_X9_isAhead.slots (mFA K)) (F0 m 139 ls []) := by
    intro M H locs ls hM hS hl hP
    unfold f_X9_isAhead_b139 at hP
    refine lv_iconst (v := 0) hx hb dX9_isAhead_139 (by decide) ?_
    exact hb140 0 _ _ _ _ hM hS (lv_sub hl [] rfl) hP
  have hb135 : ∀ (M : Mem) (H : Heap) (locs : List Loc) (ls : Array Slot), mh K M H → va_S (mFA K) s.heap H locs → lv_has ls 5 [] → f_X9_isAhead_b135 K k M → W p l e rm_X9_isAhead s m ([.ref a0, .int a1, .int a2] : List Value).toArray below meth c H locs 0 0 (MQ below (mQ K Q) ([.ref a0, .int a1, .int a2] : List Value).toArray s rm_X9_isAhead.cells rm_X9_isAhead.slots (mFA K)) (F0 m 135 ls []) := by
    intro M H locs ls hM hS hl hP
    unfold f_X9_isAhead_b135 at hP
    refine lv_iconst (v := 1) hx hb dX9_isAhead_135 (by decide) ?_
    refine lv_goto (tgt := 140) hx hb dX9_isAhead_136 (by decide) ?_
    exact hb140 1 _ _ _ _ hM hS (lv_sub hl [] rfl) hP
  have hb99 : ∀ (t0 : Int32) (M : Mem) (H : Heap) (locs : List Loc) (ls : Array Slot), mh K M H → va_S (mFA K) s.heap H locs → lv_has ls 5 [] → f_X9_isAhead_b99 K k t0 M → W p l e rm_X9_isAhead s m ([.ref a0, .int a1, .int a2] : List Value).toArray below meth c H locs 0 0 (MQ below (mQ K Q) ([.ref a0, .int a1, .int a2] : List Value).toArray s rm_X9_isAhead.cells rm_X9_isAhead.slots (mFA K)) (F0 m 99 ls [.int t0]) := by
    intro t0 M H locs ls hM hS hl hP
    unfold f_X9_isAhead_b99 at hP
    obtain ⟨h9, hP⟩ := hP
    exact e_zret X hM hS h9 (hk _ _ hP) hr hlocks (by decide) (by decide) dX9_isAhead_99
  have hb69 : ∀ (t0 : Int32) (M : Mem) (H : Heap) (locs : List Loc) (ls : Array Slot), mh K M H → va_S (mFA K) s.heap H locs → lv_has ls 5 [] → f_X9_isAhead_b69 K k t0 M → W p l e rm_X9_isAhead s m ([.ref a0, .int a1, .int a2] : List Value).toArray below meth c H locs 0 0 (MQ below (mQ K Q) ([.ref a0, .int a1, .int a2] : List Value).toArray s rm_X9_isAhead.cells rm_X9_isAhead.slots (mFA K)) (F0 m 69 ls [.int t0]) := by
    intro t0 M H locs ls hM hS hl hP
    unfold f_X9_isAhead_b69 at hP
    obtain ⟨h9, hP⟩ := hP
    exact e_zret X hM hS h9 (hk _ _ hP) hr hlocks (by decide) (by decide) dX9_isAhead_69
  have hb54 : ∀ (v0 : Nat) (v1 : Int32) (v2 : Int32) (v3 : Nat) (v4 : Nat) (t0 : Int32) (t1 : Int32) (M : Mem) (H : Heap) (locs : List Loc) (ls : Array Slot), mh K M H → va_S (mFA K) s.heap H locs → lv_has ls 5 [(0, .ref v0), (1, .int v1), (2, .int v2), (3, .ref v3), (4, .ref v4)] → f_X9_isAhead_b54 K k v0 v1 v2 v3 v4 t0 t1 M → W p l e rm_X9_isAhead s m ([.ref a0, .int a1, .int a2] : List Value).toArray below meth c H locs 0 0 (MQ below (mQ K Q) ([.ref a0, .int a1, .int a2] : List Value).toArray s rm_X9_isAhead.cells rm_X9_isAhead.slots (mFA K)) (F0 m 54 ls [.int t1, .int t0]) := by
    intro v0 v1 v2 v3 v4 t0 t1 M H locs ls hM hS hl hP
    unfold f_X9_isAhead_b54 at hP
    refine lv_icmp_eq (tgt := 70) hx hb dX9_isAhead_54 (by decide) (fun hc => ?_) (fun hc => ?_)
    · have hP := mIf_t hP hc
      refine lv_aload_n hx hb dX9_isAhead_70 rfl (lv_at hl 3 rfl) ?_
      refine r_geti X hM hP fl_X9_65 dX9_isAhead_71 (fun x1 hP => ?_)
      refine lv_aload hx hb dX9_isAhead_74 (lv_at hl 4 rfl) ?_
      refine r_geti X hM hP fl_X9_65 dX9_isAhead_76 (fun x2 hP => ?_)
      refine lv_icmp_eq (tgt := 100) hx hb dX9_isAhead_79 (by decide) (fun hc => ?_) (fun hc => ?_)
      · have hP := mIf_t hP hc
        refine lv_aload_n hx hb dX9_isAhead_100 rfl (lv_at hl 0 rfl) ?_
        refine lv_aload_n hx hb dX9_isAhead_101 rfl (lv_at hl 3 rfl) ?_
        refine r_callVf (rest := []) (T := TX9) (N := 14) X hM hS (ct_X9_loading_ hst v0 v3) hP mV_X9_77 rfl rfl rfl hl.1 (Nat.le_of_ble_eq_true rfl) ⟨⟨by decide, by decide⟩, ⟨by decide, by decide⟩⟩ dX9_isAhead_102 (fun r3 M H locs hM hS hP => ?_)
        refine lv_aload_n hx hb dX9_isAhead_105 rfl (lv_at hl 0 rfl) ?_
        refine lv_aload hx hb dX9_isAhead_106 (lv_at hl 4 rfl) ?_
        refine r_callVf (rest := [.float r3]) (T := TX9) (N := 14) X hM hS (ct_X9_loading_ hst v0 v4) hP mV_X9_77 rfl rfl rfl hl.1 (Nat.le_of_ble_eq_true rfl) ⟨⟨by decide, by decide⟩, ⟨by decide, by decide⟩⟩ dX9_isAhead_108 (fun r4 M H locs hM hS hP => ?_)
        refine lv_fcmp hx hb dX9_isAhead_111 ?_
        refine lv_if_gt (tgt := 135) hx hb dX9_isAhead_112 (by decide) (fun hc => ?_) (fun hc => ?_)
        · have hP := mIf_t hP hc
          exact hb135 _ _ _ _ hM hS (lv_sub hl [] rfl) hP
        · have hP := mIf_f hP hc
          refine lv_aload_n hx hb dX9_isAhead_115 rfl (lv_at hl 0 rfl) ?_
          refine lv_aload_n hx hb dX9_isAhead_116 rfl (lv_at hl 3 rfl) ?_
          refine r_callVf (rest := []) (T := TX9) (N := 14) X hM hS (ct_X9_loading_ hst v0 v3) hP mV_X9_77 rfl rfl rfl hl.1 (Nat.le_of_ble_eq_true rfl) ⟨⟨by decide, by decide⟩, ⟨by decide, by decide⟩⟩ dX9_isAhead_117 (fun r5 M H locs hM hS hP => ?_)
          refine lv_aload_n hx hb dX9_isAhead_120 rfl (lv_at hl 0 rfl) ?_
          refine lv_aload hx hb dX9_isAhead_121 (lv_at hl 4 rfl) ?_
          refine r_callVf (rest := [.float r5]) (T := TX9) (N := 14) X hM hS (ct_X9_loading_ hst v0 v4) hP mV_X9_77 rfl rfl rfl hl.1 (Nat.le_of_ble_eq_true rfl) ⟨⟨by decide, by decide⟩, ⟨by decide, by decide⟩⟩ dX9_isAhead_123 (fun r6 M H locs hM hS hP => ?_)
          refine lv_fcmp hx hb dX9_isAhead_126 ?_
          refine lv_if_ne (tgt := 139) hx hb dX9_isAhead_127 (by decide) (fun hc => ?_) (fun hc => ?_)
          · have hP := mIf_f hP hc
            exact hb139 _ _ _ _ hM hS (lv_sub hl [] rfl) hP
          · have hP := mIf_t hP hc
            refine lv_iload_n hx hb dX9_isAhead_130 rfl (lv_at hl 1 rfl) ?_
            refine lv_iload_n hx hb dX9_isAhead_131 rfl (lv_at hl 2 rfl) ?_
            refine lv_icmp_ge (tgt := 139) hx hb dX9_isAhead_132 (by decide) (fun hc => ?_) (fun hc => ?_)
            · have hP := mIf_t hP hc
              exact hb139 _ _ _ _ hM hS (lv_sub hl [] rfl) hP
            · have hP := mIf_f hP hc
              exact hb135 _ _ _ _ hM hS (lv_sub hl [] rfl) hP
      · have hP := mIf_f hP hc
        refine lv_aload_n hx hb dX9_isAhead_82 rfl (lv_at hl 3 rfl) ?_
        refine r_geti X hM hP fl_X9_65 dX9_isAhead_83 (fun x7 hP => ?_)
        refine lv_aload hx hb dX9_isAhead_86 (lv_at hl 4 rfl) ?_
        refine r_geti X hM hP fl_X9_65 dX9_isAhead_88 (fun x8 hP => ?_)
        refine lv_icmp_ge (tgt := 98) hx hb dX9_isAhead_91 (by decide) (fun hc => ?_) (fun hc => ?_)
        · have hP := mIf_t hP hc
          refine lv_iconst (v := 0) hx hb dX9_isAhead_98 (by decide) ?_
          exact hb99 0 _ _ _ _ hM hS (lv_sub hl [] rfl) hP
        · have hP := mIf_f hP hc
          refine lv_iconst (v := 1) hx hb dX9_isAhead_94 (by decide) ?_
          refine lv_goto (tgt := 99) hx hb dX9_isAhead_95 (by decide) ?_
          exact hb99 1 _ _ _ _ hM hS (lv_sub hl [] rfl) hP
    · have hP := mIf_f hP hc
      refine lv_aload_n hx hb dX9_isAhead_57 rfl (lv_at hl 3 rfl) ?_
      refine r_geti X hM hP fl_X9_74 dX9_isAhead_58 (fun x9 hP => ?_)
      refine lv_if_le (tgt := 68) hx hb dX9_isAhead_61 (by decide) (fun hc => ?_) (fun hc => ?_)
      · have hP := mIf_t hP hc
        refine lv_iconst (v := 0) hx hb dX9_isAhead_68 (by decide) ?_
        exact hb69 0 _ _ _ _ hM hS (lv_sub hl [] rfl) hP
      · have hP := mIf_f hP hc
        refine lv_iconst (v := 1) hx hb dX9_isAhead_64 (by decide) ?_
        refine lv_goto (tgt := 69) hx hb dX9_isAhead_65 (by decide) ?_
        exact hb69 1 _ _ _ _ hM hS (lv_sub hl [] rfl) hP
  have hb41 : ∀ (v0 : Nat) (v1 : Int32) (v2 : Int32) (v3 : Nat) (v4 : Nat) (t0 : Int32) (M : Mem) (H : Heap) (locs : List Loc) (ls : Array Slot), mh K M H → va_S (mFA K) s.heap H locs → lv_has ls 5 [(0, .ref v0), (1, .int v1), (2, .int v2), (3, .ref v3), (4, .ref v4)] → f_X9_isAhead_b41 K k v0 v1 v2 v3 v4 t0 M → W p l e rm_X9_isAhead s m ([.ref a0, .int a1, .int a2] : List Value).toArray below meth c H locs 0 0 (MQ below (mQ K Q) ([.ref a0, .int a1, .int a2] : List Value).toArray s rm_X9_isAhead.cells rm_X9_isAhead.slots (mFA K)) (F0 m 41 ls [.int t0]) := by
    intro v0 v1 v2 v3 v4 t0 M H locs ls hM hS hl hP
    unfold f_X9_isAhead_b41 at hP
    refine lv_aload hx hb dX9_isAhead_41 (lv_at hl 4 rfl) ?_
    refine r_geti X hM hP fl_X9_74 dX9_isAhead_43 (fun x1 hP => ?_)
    refine lv_if_le (tgt := 53) hx hb dX9_isAhead_46 (by decide) (fun hc => ?_) (fun hc => ?_)
    · have hP := mIf_t hP hc
      refine lv_iconst (v := 0) hx hb dX9_isAhead_53 (by decide) ?_
      exact hb54 v0 v1 v2 v3 v4 t0 0 _ _ _ _ hM hS (lv_sub hl [0, 1, 2, 3, 4] rfl) hP
    · have hP := mIf_f hP hc
      refine lv_iconst (v := 1) hx hb dX9_isAhead_49 (by decide) ?_
      refine lv_goto (tgt := 54) hx hb dX9_isAhead_50 (by decide) ?_
      exact hb54 v0 v1 v2 v3 v4 t0 1 _ _ _ _ hM hS (lv_sub hl [0, 1, 2, 3, 4] rfl) hP
  unfold f_X9_isAhead at hP
  refine lv_aload_n hx hb dX9_isAhead_0 rfl (lv_at hl 0 rfl) ?_
  refine r_getr X hM hP fl_X9_10 dX9_isAhead_1 (fun x1 hP => ?_)
  refine lv_iload_n hx hb dX9_isAhead_4 rfl (lv_at hl 1 rfl) ?_
  refine r_callFr (rest := []) X hM hS (ct_Jx4a65c_get_915e3 hst x1 a1) hP mF_X9_57 rfl rfl hl.1 (Nat.le_of_ble_eq_true rfl) ⟨⟨by decide, by decide⟩, ⟨by decide, by decide⟩⟩ dX9_isAhead_5 (fun r2 M H locs hM hS hP => ?_)
  refine r_cast (C := RX7) (T := TX7) (N := 12) X hM hP rfl al_X9_44 dX9_isAhead_10 (fun hP => ?_)
  refine lv_astore_n (lv' := [(3, .ref r2), (0, .ref a0), (1, .int a1), (2, .int a2)]) hx hb dX9_isAhead_13 rfl hl (by decide) rfl (fun ls hl => ?_)
  refine lv_aload_n hx hb dX9_isAhead_14 rfl (lv_at hl 1 rfl) ?_
  refine r_getr X hM hP fl_X9_10 dX9_isAhead_15 (fun x3 hP => ?_)
  refine lv_iload_n hx hb dX9_isAhead_18 rfl (lv_at hl 3 rfl) ?_
  refine r_callFr (rest := []) X hM hS (ct_Jx4a65c_get_915e3 hst x3 a2) hP mF_X9_57 rfl rfl hl.1 (Nat.le_of_ble_eq_true rfl) ⟨⟨by decide, by decide⟩, ⟨by decide, by decide⟩⟩ dX9_isAhead_19 (fun r4 M H locs hM hS hP => ?_)
  refine r_cast (C := RX7) (T := TX7) (N := 12) X hM hP rfl al_X9_44 dX9_isAhead_24 (fun hP => ?_)
  refine lv_astore (lv' := [(4, .ref r4), (3, .ref r2), (0, .ref a0), (1, .int a1), (2, .int a2)]) hx hb dX9_isAhead_27 hl (by decide) rfl (fun ls hl => ?_)
  refine lv_aload_n hx hb dX9_isAhead_29 rfl (lv_at hl 1 rfl) ?_
  refine r_geti X hM hP fl_X9_74 dX9_isAhead_30 (fun x5 hP => ?_)
  refine lv_if_le (tgt := 40) hx hb dX9_isAhead_33 (by decide) (fun hc => ?_) (fun hc => ?_)
  · have hP := mIf_t hP hc
    refine lv_iconst (v := 0) hx hb dX9_isAhead_40 (by decide) ?_
    exact hb41 a0 a1 a2 r2 r4 0 _ _ _ _ hM hS (lv_sub hl [2, 3, 4, 1, 0] rfl) hP
  · have hP := mIf_f hP hc
    refine lv_iconst (v := 1) hx hb dX9_isAhead_36 (by decide) ?_
    refine lv_goto (tgt := 41) hx hb dX9_isAhead_37 (by decide) ?_
    exact hb41 a0 a1 a2 r2 r4 1 _ _ _ _ hM hS (lv_sub hl [2, 3, 4, 1, 0] rfl) hP
def f_X9_placeOf_b90 (K : Cfg) (k : Int32 → Mem → Prop) (t0 : Int32) : Mem → Prop :=
 k t0
def f_X9_placeOf_b57 (K : Cfg) (k : Int32 → Mem → Prop) (lp4 : Nat → Int32 → Int32 → Int32 → Mem → Prop) (v0 : Nat) (v1 : Int32) (v3 : Int32) (t0 : Int32) (t1 : Int32) : Mem → Prop :=
 lp4 v0 v1 (t0 + t1) (v3 + 1)
def f_X9_placeOf_b56 (K : Cfg) (k : Int32 → Mem → Prop) (lp4 : Nat → Int32 → Int32 → Int32 → Mem → Prop) (v0 : Nat) (v1 : Int32) (v3 : Int32) (t0 : Int32) : Mem → Prop :=
 f_X9_placeOf_b57 K k lp4 v0 v1 v3 t0 0
def f_X9_placeOf_b4_body (K : Cfg) (k : Int32 → Mem → Prop) (lp4 : Nat → Int32 → Int32 → Int32 → Mem → Prop) (v0 : Nat) (v1 : Int32) (v2 : Int32) (v3 : Int32) : Mem → Prop :=
 mGetR v0 10 1 fun x1 =>
 mRecv x1 0 <|
 f_Jx4a65c_size_8abf5 K x1 (fun r2 =>
 mIf (r2 ≤ v3)
 (mGetR v0 10 1 fun x3 =>
 mRecv x3 0 <|
 f_Jx4a65c_get_915e3 K x3 v1 (fun r4 =>
 mRecv r4 8 <|
 mGetI r4 8 10 fun x5 =>
 mIf (x5 = (-1))
 (f_X9_placeOf_b90 K k (-1))
 (f_X9_placeOf_b90 K k v2)))
 (mIf (v3 = v1)
 (f_X9_placeOf_b56 K k lp4 v0 v1 v3 v2)
 (mGetR v0 10 1 fun x6 =>
 mRecv x6 0 <|
 f_Jx4a65c_get_915e3 K x6 v3 (fun r7 =>
 mRecv r7 8 <|
 mGetI r7 8 10 fun x8 =>
 mIf (x8 = (-1))
 (f_X9_placeOf_b56 K k lp4 v0 v1 v3 v2)
 (mRecv v0 10 <|
 f_X9_isAhead K v0 v3 v1 (fun r9 =>
 mIf (r9 = 0)
 (f_X9_placeOf_b56 K k lp4 v0 v1 v3 v2)
 (f_X9_placeOf_b57 K k lp4 v0 v1 v3 v2 1)))))))
def f_X9_placeOf_b4 (K : Cfg) (k : Int32 → Mem → Prop) : Nat → Nat → Int32 → Int32 → Int32 → Mem → Prop
  | 0 => fun _ _ _ _ _ => False
  | n + 1 => f_X9_placeOf_b4_body K k (f_X9_placeOf_b4 K k n)
def f_X9_placeOf (K : Cfg) (a0 : Nat) (a1 : Int32) (k : Int32 → Mem → Prop) : Mem → Prop :=
 f_X9_placeOf_b4 K k mFuel a0 a1 0 0
abbrev rm_X9_placeOf : Room := { frames := 5, cells := 0, slots := 0, locals := 109 }
set_option maxHeartbeats 4000000 in
set_option maxRecDepth 100000 in
theorem ct_X9_placeOf {K : Cfg} {l : Launch} (hst : l.stackTraces = false) (a0 : Nat) (a1 : Int32) : mPi K l yX9_placeOf cX9_placeOf 4 (some .int) rm_X9_placeOf [.ref a0, .int a1] (f_X9_placeOf K a0 a1) := by
  refine mPi.of hst (by decide +kernel) (Nat.le_of_ble_eq_true rfl) ?_
  intro M k Q hk hP p e s m below meth c X hr hlocks hname hM ls hl
  have hx := X.1.1
  have hb := X.1.2.1
  have X : Cx K p l s m ([.ref a0, .int a1] : List Value).toArray c cX9_placeOf 4 RX9 := X
  have hS : va_S (mFA K) s.heap s.heap [] := va_S.rf
  have hl : lv_has ls 4 [(0, .ref a0), (1, .int a1)] := hl
  have hb90 : ∀ (t0 : Int32) (M : Mem) (H : Heap) (locs : List Loc) (ls : Array Slot), mh K M H → va_S (mFA K) s.heap H locs → lv_has ls 4 [] → f_X9_placeOf_b90 K k t0 M → W p l e rm_X9_placeOf s m ([.ref a0, .int a1] : List Value).toArray below meth c H locs 0 0 (MQ below (mQ K Q) ([.ref a0, .int a1] : List Value).toArray s rm_X9_placeOf.cells rm_X9_placeOf.slots (mFA K)) (F0 m 90 ls [.int t0]) := by
    intro t0 M H locs ls hM hS hl hP
    unfold f_X9_placeOf_b90 at hP
    exact e_iret X hM hS (hk _ _ hP) hr hlocks (by decide) (by decide) dX9_placeOf_90
  have hb4 : ∀ (n4 : Nat) (v0 : Nat) (v1 : Int32) (v2 : Int32) (v3 : Int32) (M : Mem) (H : Heap) (locs : List Loc) (ls : Array Slot), mh K M H → va_S (mFA K) s.heap H locs → lv_has ls 4 [(0, .ref v0), (1, .int v1), (2, .int v2), (3, .int v3)] → f_X9_placeOf_b4 K k n4 v0 v1 v2 v3 M → W p l e rm_X9_placeOf s m ([.ref a0, .int a1] : List Value).toArray below meth c H locs 0 0 (MQ below (mQ K Q) ([.ref a0, .int a1] : List Value).toArray s rm_X9_placeOf.cells rm_X9_placeOf.slots (mFA K)) (F0 m 4 ls []) := by
    intro n4
    induction n4 with
    | zero =>
      intro v0 v1 v2 v3 M H locs ls hM hS hl hP
      exact hP.elim
    | succ n4 ih4 =>
      have hb57 : ∀ (v0 : Nat) (v1 : Int32) (v3 : Int32) (t0 : Int32) (t1 : Int32) (M : Mem) (H : Heap) (locs : List Loc) (ls : Array Slot), mh K M H → va_S (mFA K) s.heap H locs → lv_has ls 4 [(0, .ref v0), (1, .int v1), (3, .int v3)] → f_X9_placeOf_b57 K k (f_X9_placeOf_b4 K k n4) v0 v1 v3 t0 t1 M → W p l e rm_X9_placeOf s m ([.ref a0, .int a1] : List Value).toArray below meth c H locs 0 0 (MQ below (mQ K Q) ([.ref a0, .int a1] : List Value).toArray s rm_X9_placeOf.cells rm_X9_placeOf.slots (mFA K)) (F0 m 57 ls [.int t1, .int t0]) := by
        intro v0 v1 v3 t0 t1 M H locs ls hM hS hl hP
        unfold f_X9_placeOf_b57 at hP
        refine lv_iadd hx hb dX9_placeOf_57 ?_
        refine lv_istore_n (lv' := [(2, .int (t0 + t1)), (0, .ref v0), (1, .int v1), (3, .int v3)]) hx hb dX9_placeOf_58 rfl hl (by decide) rfl (fun ls hl => ?_)
        refine lv_iinc (v := v3 + 1) (lv' := [(3, .int (v3 + 1)), (2, .int (t0 + t1)), (0, .ref v0), (1, .int v1)]) hx hb dX9_placeOf_59 hl (k := 3) rfl rfl (by decide) rfl (fun ls hl => ?_)
        refine lv_goto (tgt := 4) hx hb dX9_placeOf_62 (by decide) ?_
        exact ih4 v0 v1 (t0 + t1) (v3 + 1) _ _ _ _ hM hS (lv_sub hl [2, 3, 1, 0] rfl) hP
      have hb56 : ∀ (v0 : Nat) (v1 : Int32) (v3 : Int32) (t0 : Int32) (M : Mem) (H : Heap) (locs : List Loc) (ls : Array Slot), mh K M H → va_S (mFA K) s.heap H locs → lv_has ls 4 [(0, .ref v0), (1, .int v1), (3, .int v3)] → f_X9_placeOf_b56 K k (f_X9_placeOf_b4 K k n4) v0 v1 v3 t0 M → W p l e rm_X9_placeOf s m ([.ref a0, .int a1] : List Value).toArray below meth c H locs 0 0 (MQ below (mQ K Q) ([.ref a0, .int a1] : List Value).toArray s rm_X9_placeOf.cells rm_X9_placeOf.slots (mFA K)) (F0 m 56 ls [.int t0]) := by
        intro v0 v1 v3 t0 M H locs ls hM hS hl hP
        unfold f_X9_placeOf_b56 at hP
        refine lv_iconst (v := 0) hx hb dX9_placeOf_56 (by decide) ?_
        exact hb57 v0 v1 v3 t0 0 _ _ _ _ hM hS (lv_sub hl [0, 1, 2] rfl) hP
      intro v0 v1 v2 v3 M H locs ls hM hS hl hP
      have hP : f_X9_placeOf_b4_body K k (f_X9_placeOf_b4 K k n4) v0 v1 v2 v3 M := hP
      unfold f_X9_placeOf_b4_body at hP
      refine lv_iload_n hx hb dX9_placeOf_4 rfl (lv_at hl 3 rfl) ?_
      refine lv_aload_n hx hb dX9_placeOf_5 rfl (lv_at hl 0 rfl) ?_
      refine r_getr X hM hP fl_X9_10 dX9_placeOf_6 (fun x1 hP => ?_)
      refine r_callFi (rest := [.int v3]) X hM hS (ct_Jx4a65c_size_8abf5 hst x1) hP mF_X9_33 rfl rfl hl.1 (Nat.le_of_ble_eq_true rfl) ⟨⟨by decide, by decide⟩, ⟨by decide, by decide⟩⟩ dX9_placeOf_9 (fun r2 M H locs hM hS hP => ?_)
      refine lv_icmp_ge (tgt := 65) hx hb dX9_placeOf_14 (by decide) (fun hc => ?_) (fun hc => ?_)
      · have hP := mIf_t hP hc
        refine lv_aload_n hx hb dX9_placeOf_65 rfl (lv_at hl 0 rfl) ?_
        refine r_getr X hM hP fl_X9_10 dX9_placeOf_66 (fun x3 hP => ?_)
        refine lv_iload_n hx hb dX9_placeOf_69 rfl (lv_at hl 1 rfl) ?_
        refine r_callFr (rest := []) X hM hS (ct_Jx4a65c_get_915e3 hst x3 v1) hP mF_X9_57 rfl rfl hl.1 (Nat.le_of_ble_eq_true rfl) ⟨⟨by decide, by decide⟩, ⟨by decide, by decide⟩⟩ dX9_placeOf_70 (fun r4 M H locs hM hS hP => ?_)
        refine r_cast (C := RX7) (T := TX7) (N := 12) X hM hP rfl al_X9_44 dX9_placeOf_75 (fun hP => ?_)
        refine r_geti X hM hP fl_X9_65 dX9_placeOf_78 (fun x5 hP => ?_)
        refine lv_iconst (v := (-1)) hx hb dX9_placeOf_81 (by decide) ?_
        refine lv_icmp_ne (tgt := 89) hx hb dX9_placeOf_82 (by decide) (fun hc => ?_) (fun hc => ?_)
        · have hP := mIf_f hP hc
          refine lv_iload_n hx hb dX9_placeOf_89 rfl (lv_at hl 2 rfl) ?_
          exact hb90 v2 _ _ _ _ hM hS (lv_sub hl [] rfl) hP
        · have hP := mIf_t hP hc
          refine lv_iconst (v := (-1)) hx hb dX9_placeOf_85 (by decide) ?_
          refine lv_goto (tgt := 90) hx hb dX9_placeOf_86 (by decide) ?_
          exact hb90 (-1) _ _ _ _ hM hS (lv_sub hl [] rfl) hP
      · have hP := mIf_f hP hc
        refine lv_iload_n hx hb dX9_placeOf_17 rfl (lv_at hl 2 rfl) ?_
        refine lv_iload_n hx hb dX9_placeOf_18 rfl (lv_at hl 3 rfl) ?_
        refine lv_iload_n hx hb dX9_placeOf_19 rfl (lv_at hl 1 rfl) ?_
        refine lv_icmp_eq (tgt := 56) hx hb dX9_placeOf_20 (by decide) (fun hc => ?_) (fun hc => ?_)
        · have hP := mIf_t hP hc
          exact hb56 v0 v1 v3 v2 _ _ _ _ hM hS (lv_sub hl [0, 1, 3] rfl) hP
        · have hP := mIf_f hP hc
          refine lv_aload_n hx hb dX9_placeOf_23 rfl (lv_at hl 0 rfl) ?_
          refine r_getr X hM hP fl_X9_10 dX9_placeOf_24 (fun x6 hP => ?_)
          refine lv_iload_n hx hb dX9_placeOf_27 rfl (lv_at hl 3 rfl) ?_
          refine r_callFr (rest := [.int v2]) X hM hS (ct_Jx4a65c_get_915e3 hst x6 v3) hP mF_X9_57 rfl rfl hl.1 (Nat.le_of_ble_eq_true rfl) ⟨⟨by decide, by decide⟩, ⟨by decide, by decide⟩⟩ dX9_placeOf_28 (fun r7 M H locs hM hS hP => ?_)
          refine r_cast (C := RX7) (T := TX7) (N := 12) X hM hP rfl al_X9_44 dX9_placeOf_33 (fun hP => ?_)
          refine r_geti X hM hP fl_X9_65 dX9_placeOf_36 (fun x8 hP => ?_)
          refine lv_iconst (v := (-1)) hx hb dX9_placeOf_39 (by decide) ?_
          refine lv_icmp_eq (tgt := 56) hx hb dX9_placeOf_40 (by decide) (fun hc => ?_) (fun hc => ?_)
          · have hP := mIf_t hP hc
            exact hb56 v0 v1 v3 v2 _ _ _ _ hM hS (lv_sub hl [0, 1, 3] rfl) hP
          · have hP := mIf_f hP hc
            refine lv_aload_n hx hb dX9_placeOf_43 rfl (lv_at hl 0 rfl) ?_
            refine lv_iload_n hx hb dX9_placeOf_44 rfl (lv_at hl 3 rfl) ?_
            refine lv_iload_n hx hb dX9_placeOf_45 rfl (lv_at hl 1 rfl) ?_
            refine r_callVi (rest := [.int v2]) (T := TX9) (N := 14) X hM hS (ct_X9_isAhead hst v0 v3 v1) hP mV_X9_80 rfl rfl rfl hl.1 (Nat.le_of_ble_eq_true rfl) ⟨⟨by decide, by decide⟩, ⟨by decide, by decide⟩⟩ dX9_placeOf_46 (fun r9 M H locs hM hS hP => ?_)
            refine lv_if_eq (tgt := 56) hx hb dX9_placeOf_49 (by decide) (fun hc => ?_) (fun hc => ?_)
            · have hP := mIf_t hP hc
              exact hb56 v0 v1 v3 v2 _ _ _ _ hM hS (lv_sub hl [0, 1, 3] rfl) hP
            · have hP := mIf_f hP hc
              refine lv_iconst (v := 1) hx hb dX9_placeOf_52 (by decide) ?_
              refine lv_goto (tgt := 57) hx hb dX9_placeOf_53 (by decide) ?_
              exact hb57 v0 v1 v3 v2 1 _ _ _ _ hM hS (lv_sub hl [0, 1, 3] rfl) hP
  unfold f_X9_placeOf at hP
  refine lv_iconst (v := 0) hx hb dX9_placeOf_0 (by decide) ?_
  refine lv_istore_n (lv' := [(2, .int 0), (0, .ref a0), (1, .int a1)]) hx hb dX9_placeOf_1 rfl hl (by decide) rfl (fun ls hl => ?_)
  refine lv_iconst (v := 0) hx hb dX9_placeOf_2 (by decide) ?_
  refine lv_istore_n (lv' := [(3, .int 0), (2, .int 0), (0, .ref a0), (1, .int a1)]) hx hb dX9_placeOf_3 rfl hl (by decide) rfl (fun ls hl => ?_)
  exact hb4 mFuel a0 a1 0 0 _ _ _ _ hM hS (lv_sub hl [2, 3, 1, 0] rfl) hP
def f_X9_at_b2_body (K : Cfg) (k : Int32 → Mem → Prop) (lp2 : Nat → Int32 → Int32 → Mem → Prop) (v0 : Nat) (v1 : Int32) (v2 : Int32) : Mem → Prop :=
 mGetR v0 10 1 fun x1 =>
 mRecv x1 0 <|
 f_Jx4a65c_size_8abf5 K x1 (fun r2 =>
 mIf (r2 ≤ v2)
 (k (-1))
 (mRecv v0 10 <|
 f_X9_placeOf K v0 v2 (fun r3 =>
 mIf (r3 = v1)
 (k v2)
 (lp2 v0 v1 (v2 + 1)))))
def f_X9_at_b2 (K : Cfg) (k : Int32 → Mem → Prop) : Nat → Nat → Int32 → Int32 → Mem → Prop
  | 0 => fun _ _ _ _ => False
  | n + 1 => f_X9_at_b2_body K k (f_X9_at_b2 K k n)
def f_X9_at (K : Cfg) (a0 : Nat) (a1 : Int32) (k : Int32 → Mem → Prop) : Mem → Prop :=
 f_X9_at_b2 K k mFuel a0 a1 0
abbrev rm_X9_at : Room := { frames := 6, cells := 0, slots := 0, locals := 132 }
set_option maxHeartbeats 4000000 in
set_option maxRecDepth 100000 in
theorem ct_X9_at {K : Cfg} {l : Launch} (hst : l.stackTraces = false) (a0 : Nat) (a1 : Int32) : mPi K l yX9_at cX9_at 3 (some .int) rm_X9_at [.ref a0, .int a1] (f_X9_at K a0 a1) := by
  refine mPi.of hst (by decide +kernel) (Nat.le_of_ble_eq_true rfl) ?_
  intro M k Q hk hP p e s m below meth c X hr hlocks hname hM ls hl
  have hx := X.1.1
  have hb := X.1.2.1
  have X : Cx K p l s m ([.ref a0, .int a1] : List Value).toArray c cX9_at 3 RX9 := X
  have hS : va_S (mFA K) s.heap s.heap [] := va_S.rf
  have hl : lv_has ls 3 [(0, .ref a0), (1, .int a1)] := hl
  have hb2 : ∀ (n2 : Nat) (v0 : Nat) (v1 : Int32) (v2 : Int32) (M : Mem) (H : Heap) (locs : List Loc) (ls : Array Slot), mh K M H → va_S (mFA K) s.heap H locs → lv_has ls 3 [(0, .ref v0), (1, .int v1), (2, .int v2)] → f_X9_at_b2 K k n2 v0 v1 v2 M → W p l e rm_X9_at s m ([.ref a0, .int a1] : List Value).toArray below meth c H locs 0 0 (MQ below (mQ K Q) ([.ref a0, .int a1] : List Value).toArray s rm_X9_at.cells rm_X9_at.slots (mFA K)) (F0 m 2 ls []) := by
    intro n2
    induction n2 with
    | zero =>
      intro v0 v1 v2 M H locs ls hM hS hl hP
      exact hP.elim
    | succ n2 ih2 =>
      intro v0 v1 v2 M H locs ls hM hS hl hP
      have hP : f_X9_at_b2_body K k (f_X9_at_b2 K k n2) v0 v1 v2 M := hP
      unfold f_X9_at_b2_body at hP
      refine lv_iload_n hx hb dX9_at_2 rfl (lv_at hl 2 rfl) ?_
      refine lv_aload_n hx hb dX9_at_3 rfl (lv_at hl 0 rfl) ?_
      refine r_getr X hM hP fl_X9_10 dX9_at_4 (fun x1 hP => ?_)
      refine r_callFi (rest := [.int v2]) X hM hS (ct_Jx4a65c_size_8abf5 hst x1) hP mF_X9_33 rfl rfl hl.1 (Nat.le_of_ble_eq_true rfl) ⟨⟨by decide, by decide⟩, ⟨by decide, by decide⟩⟩ dX9_at_7 (fun r2 M H locs hM hS hP => ?_)
      refine lv_icmp_ge (tgt := 32) hx hb dX9_at_12 (by decide) (fun hc => ?_) (fun hc => ?_)
      · have hP := mIf_t hP hc
        refine lv_iconst (v := (-1)) hx hb dX9_at_32 (by decide) ?_
        exact e_iret X hM hS (hk _ _ hP) hr hlocks (by decide) (by decide) dX9_at_33
      · have hP := mIf_f hP hc
        refine lv_aload_n hx hb dX9_at_15 rfl (lv_at hl 0 rfl) ?_
        refine lv_iload_n hx hb dX9_at_16 rfl (lv_at hl 2 rfl) ?_
        refine r_callVi (rest := []) (T := TX9) (N := 14) X hM hS (ct_X9_placeOf hst v0 v2) hP mV_X9_84 rfl rfl rfl hl.1 (Nat.le_of_ble_eq_true rfl) ⟨⟨by decide, by decide⟩, ⟨by decide, by decide⟩⟩ dX9_at_17 (fun r3 M H locs hM hS hP => ?_)
        refine lv_iload_n hx hb dX9_at_20 rfl (lv_at hl 1 rfl) ?_
        refine lv_icmp_ne (tgt := 26) hx hb dX9_at_21 (by decide) (fun hc => ?_) (fun hc => ?_)
        · have hP := mIf_f hP hc
          refine lv_iinc (v := v2 + 1) (lv' := [(2, .int (v2 + 1)), (0, .ref v0), (1, .int v1)]) hx hb dX9_at_26 hl (k := 2) rfl rfl (by decide) rfl (fun ls hl => ?_)
          refine lv_goto (tgt := 2) hx hb dX9_at_29 (by decide) ?_
          exact ih2 v0 v1 (v2 + 1) _ _ _ _ hM hS (lv_sub hl [1, 2, 0] rfl) hP
        · have hP := mIf_t hP hc
          refine lv_iload_n hx hb dX9_at_24 rfl (lv_at hl 2 rfl) ?_
          exact e_iret X hM hS (hk _ _ hP) hr hlocks (by decide) (by decide) dX9_at_25
  unfold f_X9_at at hP
  refine lv_iconst (v := 0) hx hb dX9_at_0 (by decide) ?_
  refine lv_istore_n (lv' := [(2, .int 0), (0, .ref a0), (1, .int a1)]) hx hb dX9_at_1 rfl hl (by decide) rfl (fun ls hl => ?_)
  exact hb2 mFuel a0 a1 0 _ _ _ _ hM hS (lv_sub hl [1, 2, 0] rfl) hP
def f_X9_flight_b11_body (K : Cfg) (k : Nat → Mem → Prop) (lp11 : Nat → Nat → Nat → Int32 → Int32 → Nat → Int32 → Mem → Prop) (u w : Nat) (v0 : Nat) (v1 : Int32) (v2 : Int32) (v3 : Nat) (v4 : Int32) : Mem → Prop :=
 mAs (u ≤ 13 ∧ w ≤ 141) <|
 mRecv v0 10 <|
 f_X9_aboard K v0 (fun r1 =>
 mIf (r1 ≤ v4)
 (mAs (u ≤ 13 ∧ w ≤ 141) <|
 k v3)
 (mGetR v0 10 1 fun x2 =>
 mAs (u ≤ 13 ∧ w ≤ 141) <|
 mRecv v0 10 <|
 f_X9_at K v0 v4 (fun r3 =>
 mAs (u ≤ 13 ∧ w ≤ 141) <|
 mRecv x2 0 <|
 f_Jx4a65c_get_915e3 K x2 r3 (fun r4 =>
 mRecv r4 8 <|
 mAs (u + 1 ≤ 13 ∧ w + 13 ≤ 141) <|
 mNew K 7 [.null, .int 0, .int 0, .float 0, .double 0, .double 0, .int 0, .int 0, .int 0, .int 0, .int 0, .int 0, .null] fun x5 =>
 mGetI r4 8 10 fun x6 =>
 mGetI r4 8 11 fun x7 =>
 mGetR v0 10 3 fun x8 =>
 mLdI K x8 9 fun x9 =>
 mAs (vf_n64 (FP.dsub 4629137466983448576 (FP.i2d x9))) <|
 mAs (vf_n64 (FP.dmul (FP.i2d (v4 * v2)) (FP.dsub 4629137466983448576 (FP.i2d x9)))) <|
 mAs (vf_n64 (FP.dadd (FP.i2d v1) (FP.dmul (FP.i2d (v4 * v2)) (FP.dsub 4629137466983448576 (FP.i2d x9))))) <|
 mAs (u + 1 ≤ 13 ∧ w + 13 ≤ 141) <|
 f_X6_init K x5 v0 r4 x6 x7 (v4 * v2) (FP.dadd (FP.i2d v1) (FP.dmul (FP.i2d (v4 * v2)) (FP.dsub 4629137466983448576 (FP.i2d x9)))) (
 mAs (u + 1 + 1 ≤ 13 ∧ w + 13 + 10 ≤ 141) <|
 mRecv v3 0 <|
 f_Jx4a65c_add_9ea2d K v3 x5 (fun r11 =>
 lp11 (u + 1 + 1) (w + 13 + 10) v0 v1 v2 v3 (v4 + 1)))))))
def f_X9_flight_b11 (K : Cfg) (k : Nat → Mem → Prop) : Nat → Nat → Nat → Nat → Int32 → Int32 → Nat → Int32 → Mem → Prop
  | 0 => fun _ _ _ _ _ _ _ _ => False
  | n + 1 => f_X9_flight_b11_body K k (f_X9_flight_b11 K k n)
def f_X9_flight (K : Cfg) (a0 : Nat) (a1 : Int32) (a2 : Int32) (k : Nat → Mem → Prop) : Mem → Prop :=
 mAs (0 + 1 ≤ 13 ∧ 0 + 3 ≤ 141) <|
 mNew K 0 [.int 0, .null, .int 0] fun x1 =>
 mAs (0 + 1 ≤ 13 ∧ 0 + 3 ≤ 141) <|
 f_Jx4a65c_init_da8c8 K x1 (
 f_X9_flight_b11 K k mFuel (0 + 1) (0 + 3) a0 a1 a2 x1 0)
abbrev rm_X9_flight : Room := { frames := 7, cells := 13, slots := 141, locals := 154 }
set_option maxHeartbeats 4000000 in
set_option maxRecDepth 100000 in
theorem ct_X9_flight {K : Cfg} {l : Launch} (hst : l.stackTraces = false) (a0 : Nat) (a1 : Int32) (a2 : Int32) : mPr K l yX9_flight cX9_flight 6 (some (.object "java/util/List")) rm_X9_flight [.ref a0, .int a1, .int a2] (f_X9_flight K a0 a1 a2) := by
  refine mPr.of hst (by decide +kernel) (Nat.le_of_ble_eq_true rfl) ?_
  intro M k Q hk hP p e s m below meth c X hr hlocks hname hM ls hl
  have hx := X.1.1
  have hb := X.1.2.1
  have X : Cx K p l s m ([.ref a0, .int a1, .int a2] : List Value).toArray c cX9_flight 6 RX9 := X
  have hS : va_S (mFA K) s.heap s.heap [] := va_S.rf
  have hl : lv_has ls 6 [(0, .ref a0), (1, .int a1), (2, .int a2)] := hl
  have hb11 : ∀ (n11 : Nat) (u w : Nat) (v0 : Nat) (v1 : Int32) (v2 : Int32) (v3 : Nat) (v4 : Int32) (M : Mem) (H : Heap) (locs : List Loc) (ls : Array Slot), mh K M H → va_S (mFA K) s.heap H locs → lv_has ls 6 [(0, .ref v0), (1, .int v1), (2, .int v2), (3, .ref v3), (4, .int v4)] → f_X9_flight_b11 K k n11 u w v0 v1 v2 v3 v4 M → W p l e rm_X9_flight s m ([.ref a0, .int a1, .int a2] : List Value).toArray below meth c H locs u w (MQ below (mQ K Q) ([.ref a0, .int a1, .int a2] : List Value).toArray s rm_X9_flight.cells rm_X9_flight.slots (mFA K)) (F0 m 11 ls []) := by
    intro n11
    induction n11 with
    | zero =>
      intro u w v0 v1 v2 v3 v4 M H locs ls hM hS hl hP
      exact hP.elim
    | succ n11 ih11 =>
      intro u w v0 v1 v2 v3 v4 M H locs ls hM hS hl hP
      have hP : f_X9_flight_b11_body K k (f_X9_flight_b11 K k n11) u w v0 v1 v2 v3 v4 M := hP
      unfold f_X9_flight_b11_body at hP
      refine lv_iload hx hb dX9_flight_11 (lv_at hl 4 rfl) ?_
      refine lv_aload_n hx hb dX9_flight_13 rfl (lv_at hl 0 rfl) ?_
      obtain ⟨hcs, hP⟩ := hP
      refine r_callVi (rest := [.int v4]) (T := TX9) (N := 14) X hM hS (ct_X9_aboard hst v0) hP mV_X9_87 rfl rfl rfl hl.1 (Nat.le_of_ble_eq_true rfl) ⟨⟨by decide, by decide⟩, hcs⟩ dX9_flight_14 (fun r1 M H locs hM hS hP => ?_)
      refine lv_icmp_ge (tgt := 98) hx hb dX9_flight_17 (by decide) (fun hc => ?_) (fun hc => ?_)
      · have hP := mIf_t hP hc
        refine lv_aload_n hx hb dX9_flight_98 rfl (lv_at hl 3 rfl) ?_
        obtain ⟨⟨h97, h98⟩, hP⟩ := hP
        exact e_aret X hM hS (hk _ _ hP) hr (Or.inl ⟨_, rfl⟩) hlocks h97 h98 dX9_flight_99
      · have hP := mIf_f hP hc
        refine lv_aload_n hx hb dX9_flight_20 rfl (lv_at hl 0 rfl) ?_
        refine r_getr X hM hP fl_X9_10 dX9_flight_21 (fun x2 hP => ?_)
        refine lv_aload_n hx hb dX9_flight_24 rfl (lv_at hl 0 rfl) ?_
        refine lv_iload hx hb dX9_flight_25 (lv_at hl 4 rfl) ?_
        obtain ⟨hcs, hP⟩ := hP
        refine r_callVi (rest := [.ref x2]) (T := TX9) (N := 14) X hM hS (ct_X9_at hst v0 v4) hP mV_X9_90 rfl rfl rfl hl.1 (Nat.le_of_ble_eq_true rfl) ⟨⟨by decide, by decide⟩, hcs⟩ dX9_flight_27 (fun r3 M H locs hM hS hP => ?_)
        obtain ⟨hcs, hP⟩ := hP
        refine r_callFr (rest := []) X hM hS (ct_Jx4a65c_get_915e3 hst x2 r3) hP mF_X9_57 rfl rfl hl.1 (Nat.le_of_ble_eq_true rfl) ⟨⟨by decide, by decide⟩, hcs⟩ dX9_flight_30 (fun r4 M H locs hM hS hP => ?_)
        refine r_cast (C := RX7) (T := TX7) (N := 12) X hM hP rfl al_X9_44 dX9_flight_35 (fun hP => ?_)
        refine lv_astore (lv' := [(5, .ref r4), (0, .ref v0), (1, .int v1), (2, .int v2), (3, .ref v3), (4, .int v4)]) hx hb dX9_flight_38 hl (by decide) rfl (fun ls hl => ?_)
        refine lv_aload_n hx hb dX9_flight_40 rfl (lv_at hl 4 rfl) ?_
        obtain ⟨hcs, hP⟩ := hP
        refine r_new X hM hS hP nl_X9_93 ft_X6 df_X6 hcs dX9_flight_41 (fun x5 M H hM hS hP => ?_)
        refine lv_dup hx hb dX9_flight_44 rfl ?_
        refine lv_aload_n hx hb dX9_flight_45 rfl (lv_at hl 1 rfl) ?_
        refine lv_aload hx hb dX9_flight_46 (lv_at hl 0 rfl) ?_
        refine lv_aload hx hb dX9_flight_48 (lv_at hl 0 rfl) ?_
        refine r_geti X hM hP fl_X9_65 dX9_flight_50 (fun x6 hP => ?_)
        refine lv_aload hx hb dX9_flight_53 (lv_at hl 0 rfl) ?_
        refine r_geti X hM hP fl_X9_95 dX9_flight_55 (fun x7 hP => ?_)
        refine lv_iload hx hb dX9_flight_58 (lv_at hl 5 rfl) ?_
        refine lv_iload_n hx hb dX9_flight_60 rfl (lv_at hl 3 rfl) ?_
        refine lv_imul hx hb dX9_flight_61 ?_
        refine lv_iload_n hx hb dX9_flight_62 rfl (lv_at hl 2 rfl) ?_
        refine lv_i2d hx hb dX9_flight_63 ?_
        refine lv_iload hx hb dX9_flight_64 (lv_at hl 5 rfl) ?_
        refine lv_iload_n hx hb dX9_flight_66 rfl (lv_at hl 3 rfl) ?_
        refine lv_imul hx hb dX9_flight_67 ?_
        refine lv_i2d hx hb dX9_flight_68 ?_
        refine r_ldcd (v := 4629137466983448576) X kc_X9_98 dX9_flight_69 ?_
        refine lv_aload_n hx hb dX9_flight_72 rfl (lv_at hl 1 rfl) ?_
        refine r_getr X hM hP fl_X9_19 dX9_flight_73 (fun x8 hP => ?_)
        refine lv_bipush (v := 9) hx hb dX9_flight_76 (by decide) ?_
        refine r_ldi X hM hP dX9_flight_78 (fun x9 hP => ?_)
        refine lv_i2d hx hb dX9_flight_79 ?_
        obtain ⟨h9, hP⟩ := hP
        refine lv_dsub hx hb dX9_flight_80 h9 ?_
        obtain ⟨h9, hP⟩ := hP
        refine lv_dmul hx hb dX9_flight_81 h9 ?_
        obtain ⟨h9, hP⟩ := hP
        refine lv_dadd hx hb dX9_flight_82 h9 ?_
        obtain ⟨hcs, hP⟩ := hP
        refine r_callIv (rest := [.ref x5, .ref v3]) X hM hS (ct_X6_init hst x5 v0 r4 x6 x7 (v4 * v2) (FP.dadd (FP.i2d v1) (FP.dmul (FP.i2d (v4 * v2)) (FP.dsub 4629137466983448576 (FP.i2d x9))))) hP mI_X9_100 rfl rfl hl.1 (Nat.le_of_ble_eq_true rfl) ⟨⟨by decide, by decide⟩, hcs⟩ dX9_flight_83 (fun M H locs hM hS hP => ?_)
        obtain ⟨hcs, hP⟩ := hP
        refine r_callFi (rest := []) X hM hS (ct_Jx4a65c_add_9ea2d hst v3 x5) hP mF_X9_103 rfl rfl hl.1 (Nat.le_of_ble_eq_true rfl) ⟨⟨by decide, by decide⟩, hcs⟩ dX9_flight_86 (fun r11 M H locs hM hS hP => ?_)
        refine lv_pop hx hb dX9_flight_91 rfl ?_
        refine lv_iinc (v := v4 + 1) (lv' := [(4, .int (v4 + 1)), (5, .ref r4), (0, .ref v0), (1, .int v1), (2, .int v2), (3, .ref v3)]) hx hb dX9_flight_92 hl (k := 5) rfl rfl (by decide) rfl (fun ls hl => ?_)
        refine lv_goto (tgt := 11) hx hb dX9_flight_95 (by decide) ?_
        exact ih11 (u + 1 + 1) (w + 13 + 10) v0 v1 v2 v3 (v4 + 1) _ _ _ _ hM hS (lv_sub hl [2, 3, 4, 5, 0] rfl) hP
  unfold f_X9_flight at hP
  obtain ⟨hcs, hP⟩ := hP
  refine r_new X hM hS hP nl_X9_7 ft_Jx4a65c df_Jx4a65c hcs dX9_flight_0 (fun x1 M H hM hS hP => ?_)
  refine lv_dup hx hb dX9_flight_3 rfl ?_
  obtain ⟨hcs, hP⟩ := hP
  refine r_callIv (rest := [.ref x1]) X hM hS (ct_Jx4a65c_init_da8c8 hst x1) hP mI_X9_9 rfl rfl hl.1 (Nat.le_of_ble_eq_true rfl) ⟨⟨by decide, by decide⟩, hcs⟩ dX9_flight_4 (fun M H locs hM hS hP => ?_)
  refine lv_astore_n (lv' := [(3, .ref x1), (0, .ref a0), (1, .int a1), (2, .int a2)]) hx hb dX9_flight_7 rfl hl (by decide) rfl (fun ls hl => ?_)
  refine lv_iconst (v := 0) hx hb dX9_flight_8 (by decide) ?_
  refine lv_istore (lv' := [(4, .int 0), (3, .ref x1), (0, .ref a0), (1, .int a1), (2, .int a2)]) hx hb dX9_flight_9 hl (by decide) rfl (fun ls hl => ?_)
  exact hb11 mFuel (0 + 1) (0 + 3) a0 a1 a2 x1 0 _ _ _ _ hM hS (lv_sub hl [2, 3, 4, 1, 0] rfl) hP
def f_X9_go_b184 (K : Cfg) (k : Int32 → Mem → Prop) (lp24 : Nat → Nat → Nat → Nat → Int32 → Int32 → Int32 → Mem → Prop) (lp111 : Nat → Nat → Nat → Nat → Int32 → Int32 → Int32 → Int32 → Mem → Prop) (lp125 : Nat → Nat → Nat → Nat → Int32 → Int32 → Int32 → Int32 → Int32 → Mem → Prop) (u w : Nat) (v0 : Nat) (v1 : Nat) (v2 : Int32) (v3 : Int32) (v4 : Int32) (v5 : Int32) (v6 : Int32) : Mem → Prop :=
 lp125 u w v0 v1 v2 v3 v4 v5 (v6 + 1)
def f_X9_go_b125_body (K : Cfg) (k : Int32 → Mem → Prop) (lp24 : Nat → Nat → Nat → Nat → Int32 → Int32 → Int32 → Mem → Prop) (lp111 : Nat → Nat → Nat → Nat → Int32 → Int32 → Int32 → Int32 → Mem → Prop) (lp125 : Nat → Nat → Nat → Nat → Int32 → Int32 → Int32 → Int32 → Int32 → Mem → Prop) (u w : Nat) (v0 : Nat) (v1 : Nat) (v2 : Int32) (v3 : Int32) (v4 : Int32) (v5 : Int32) (v6 : Int32) : Mem → Prop :=
 mIf (v5 ≤ v6)
 (lp111 u w v0 v1 v2 v3 v4 (v5 + 1))
 (mLdQ K 8 v1 v5 fun x1 =>
 mLdZ K x1 v6 fun x2 =>
 mIf (x2 = 0)
 (mAs (u ≤ 7 ∧ w ≤ 42) <|
 mRecv v0 0 <|
 f_Jx4a65c_get_915e3 K v0 v5 (fun r3 =>
 mRecv r3 7 <|
 mAs (u ≤ 7 ∧ w ≤ 42) <|
 mRecv v0 0 <|
 f_Jx4a65c_get_915e3 K v0 v6 (fun r4 =>
 mRecv r4 7 <|
 mAs (u ≤ 7 ∧ w ≤ 42) <|
 mRecv r3 7 <|
 f_X6_meets K r3 r4 (fun r5 =>
 mIf (r5 = 0)
 (f_X9_go_b184 K k lp24 lp111 lp125 u w v0 v1 v2 v3 v4 v5 v6)
 (mLdQ K 8 v1 v5 fun x6 =>
 mStZ K x6 v6 1 <|
 f_X9_go_b184 K k lp24 lp111 lp125 u w v0 v1 (v2 + 1) v3 v4 v5 v6)))))
 (f_X9_go_b184 K k lp24 lp111 lp125 u w v0 v1 v2 v3 v4 v5 v6))
def f_X9_go_b125 (K : Cfg) (k : Int32 → Mem → Prop) (lp24 : Nat → Nat → Nat → Nat → Int32 → Int32 → Int32 → Mem → Prop) (lp111 : Nat → Nat → Nat → Nat → Int32 → Int32 → Int32 → Int32 → Mem → Prop) : Nat → Nat → Nat → Nat → Nat → Int32 → Int32 → Int32 → Int32 → Int32 → Mem → Prop
  | 0 => fun _ _ _ _ _ _ _ _ _ _ => False
  | n + 1 => f_X9_go_b125_body K k lp24 lp111 (f_X9_go_b125 K k lp24 lp111 n)
def f_X9_go_b111_body (K : Cfg) (k : Int32 → Mem → Prop) (lp24 : Nat → Nat → Nat → Nat → Int32 → Int32 → Int32 → Mem → Prop) (lp111 : Nat → Nat → Nat → Nat → Int32 → Int32 → Int32 → Int32 → Mem → Prop) (u w : Nat) (v0 : Nat) (v1 : Nat) (v2 : Int32) (v3 : Int32) (v4 : Int32) (v5 : Int32) : Mem → Prop :=
 mAs (u ≤ 7 ∧ w ≤ 42) <|
 mRecv v0 0 <|
 f_Jx4a65c_size_8abf5 K v0 (fun r1 =>
 mIf (r1 ≤ v5)
 (lp24 u w v0 v1 v2 v3 (v4 + 1))
 (f_X9_go_b125 K k lp24 lp111 mFuel u w v0 v1 v2 v3 v4 v5 0))
def f_X9_go_b111 (K : Cfg) (k : Int32 → Mem → Prop) (lp24 : Nat → Nat → Nat → Nat → Int32 → Int32 → Int32 → Mem → Prop) : Nat → Nat → Nat → Nat → Nat → Int32 → Int32 → Int32 → Int32 → Mem → Prop
  | 0 => fun _ _ _ _ _ _ _ _ _ => False
  | n + 1 => f_X9_go_b111_body K k lp24 (f_X9_go_b111 K k lp24 n)
def f_X9_go_b100 (K : Cfg) (k : Int32 → Mem → Prop) (lp24 : Nat → Nat → Nat → Nat → Int32 → Int32 → Int32 → Mem → Prop) (lp39 : Nat → Nat → Nat → Nat → Int32 → Int32 → Int32 → Int32 → Mem → Prop) (u w : Nat) (v0 : Nat) (v1 : Nat) (v2 : Int32) (v4 : Int32) (v5 : Int32) (t0 : Int32) (t1 : Int32) : Mem → Prop :=
 lp39 u w v0 v1 v2 (t0 + t1) v4 (v5 + 1)
def f_X9_go_b86 (K : Cfg) (k : Int32 → Mem → Prop) (lp24 : Nat → Nat → Nat → Nat → Int32 → Int32 → Int32 → Mem → Prop) (lp39 : Nat → Nat → Nat → Nat → Int32 → Int32 → Int32 → Int32 → Mem → Prop) (u w : Nat) (v0 : Nat) (v1 : Nat) (v2 : Int32) (v3 : Int32) (v4 : Int32) (v5 : Int32) (v6 : Nat) : Mem → Prop :=
 mAs (u ≤ 7 ∧ w ≤ 42) <|
 mRecv v6 7 <|
 f_X6_isDown K v6 (fun r1 =>
 mIf (r1 = 0)
 (f_X9_go_b100 K k lp24 lp39 u w v0 v1 v2 v4 v5 v3 0)
 (f_X9_go_b100 K k lp24 lp39 u w v0 v1 v2 v4 v5 v3 1))
def f_X9_go_b39_body (K : Cfg) (k : Int32 → Mem → Prop) (lp24 : Nat → Nat → Nat → Nat → Int32 → Int32 → Int32 → Mem → Prop) (lp39 : Nat → Nat → Nat → Nat → Int32 → Int32 → Int32 → Int32 → Mem → Prop) (u w : Nat) (v0 : Nat) (v1 : Nat) (v2 : Int32) (v3 : Int32) (v4 : Int32) (v5 : Int32) : Mem → Prop :=
 mAs (u ≤ 7 ∧ w ≤ 42) <|
 mRecv v0 0 <|
 f_Jx4a65c_size_8abf5 K v0 (fun r1 =>
 mIf (r1 ≤ v5)
 (f_X9_go_b111 K k lp24 mFuel u w v0 v1 v2 v3 v4 0)
 (mAs (u ≤ 7 ∧ w ≤ 42) <|
 mRecv v0 0 <|
 f_Jx4a65c_get_915e3 K v0 v5 (fun r2 =>
 mRecv r2 7 <|
 mGetI r2 7 1 fun x3 =>
 mIf (v4 < x3)
 (f_X9_go_b86 K k lp24 lp39 u w v0 v1 v2 v3 v4 v5 r2)
 (mAs (u ≤ 7 ∧ w ≤ 42) <|
 mRecv r2 7 <|
 f_X6_isDown K r2 (fun r4 =>
 mIf (r4 = 0)
 (mAs (u ≤ 7 ∧ w ≤ 42) <|
 mRecv r2 7 <|
 f_X6_tick K r2 (
 f_X9_go_b86 K k lp24 lp39 u w v0 v1 v2 v3 v4 v5 r2))
 (f_X9_go_b86 K k lp24 lp39 u w v0 v1 v2 v3 v4 v5 r2))))))
def f_X9_go_b39 (K : Cfg) (k : Int32 → Mem → Prop) (lp24 : Nat → Nat → Nat → Nat → Int32 → Int32 → Int32 → Mem → Prop) : Nat → Nat → Nat → Nat → Nat → Int32 → Int32 → Int32 → Int32 → Mem → Prop
  | 0 => fun _ _ _ _ _ _ _ _ _ => False
  | n + 1 => f_X9_go_b39_body K k lp24 (f_X9_go_b39 K k lp24 n)
def f_X9_go_b24_body (K : Cfg) (k : Int32 → Mem → Prop) (lp24 : Nat → Nat → Nat → Nat → Int32 → Int32 → Int32 → Mem → Prop) (u w : Nat) (v0 : Nat) (v1 : Nat) (v2 : Int32) (v3 : Int32) (v4 : Int32) : Mem → Prop :=
 mAs (u ≤ 7 ∧ w ≤ 42) <|
 mRecv v0 0 <|
 f_Jx4a65c_size_8abf5 K v0 (fun r1 =>
 mIf (r1 ≤ v3)
 (mAs (u ≤ 7 ∧ w ≤ 42) <|
 k v2)
 (f_X9_go_b39 K k lp24 mFuel u w v0 v1 v2 0 v4 0))
def f_X9_go_b24 (K : Cfg) (k : Int32 → Mem → Prop) : Nat → Nat → Nat → Nat → Nat → Int32 → Int32 → Int32 → Mem → Prop
  | 0 => fun _ _ _ _ _ _ _ _ => False
  | n + 1 => f_X9_go_b24_body K k (f_X9_go_b24 K k n)
def f_X9_go (K : Cfg) (a0 : Nat) (k : Int32 → Mem → Prop) : Mem → Prop :=
 mAs (0 ≤ 7 ∧ 0 ≤ 42) <|
 mRecv a0 0 <|
 f_Jx4a65c_size_8abf5 K a0 (fun r1 =>
 mAs (0 ≤ 7 ∧ 0 ≤ 42) <|
 mRecv a0 0 <|
 f_Jx4a65c_size_8abf5 K a0 (fun r2 =>
 mAs ((¬ r1 < 0 ∧ ¬ r2 < 0) ∧ r1.toNatClampNeg ≤ 6 ∧ r2.toNatClampNeg ≤ 6) <|
 mAs (0 + (1 + r1.toNatClampNeg) ≤ 7 ∧ 0 + (r1.toNatClampNeg + r1.toNatClampNeg * r2.toNatClampNeg) ≤ 42) <|
 mNewZ K r1.toNatClampNeg r2.toNatClampNeg fun x3 =>
 f_X9_go_b24 K k mFuel (0 + 1 + r1.toNatClampNeg) (0 + r1.toNatClampNeg + r1.toNatClampNeg * r2.toNatClampNeg) a0 x3 0 0 0))
abbrev rm_X9_go : Room := { frames := 4, cells := 7, slots := 42, locals := 87 }
set_option maxHeartbeats 4000000 in
set_option maxRecDepth 100000 in
theorem ct_X9_go {K : Cfg} {l : Launch} (hst : l.stackTraces = false) (a0 : Nat) : mPi K l yX9_go cX9_go 7 (some .int) rm_X9_go [.ref a0] (f_X9_go K a0) := by
  refine mPi.of hst (by decide +kernel) (Nat.le_of_ble_eq_true rfl) ?_
  intro M k Q hk hP p e s m below meth c X hr hlocks hname hM ls hl
  have hx := X.1.1
  have hb := X.1.2.1
  have X : Cx K p l s m ([.ref a0] : List Value).toArray c cX9_go 7 RX9 := X
  have hS : va_S (mFA K) s.heap s.heap [] := va_S.rf
  have hl : lv_has ls 7 [(0, .ref a0)] := hl
  have hb24 : ∀ (n24 : Nat) (u w : Nat) (v0 : Nat) (v1 : Nat) (v2 : Int32) (v3 : Int32) (v4 : Int32) (M : Mem) (H : Heap) (locs : List Loc) (ls : Array Slot), mh K M H → va_S (mFA K) s.heap H locs → lv_has ls 7 [(0, .ref v0), (1, .ref v1), (2, .int v2), (3, .int v3), (4, .int v4)] → f_X9_go_b24 K k n24 u w v0 v1 v2 v3 v4 M → W p l e rm_X9_go s m ([.ref a0] : List Value).toArray below meth c H locs u w (MQ below (mQ K Q) ([.ref a0] : List Value).toArray s rm_X9_go.cells rm_X9_go.slots (mFA K)) (F0 m 24 ls []) := by
    intro n24
    induction n24 with
    | zero =>
      intro u w v0 v1 v2 v3 v4 M H locs ls hM hS hl hP
      exact hP.elim
    | succ n24 ih24 =>
      have hb111 : ∀ (n111 : Nat) (u w : Nat) (v0 : Nat) (v1 : Nat) (v2 : Int32) (v3 : Int32) (v4 : Int32) (v5 : Int32) (M : Mem) (H : Heap) (locs : List Loc) (ls : Array Slot), mh K M H → va_S (mFA K) s.heap H locs → lv_has ls 7 [(0, .ref v0), (1, .ref v1), (2, .int v2), (3, .int v3), (4, .int v4), (5, .int v5)] → f_X9_go_b111 K k (f_X9_go_b24 K k n24) n111 u w v0 v1 v2 v3 v4 v5 M → W p l e rm_X9_go s m ([.ref a0] : List Value).toArray below meth c H locs u w (MQ below (mQ K Q) ([.ref a0] : List Value).toArray s rm_X9_go.cells rm_X9_go.slots (mFA K)) (F0 m 111 ls []) := by
        intro n111
        induction n111 with
        | zero =>
          intro u w v0 v1 v2 v3 v4 v5 M H locs ls hM hS hl hP
          exact hP.elim
        | succ n111 ih111 =>
          have hb125 : ∀ (n125 : Nat) (u w : Nat) (v0 : Nat) (v1 : Nat) (v2 : Int32) (v3 : Int32) (v4 : Int32) (v5 : Int32) (v6 : Int32) (M : Mem) (H : Heap) (locs : List Loc) (ls : Array Slot), mh K M H → va_S (mFA K) s.heap H locs → lv_has ls 7 [(0, .ref v0), (1, .ref v1), (2, .int v2), (3, .int v3), (4, .int v4), (5, .int v5), (6, .int v6)] → f_X9_go_b125 K k (f_X9_go_b24 K k n24) (f_X9_go_b111 K k (f_X9_go_b24 K k n24) n111) n125 u w v0 v1 v2 v3 v4 v5 v6 M → W p l e rm_X9_go s m ([.ref a0] : List Value).toArray below meth c H locs u w (MQ below (mQ K Q) ([.ref a0] : List Value).toArray s rm_X9_go.cells rm_X9_go.slots (mFA K)) (F0 m 125 ls []) := by
            intro n125
            induction n125 with
            | zero =>
              intro u w v0 v1 v2 v3 v4 v5 v6 M H locs ls hM hS hl hP
              exact hP.elim
            | succ n125 ih125 =>
              have hb184 : ∀ (u w : Nat) (v0 : Nat) (v1 : Nat) (v2 : Int32) (v3 : Int32) (v4 : Int32) (v5 : Int32) (v6 : Int32) (M : Mem) (H : Heap) (locs : List Loc) (ls : Array Slot), mh K M H → va_S (mFA K) s.heap H locs → lv_has ls 7 [(0, .ref v0), (1, .ref v1), (2, .int v2), (3, .int v3), (4, .int v4), (5, .int v5), (6, .int v6)] → f_X9_go_b184 K k (f_X9_go_b24 K k n24) (f_X9_go_b111 K k (f_X9_go_b24 K k n24) n111) (f_X9_go_b125 K k (f_X9_go_b24 K k n24) (f_X9_go_b111 K k (f_X9_go_b24 K k n24) n111) n125) u w v0 v1 v2 v3 v4 v5 v6 M → W p l e rm_X9_go s m ([.ref a0] : List Value).toArray below meth c H locs u w (MQ below (mQ K Q) ([.ref a0] : List Value).toArray s rm_X9_go.cells rm_X9_go.slots (mFA K)) (F0 m 184 ls []) := by
                intro u w v0 v1 v2 v3 v4 v5 v6 M H locs ls hM hS hl hP
                unfold f_X9_go_b184 at hP
                refine lv_iinc (v := v6 + 1) (lv' := [(6, .int (v6 + 1)), (0, .ref v0), (1, .ref v1), (2, .int v2), (3, .int v3), (4, .int v4), (5, .int v5)]) hx hb dX9_go_184 hl (k := 6) rfl rfl (by decide) rfl (fun ls hl => ?_)
                refine lv_goto (tgt := 125) hx hb dX9_go_187 (by decide) ?_
                exact ih125 u w v0 v1 v2 v3 v4 v5 (v6 + 1) _ _ _ _ hM hS (lv_sub hl [1, 2, 3, 4, 5, 6, 0] rfl) hP
              intro u w v0 v1 v2 v3 v4 v5 v6 M H locs ls hM hS hl hP
              have hP : f_X9_go_b125_body K k (f_X9_go_b24 K k n24) (f_X9_go_b111 K k (f_X9_go_b24 K k n24) n111) (f_X9_go_b125 K k (f_X9_go_b24 K k n24) (f_X9_go_b111 K k (f_X9_go_b24 K k n24) n111) n125) u w v0 v1 v2 v3 v4 v5 v6 M := hP
              unfold f_X9_go_b125_body at hP
              refine lv_iload hx hb dX9_go_125 (lv_at hl 6 rfl) ?_
              refine lv_iload hx hb dX9_go_127 (lv_at hl 5 rfl) ?_
              refine lv_icmp_ge (tgt := 190) hx hb dX9_go_129 (by decide) (fun hc => ?_) (fun hc => ?_)
              · have hP := mIf_t hP hc
                refine lv_iinc (v := v5 + 1) (lv' := [(5, .int (v5 + 1)), (0, .ref v0), (1, .ref v1), (2, .int v2), (3, .int v3), (4, .int v4), (6, .int v6)]) hx hb dX9_go_190 hl (k := 5) rfl rfl (by decide) rfl (fun ls hl => ?_)
                refine lv_goto (tgt := 111) hx hb dX9_go_193 (by decide) ?_
                exact ih111 u w v0 v1 v2 v3 v4 (v5 + 1) _ _ _ _ hM hS (lv_sub hl [1, 2, 3, 4, 5, 0] rfl) hP
              · have hP := mIf_f hP hc
                refine lv_aload_n hx hb dX9_go_132 rfl (lv_at hl 1 rfl) ?_
                refine lv_iload hx hb dX9_go_133 (lv_at hl 5 rfl) ?_
                refine r_ldqZ X hM hP dX9_go_135 (fun x1 hP => ?_)
                refine lv_iload hx hb dX9_go_136 (lv_at hl 6 rfl) ?_
                refine r_ldz X hM hP dX9_go_138 (fun x2 hP => ?_)
                refine lv_if_ne (tgt := 184) hx hb dX9_go_139 (by decide) (fun hc => ?_) (fun hc => ?_)
                · have hP := mIf_f hP hc
                  exact hb184 u w v0 v1 v2 v3 v4 v5 v6 _ _ _ _ hM hS (lv_sub hl [0, 1, 2, 3, 4, 5, 6] rfl) hP
                · have hP := mIf_t hP hc
                  refine lv_aload_n hx hb dX9_go_142 rfl (lv_at hl 0 rfl) ?_
                  refine lv_iload hx hb dX9_go_143 (lv_at hl 5 rfl) ?_
                  obtain ⟨hcs, hP⟩ := hP
                  refine r_callFr (rest := []) X hM hS (ct_Jx4a65c_get_915e3 hst v0 v5) hP mF_X9_57 rfl rfl hl.1 (Nat.le_of_ble_eq_true rfl) ⟨⟨by decide, by decide⟩, hcs⟩ dX9_go_145 (fun r3 M H locs hM hS hP => ?_)
                  refine r_cast (C := RX6) (T := TX6) (N := 13) X hM hP rfl al_X9_93 dX9_go_150 (fun hP => ?_)
                  refine lv_aload_n hx hb dX9_go_153 rfl (lv_at hl 0 rfl) ?_
                  refine lv_iload hx hb dX9_go_154 (lv_at hl 6 rfl) ?_
                  obtain ⟨hcs, hP⟩ := hP
                  refine r_callFr (rest := [.ref r3]) X hM hS (ct_Jx4a65c_get_915e3 hst v0 v6) hP mF_X9_57 rfl rfl hl.1 (Nat.le_of_ble_eq_true rfl) ⟨⟨by decide, by decide⟩, hcs⟩ dX9_go_156 (fun r4 M H locs hM hS hP => ?_)
                  refine r_cast (C := RX6) (T := TX6) (N := 13) X hM hP rfl al_X9_93 dX9_go_161 (fun hP => ?_)
                  obtain ⟨hcs, hP⟩ := hP
                  refine r_callVi (rest := []) (T := TX6) (N := 13) X hM hS (ct_X6_meets hst r3 r4) hP mV_X9_119 rfl rfl rfl hl.1 (Nat.le_of_ble_eq_true rfl) ⟨⟨by decide, by decide⟩, hcs⟩ dX9_go_164 (fun r5 M H locs hM hS hP => ?_)
                  refine lv_if_ne (tgt := 173) hx hb dX9_go_167 (by decide) (fun hc => ?_) (fun hc => ?_)
                  · have hP := mIf_f hP hc
                    refine lv_aload_n hx hb dX9_go_173 rfl (lv_at hl 1 rfl) ?_
                    refine lv_iload hx hb dX9_go_174 (lv_at hl 5 rfl) ?_
                    refine r_ldqZ X hM hP dX9_go_176 (fun x6 hP => ?_)
                    refine lv_iload hx hb dX9_go_177 (lv_at hl 6 rfl) ?_
                    refine lv_iconst (v := 1) hx hb dX9_go_179 (by decide) ?_
                    refine r_stz X hM hS hP dX9_go_180 (fun M H locs hM hS hP => ?_)
                    refine lv_iinc (v := v2 + 1) (lv' := [(2, .int (v2 + 1)), (0, .ref v0), (1, .ref v1), (3, .int v3), (4, .int v4), (5, .int v5), (6, .int v6)]) hx hb dX9_go_181 hl (k := 2) rfl rfl (by decide) rfl (fun ls hl => ?_)
                    exact hb184 u w v0 v1 (v2 + 1) v3 v4 v5 v6 _ _ _ _ hM hS (lv_sub hl [1, 2, 0, 3, 4, 5, 6] rfl) hP
                  · have hP := mIf_t hP hc
                    refine lv_goto (tgt := 184) hx hb dX9_go_170 (by decide) ?_
                    exact hb184 u w v0 v1 v2 v3 v4 v5 v6 _ _ _ _ hM hS (lv_sub hl [0, 1, 2, 3, 4, 5, 6] rfl) hP
          intro u w v0 v1 v2 v3 v4 v5 M H locs ls hM hS hl hP
          have hP : f_X9_go_b111_body K k (f_X9_go_b24 K k n24) (f_X9_go_b111 K k (f_X9_go_b24 K k n24) n111) u w v0 v1 v2 v3 v4 v5 M := hP
          unfold f_X9_go_b111_body at hP
          refine lv_iload hx hb dX9_go_111 (lv_at hl 5 rfl) ?_
          refine lv_aload_n hx hb dX9_go_113 rfl (lv_at hl 0 rfl) ?_
          obtain ⟨hcs, hP⟩ := hP
          refine r_callFi (rest := [.int v5]) X hM hS (ct_Jx4a65c_size_8abf5 hst v0) hP mF_X9_33 rfl rfl hl.1 (Nat.le_of_ble_eq_true rfl) ⟨⟨by decide, by decide⟩, hcs⟩ dX9_go_114 (fun r1 M H locs hM hS hP => ?_)
          refine lv_icmp_ge (tgt := 196) hx hb dX9_go_119 (by decide) (fun hc => ?_) (fun hc => ?_)
          · have hP := mIf_t hP hc
            refine lv_iinc (v := v4 + 1) (lv' := [(4, .int (v4 + 1)), (0, .ref v0), (1, .ref v1), (2, .int v2), (3, .int v3), (5, .int v5)]) hx hb dX9_go_196 hl (k := 4) rfl rfl (by decide) rfl (fun ls hl => ?_)
            refine lv_goto (tgt := 24) hx hb dX9_go_199 (by decide) ?_
            exact ih24 u w v0 v1 v2 v3 (v4 + 1) _ _ _ _ hM hS (lv_sub hl [1, 2, 3, 4, 0] rfl) hP
          · have hP := mIf_f hP hc
            refine lv_iconst (v := 0) hx hb dX9_go_122 (by decide) ?_
            refine lv_istore (lv' := [(6, .int 0), (0, .ref v0), (1, .ref v1), (2, .int v2), (3, .int v3), (4, .int v4), (5, .int v5)]) hx hb dX9_go_123 hl (by decide) rfl (fun ls hl => ?_)
            exact hb125 mFuel u w v0 v1 v2 v3 v4 v5 0 _ _ _ _ hM hS (lv_sub hl [1, 2, 3, 4, 5, 6, 0] rfl) hP
      have hb39 : ∀ (n39 : Nat) (u w : Nat) (v0 : Nat) (v1 : Nat) (v2 : Int32) (v3 : Int32) (v4 : Int32) (v5 : Int32) (M : Mem) (H : Heap) (locs : List Loc) (ls : Array Slot), mh K M H → va_S (mFA K) s.heap H locs → lv_has ls 7 [(0, .ref v0), (1, .ref v1), (2, .int v2), (3, .int v3), (4, .int v4), (5, .int v5)] → f_X9_go_b39 K k (f_X9_go_b24 K k n24) n39 u w v0 v1 v2 v3 v4 v5 M → W p l e rm_X9_go s m ([.ref a0] : List Value).toArray below meth c H locs u w (MQ below (mQ K Q) ([.ref a0] : List Value).toArray s rm_X9_go.cells rm_X9_go.slots (mFA K)) (F0 m 39 ls []) := by
        intro n39
        induction n39 with
        | zero =>
          intro u w v0 v1 v2 v3 v4 v5 M H locs ls hM hS hl hP
          exact hP.elim
        | succ n39 ih39 =>
          have hb100 : ∀ (u w : Nat) (v0 : Nat) (v1 : Nat) (v2 : Int32) (v4 : Int32) (v5 : Int32) (t0 : Int32) (t1 : Int32) (M : Mem) (H : Heap) (locs : List Loc) (ls : Array Slot), mh K M H → va_S (mFA K) s.heap H locs → lv_has ls 7 [(0, .ref v0), (1, .ref v1), (2, .int v2), (4, .int v4), (5, .int v5)] → f_X9_go_b100 K k (f_X9_go_b24 K k n24) (f_X9_go_b39 K k (f_X9_go_b24 K k n24) n39) u w v0 v1 v2 v4 v5 t0 t1 M → W p l e rm_X9_go s m ([.ref a0] : List Value).toArray below meth c H locs u w (MQ below (mQ K Q) ([.ref a0] : List Value).toArray s rm_X9_go.cells rm_X9_go.slots (mFA K)) (F0 m 100 ls [.int t1, .int t0]) := by
            intro u w v0 v1 v2 v4 v5 t0 t1 M H locs ls hM hS hl hP
            unfold f_X9_go_b100 at hP
            refine lv_iadd hx hb dX9_go_100 ?_
            refine lv_istore_n (lv' := [(3, .int (t0 + t1)), (0, .ref v0), (1, .ref v1), (2, .int v2), (4, .int v4), (5, .int v5)]) hx hb dX9_go_101 rfl hl (by decide) rfl (fun ls hl => ?_)
            refine lv_iinc (v := v5 + 1) (lv' := [(5, .int (v5 + 1)), (3, .int (t0 + t1)), (0, .ref v0), (1, .ref v1), (2, .int v2), (4, .int v4)]) hx hb dX9_go_102 hl (k := 5) rfl rfl (by decide) rfl (fun ls hl => ?_)
            refine lv_goto (tgt := 39) hx hb dX9_go_105 (by decide) ?_
            exact ih39 u w v0 v1 v2 (t0 + t1) v4 (v5 + 1) _ _ _ _ hM hS (lv_sub hl [2, 3, 4, 1, 5, 0] rfl) hP
          have hb86 : ∀ (u w : Nat) (v0 : Nat) (v1 : Nat) (v2 : Int32) (v3 : Int32) (v4 : Int32) (v5 : Int32) (v6 : Nat) (M : Mem) (H : Heap) (locs : List Loc) (ls : Array Slot), mh K M H → va_S (mFA K) s.heap H locs → lv_has ls 7 [(0, .ref v0), (1, .ref v1), (2, .int v2), (3, .int v3), (4, .int v4), (5, .int v5), (6, .ref v6)] → f_X9_go_b86 K k (f_X9_go_b24 K k n24) (f_X9_go_b39 K k (f_X9_go_b24 K k n24) n39) u w v0 v1 v2 v3 v4 v5 v6 M → W p l e rm_X9_go s m ([.ref a0] : List Value).toArray below meth c H locs u w (MQ below (mQ K Q) ([.ref a0] : List Value).toArray s rm_X9_go.cells rm_X9_go.slots (mFA K)) (F0 m 86 ls []) := by
            intro u w v0 v1 v2 v3 v4 v5 v6 M H locs ls hM hS hl hP
            unfold f_X9_go_b86 at hP
            refine lv_iload_n hx hb dX9_go_86 rfl (lv_at hl 3 rfl) ?_
            refine lv_aload hx hb dX9_go_87 (lv_at hl 6 rfl) ?_
            obtain ⟨hcs, hP⟩ := hP
            refine r_callVi (rest := [.int v3]) (T := TX6) (N := 13) X hM hS (ct_X6_isDown hst v6) hP mV_X9_112 rfl rfl rfl hl.1 (Nat.le_of_ble_eq_true rfl) ⟨⟨by decide, by decide⟩, hcs⟩ dX9_go_89 (fun r1 M H locs hM hS hP => ?_)
            refine lv_if_eq (tgt := 99) hx hb dX9_go_92 (by decide) (fun hc => ?_) (fun hc => ?_)
            · have hP := mIf_t hP hc
              refine lv_iconst (v := 0) hx hb dX9_go_99 (by decide) ?_
              exact hb100 u w v0 v1 v2 v4 v5 v3 0 _ _ _ _ hM hS (lv_sub hl [0, 1, 2, 4, 5] rfl) hP
            · have hP := mIf_f hP hc
              refine lv_iconst (v := 1) hx hb dX9_go_95 (by decide) ?_
              refine lv_goto (tgt := 100) hx hb dX9_go_96 (by decide) ?_
              exact hb100 u w v0 v1 v2 v4 v5 v3 1 _ _ _ _ hM hS (lv_sub hl [0, 1, 2, 4, 5] rfl) hP
          intro u w v0 v1 v2 v3 v4 v5 M H locs ls hM hS hl hP
          have hP : f_X9_go_b39_body K k (f_X9_go_b24 K k n24) (f_X9_go_b39 K k (f_X9_go_b24 K k n24) n39) u w v0 v1 v2 v3 v4 v5 M := hP
          unfold f_X9_go_b39_body at hP
          refine lv_iload hx hb dX9_go_39 (lv_at hl 5 rfl) ?_
          refine lv_aload_n hx hb dX9_go_41 rfl (lv_at hl 0 rfl) ?_
          obtain ⟨hcs, hP⟩ := hP
          refine r_callFi (rest := [.int v5]) X hM hS (ct_Jx4a65c_size_8abf5 hst v0) hP mF_X9_33 rfl rfl hl.1 (Nat.le_of_ble_eq_true rfl) ⟨⟨by decide, by decide⟩, hcs⟩ dX9_go_42 (fun r1 M H locs hM hS hP => ?_)
          refine lv_icmp_ge (tgt := 108) hx hb dX9_go_47 (by decide) (fun hc => ?_) (fun hc => ?_)
          · have hP := mIf_t hP hc
            refine lv_iconst (v := 0) hx hb dX9_go_108 (by decide) ?_
            refine lv_istore (lv' := [(5, .int 0), (0, .ref v0), (1, .ref v1), (2, .int v2), (3, .int v3), (4, .int v4)]) hx hb dX9_go_109 hl (by decide) rfl (fun ls hl => ?_)
            exact hb111 mFuel u w v0 v1 v2 v3 v4 0 _ _ _ _ hM hS (lv_sub hl [1, 2, 3, 4, 5, 0] rfl) hP
          · have hP := mIf_f hP hc
            refine lv_aload_n hx hb dX9_go_50 rfl (lv_at hl 0 rfl) ?_
            refine lv_iload hx hb dX9_go_51 (lv_at hl 5 rfl) ?_
            obtain ⟨hcs, hP⟩ := hP
            refine r_callFr (rest := []) X hM hS (ct_Jx4a65c_get_915e3 hst v0 v5) hP mF_X9_57 rfl rfl hl.1 (Nat.le_of_ble_eq_true rfl) ⟨⟨by decide, by decide⟩, hcs⟩ dX9_go_53 (fun r2 M H locs hM hS hP => ?_)
            refine r_cast (C := RX6) (T := TX6) (N := 13) X hM hP rfl al_X9_93 dX9_go_58 (fun hP => ?_)
            refine lv_astore (lv' := [(6, .ref r2), (0, .ref v0), (1, .ref v1), (2, .int v2), (3, .int v3), (4, .int v4), (5, .int v5)]) hx hb dX9_go_61 hl (by decide) rfl (fun ls hl => ?_)
            refine lv_aload hx hb dX9_go_63 (lv_at hl 0 rfl) ?_
            refine r_geti X hM hP fl_X9_109 dX9_go_65 (fun x3 hP => ?_)
            refine lv_iload hx hb dX9_go_68 (lv_at hl 5 rfl) ?_
            refine lv_icmp_gt (tgt := 86) hx hb dX9_go_70 (by decide) (fun hc => ?_) (fun hc => ?_)
            · have hP := mIf_t hP hc
              exact hb86 u w v0 v1 v2 v3 v4 v5 r2 _ _ _ _ hM hS (lv_sub hl [1, 2, 3, 4, 5, 6, 0] rfl) hP
            · have hP := mIf_f hP hc
              refine lv_aload hx hb dX9_go_73 (lv_at hl 0 rfl) ?_
              obtain ⟨hcs, hP⟩ := hP
              refine r_callVi (rest := []) (T := TX6) (N := 13) X hM hS (ct_X6_isDown hst r2) hP mV_X9_112 rfl rfl rfl hl.1 (Nat.le_of_ble_eq_true rfl) ⟨⟨by decide, by decide⟩, hcs⟩ dX9_go_75 (fun r4 M H locs hM hS hP => ?_)
              refine lv_if_ne (tgt := 86) hx hb dX9_go_78 (by decide) (fun hc => ?_) (fun hc => ?_)
              · have hP := mIf_f hP hc
                exact hb86 u w v0 v1 v2 v3 v4 v5 r2 _ _ _ _ hM hS (lv_sub hl [1, 2, 3, 4, 5, 6, 0] rfl) hP
              · have hP := mIf_t hP hc
                refine lv_aload hx hb dX9_go_81 (lv_at hl 0 rfl) ?_
                obtain ⟨hcs, hP⟩ := hP
                refine r_callVv (rest := []) (T := TX6) (N := 13) X hM hS (ct_X6_tick hst r2) hP mV_X9_116 rfl rfl rfl hl.1 (Nat.le_of_ble_eq_true rfl) ⟨⟨by decide, by decide⟩, hcs⟩ dX9_go_83 (fun M H locs hM hS hP => ?_)
                exact hb86 u w v0 v1 v2 v3 v4 v5 r2 _ _ _ _ hM hS (lv_sub hl [1, 2, 3, 4, 5, 6, 0] rfl) hP
      intro u w v0 v1 v2 v3 v4 M H locs ls hM hS hl hP
      have hP : f_X9_go_b24_body K k (f_X9_go_b24 K k n24) u w v0 v1 v2 v3 v4 M := hP
      unfold f_X9_go_b24_body at hP
      refine lv_iload_n hx hb dX9_go_24 rfl (lv_at hl 3 rfl) ?_
      refine lv_aload_n hx hb dX9_go_25 rfl (lv_at hl 0 rfl) ?_
      obtain ⟨hcs, hP⟩ := hP
      refine r_callFi (rest := [.int v3]) X hM hS (ct_Jx4a65c_size_8abf5 hst v0) hP mF_X9_33 rfl rfl hl.1 (Nat.le_of_ble_eq_true rfl) ⟨⟨by decide, by decide⟩, hcs⟩ dX9_go_26 (fun r1 M H locs hM hS hP => ?_)
      refine lv_icmp_ge (tgt := 202) hx hb dX9_go_31 (by decide) (fun hc => ?_) (fun hc => ?_)
      · have hP := mIf_t hP hc
        refine lv_iload_n hx hb dX9_go_202 rfl (lv_at hl 2 rfl) ?_
        obtain ⟨⟨h97, h98⟩, hP⟩ := hP
        exact e_iret X hM hS (hk _ _ hP) hr hlocks h97 h98 dX9_go_203
      · have hP := mIf_f hP hc
        refine lv_iconst (v := 0) hx hb dX9_go_34 (by decide) ?_
        refine lv_istore_n (lv' := [(3, .int 0), (0, .ref v0), (1, .ref v1), (2, .int v2), (4, .int v4)]) hx hb dX9_go_35 rfl hl (by decide) rfl (fun ls hl => ?_)
        refine lv_iconst (v := 0) hx hb dX9_go_36 (by decide) ?_
        refine lv_istore (lv' := [(5, .int 0), (3, .int 0), (0, .ref v0), (1, .ref v1), (2, .int v2), (4, .int v4)]) hx hb dX9_go_37 hl (by decide) rfl (fun ls hl => ?_)
        exact hb39 mFuel u w v0 v1 v2 0 v4 0 _ _ _ _ hM hS (lv_sub hl [2, 3, 4, 1, 5, 0] rfl) hP
  unfold f_X9_go at hP
  refine lv_aload_n hx hb dX9_go_0 rfl (lv_at hl 0 rfl) ?_
  obtain ⟨hcs, hP⟩ := hP
  refine r_callFi (rest := []) X hM hS (ct_Jx4a65c_size_8abf5 hst a0) hP mF_X9_33 rfl rfl hl.1 (Nat.le_of_ble_eq_true rfl) ⟨⟨by decide, by decide⟩, hcs⟩ dX9_go_1 (fun r1 M H locs hM hS hP => ?_)
  refine lv_aload_n hx hb dX9_go_6 rfl (lv_at hl 0 rfl) ?_
  obtain ⟨hcs, hP⟩ := hP
  refine r_callFi (rest := [.int r1]) X hM hS (ct_Jx4a65c_size_8abf5 hst a0) hP mF_X9_33 rfl rfl hl.1 (Nat.le_of_ble_eq_true rfl) ⟨⟨by decide, by decide⟩, hcs⟩ dX9_go_7 (fun r2 M H locs hM hS hP => ?_)
  obtain ⟨⟨⟨h91, h92⟩, h93, h94⟩, hP⟩ := hP
  obtain ⟨hcs, hP⟩ := hP
  refine r_newz al_X9_107 ac_boolean X hM hS hP h91 h92 rfl rfl (by omega) (by omega) hcs dX9_go_12 (fun x3 M H hM hS hP => ?_)
  refine lv_astore_n (lv' := [(1, .ref x3), (0, .ref a0)]) hx hb dX9_go_16 rfl hl (by decide) rfl (fun ls hl => ?_)
  refine lv_iconst (v := 0) hx hb dX9_go_17 (by decide) ?_
  refine lv_istore_n (lv' := [(2, .int 0), (1, .ref x3), (0, .ref a0)]) hx hb dX9_go_18 rfl hl (by decide) rfl (fun ls hl => ?_)
  refine lv_iconst (v := 0) hx hb dX9_go_19 (by decide) ?_
  refine lv_istore_n (lv' := [(3, .int 0), (2, .int 0), (1, .ref x3), (0, .ref a0)]) hx hb dX9_go_20 rfl hl (by decide) rfl (fun ls hl => ?_)
  refine lv_iconst (v := 0) hx hb dX9_go_21 (by decide) ?_
  refine lv_istore (lv' := [(4, .int 0), (3, .int 0), (2, .int 0), (1, .ref x3), (0, .ref a0)]) hx hb dX9_go_22 hl (by decide) rfl (fun ls hl => ?_)
  exact hb24 mFuel (0 + 1 + r1.toNatClampNeg) (0 + r1.toNatClampNeg + r1.toNatClampNeg * r2.toNatClampNeg) a0 x3 0 0 0 _ _ _ _ hM hS (lv_sub hl [4, 3, 2, 1, 0] rfl) hP
def f_X9_points_b4_body (K : Cfg) (k : Int32 → Mem → Prop) (lp4 : Nat → Int32 → Int32 → Mem → Prop) (v0 : Nat) (v1 : Int32) (v2 : Int32) : Mem → Prop :=
 mRecv v0 0 <|
 f_Jx4a65c_size_8abf5 K v0 (fun r1 =>
 mIf (r1 ≤ v2)
 (k v1)
 (mRecv v0 0 <|
 f_Jx4a65c_get_915e3 K v0 v2 (fun r2 =>
 mRecv r2 7 <|
 mRecv r2 7 <|
 f_X6_points K r2 (fun r3 =>
 lp4 v0 (v1 + r3) (v2 + 1)))))
def f_X9_points_b4 (K : Cfg) (k : Int32 → Mem → Prop) : Nat → Nat → Int32 → Int32 → Mem → Prop
  | 0 => fun _ _ _ _ => False
  | n + 1 => f_X9_points_b4_body K k (f_X9_points_b4 K k n)
def f_X9_points (K : Cfg) (a0 : Nat) (k : Int32 → Mem → Prop) : Mem → Prop :=
 f_X9_points_b4 K k mFuel a0 0 0
abbrev rm_X9_points : Room := { frames := 3, cells := 0, slots := 0, locals := 64 }
set_option maxHeartbeats 4000000 in
set_option maxRecDepth 100000 in
theorem ct_X9_points {K : Cfg} {l : Launch} (hst : l.stackTraces = false) (a0 : Nat) : mPi K l yX9_points cX9_points 3 (some .int) rm_X9_points [.ref a0] (f_X9_points K a0) := by
  refine mPi.of hst (by decide +kernel) (Nat.le_of_ble_eq_true rfl) ?_
  intro M k Q hk hP p e s m below meth c X hr hlocks hname hM ls hl
  have hx := X.1.1
  have hb := X.1.2.1
  have X : Cx K p l s m ([.ref a0] : List Value).toArray c cX9_points 3 RX9 := X
  have hS : va_S (mFA K) s.heap s.heap [] := va_S.rf
  have hl : lv_has ls 3 [(0, .ref a0)] := hl
  have hb4 : ∀ (n4 : Nat) (v0 : Nat) (v1 : Int32) (v2 : Int32) (M : Mem) (H : Heap) (locs : List Loc) (ls : Array Slot), mh K M H → va_S (mFA K) s.heap H locs → lv_has ls 3 [(0, .ref v0), (1, .int v1), (2, .int v2)] → f_X9_points_b4 K k n4 v0 v1 v2 M → W p l e rm_X9_points s m ([.ref a0] : List Value).toArray below meth c H locs 0 0 (MQ below (mQ K Q) ([.ref a0] : List Value).toArray s rm_X9_points.cells rm_X9_points.slots (mFA K)) (F0 m 4 ls []) := by
    intro n4
    induction n4 with
    | zero =>
      intro v0 v1 v2 M H locs ls hM hS hl hP
      exact hP.elim
    | succ n4 ih4 =>
      intro v0 v1 v2 M H locs ls hM hS hl hP
      have hP : f_X9_points_b4_body K k (f_X9_points_b4 K k n4) v0 v1 v2 M := hP
      unfold f_X9_points_b4_body at hP
      refine lv_iload_n hx hb dX9_points_4 rfl (lv_at hl 2 rfl) ?_
      refine lv_aload_n hx hb dX9_points_5 rfl (lv_at hl 0 rfl) ?_
      refine r_callFi (rest := [.int v2]) X hM hS (ct_Jx4a65c_size_8abf5 hst v0) hP mF_X9_33 rfl rfl hl.1 (Nat.le_of_ble_eq_true rfl) ⟨⟨by decide, by decide⟩, ⟨by decide, by decide⟩⟩ dX9_points_6 (fun r1 M H locs hM hS hP => ?_)
      refine lv_icmp_ge (tgt := 36) hx hb dX9_points_11 (by decide) (fun hc => ?_) (fun hc => ?_)
      · have hP := mIf_t hP hc
        refine lv_iload_n hx hb dX9_points_36 rfl (lv_at hl 1 rfl) ?_
        exact e_iret X hM hS (hk _ _ hP) hr hlocks (by decide) (by decide) dX9_points_37
      · have hP := mIf_f hP hc
        refine lv_iload_n hx hb dX9_points_14 rfl (lv_at hl 1 rfl) ?_
        refine lv_aload_n hx hb dX9_points_15 rfl (lv_at hl 0 rfl) ?_
        refine lv_iload_n hx hb dX9_points_16 rfl (lv_at hl 2 rfl) ?_
        refine r_callFr (rest := [.int v1]) X hM hS (ct_Jx4a65c_get_915e3 hst v0 v2) hP mF_X9_57 rfl rfl hl.1 (Nat.le_of_ble_eq_true rfl) ⟨⟨by decide, by decide⟩, ⟨by decide, by decide⟩⟩ dX9_points_17 (fun r2 M H locs hM hS hP => ?_)
        refine r_cast (C := RX6) (T := TX6) (N := 13) X hM hP rfl al_X9_93 dX9_points_22 (fun hP => ?_)
        refine r_callVi (rest := [.int v1]) (T := TX6) (N := 13) X hM hS (ct_X6_points hst r2) hP mV_X9_123 rfl rfl rfl hl.1 (Nat.le_of_ble_eq_true rfl) ⟨⟨by decide, by decide⟩, ⟨by decide, by decide⟩⟩ dX9_points_25 (fun r3 M H locs hM hS hP => ?_)
        refine lv_iadd hx hb dX9_points_28 ?_
        refine lv_istore_n (lv' := [(1, .int (v1 + r3)), (0, .ref v0), (2, .int v2)]) hx hb dX9_points_29 rfl hl (by decide) rfl (fun ls hl => ?_)
        refine lv_iinc (v := v2 + 1) (lv' := [(2, .int (v2 + 1)), (1, .int (v1 + r3)), (0, .ref v0)]) hx hb dX9_points_30 hl (k := 2) rfl rfl (by decide) rfl (fun ls hl => ?_)
        refine lv_goto (tgt := 4) hx hb dX9_points_33 (by decide) ?_
        exact ih4 v0 (v1 + r3) (v2 + 1) _ _ _ _ hM hS (lv_sub hl [2, 1, 0] rfl) hP
  unfold f_X9_points at hP
  refine lv_iconst (v := 0) hx hb dX9_points_0 (by decide) ?_
  refine lv_istore_n (lv' := [(1, .int 0), (0, .ref a0)]) hx hb dX9_points_1 rfl hl (by decide) rfl (fun ls hl => ?_)
  refine lv_iconst (v := 0) hx hb dX9_points_2 (by decide) ?_
  refine lv_istore_n (lv' := [(2, .int 0), (1, .int 0), (0, .ref a0)]) hx hb dX9_points_3 rfl hl (by decide) rfl (fun ls hl => ?_)
  exact hb4 mFuel a0 0 0 _ _ _ _ hM hS (lv_sub hl [2, 1, 0] rfl) hP
def f_X9_jumper_b26 (K : Cfg) (k : Int32 → Mem → Prop) (v0 : Nat) : Mem → Prop :=
 mRecv v0 10 <|
 f_X9_no K v0 1 (fun r1 =>
 k r1)
def f_X9_jumper (K : Cfg) (a0 : Nat) (a1 : Int32) (a2 : Int32) (k : Int32 → Mem → Prop) : Mem → Prop :=
 mPut a0 10 0 (.int 0) <|
 f_X9_in K a1 50 130 (fun r1 =>
 mIf (r1 = 0)
 (f_X9_jumper_b26 K k a0)
 (f_X9_in K a2 0 3 (fun r2 =>
 mIf (r2 = 0)
 (f_X9_jumper_b26 K k a0)
 (mGetR a0 10 1 fun x3 =>
 mRecv x3 0 <|
 f_Jx4a65c_size_8abf5 K x3 (fun r4 =>
 mIf (r4 = 8)
 (mRecv a0 10 <|
 f_X9_no K a0 2 (fun r12 =>
 k r12))
 (mGetR a0 10 1 fun x5 =>
 mNew K 8 [.int 0, .int 0, .int 0, .int 0, .int 0, .int 0, .int 0, .int 0, .double 0, .double 0, .int 0, .int 0] fun x6 =>
 mGetI a0 10 5 fun x7 =>
 f_X7_init K x6 a1 a2 x7 (
 mRecv x5 0 <|
 f_Jx4a65c_add_9ea2d K x5 x6 (fun r9 =>
 mGetR a0 10 1 fun x10 =>
 mRecv x10 0 <|
 f_Jx4a65c_size_8abf5 K x10 (fun r11 =>
 k (r11 - 1))))))))))
abbrev rm_X9_jumper : Room := { frames := 5, cells := 2, slots := 22, locals := 108 }
set_option maxHeartbeats 4000000 in
set_option maxRecDepth 100000 in
theorem ct_X9_jumper {K : Cfg} {l : Launch} (hst : l.stackTraces = false) (a0 : Nat) (a1 : Int32) (a2 : Int32) : mPi K l yX9_jumper cX9_jumper 3 (some .int) rm_X9_jumper [.ref a0, .int a1, .int a2] (f_X9_jumper K a0 a1 a2) := by
  refine mPi.of hst (by decide +kernel) (Nat.le_of_ble_eq_true rfl) ?_
  intro M k Q hk hP p e s m below meth c X hr hlocks hname hM ls hl
  have hx := X.1.1
  have hb := X.1.2.1
  have X : Cx K p l s m ([.ref a0, .int a1, .int a2] : List Value).toArray c cX9_jumper 3 RX9 := X
  have hS : va_S (mFA K) s.heap s.heap [] := va_S.rf
  have hl : lv_has ls 3 [(0, .ref a0), (1, .int a1), (2, .int a2)] := hl
  have hb26 : ∀ (v0 : Nat) (M : Mem) (H : Heap) (locs : List Loc) (ls : Array Slot), mh K M H → va_S (mFA K) s.heap H locs → lv_has ls 3 [(0, .ref v0)] → f_X9_jumper_b26 K k v0 M → W p l e rm_X9_jumper s m ([.ref a0, .int a1, .int a2] : List Value).toArray below meth c H locs 0 0 (MQ below (mQ K Q) ([.ref a0, .int a1, .int a2] : List Value).toArray s rm_X9_jumper.cells rm_X9_jumper.slots (mFA K)) (F0 m 26 ls []) := by
    intro v0 M H locs ls hM hS hl hP
    unfold f_X9_jumper_b26 at hP
    refine lv_aload_n hx hb dX9_jumper_26 rfl (lv_at hl 0 rfl) ?_
    refine lv_iconst (v := 1) hx hb dX9_jumper_27 (by decide) ?_
    refine r_callVi (rest := []) (T := TX9) (N := 14) X hM hS (ct_X9_no hst v0 1) hP mV_X9_126 rfl rfl rfl hl.1 (Nat.le_of_ble_eq_true rfl) ⟨⟨by decide, by decide⟩, ⟨by decide, by decide⟩⟩ dX9_jumper_28 (fun r1 M H locs hM hS hP => ?_)
    exact e_iret X hM hS (hk _ _ hP) hr hlocks (by decide) (by decide) dX9_jumper_31
  unfold f_X9_jumper at hP
  refine lv_aload_n hx hb dX9_jumper_0 rfl (lv_at hl 0 rfl) ?_
  refine lv_iconst (v := 0) hx hb dX9_jumper_1 (by decide) ?_
  refine r_put X hM hS hP fl_X9_30 ft_X9 rfl (tyX9_ok 0 (Nat.le_of_ble_eq_true rfl)) rfl rfl dX9_jumper_2 (fun M H locs hM hS hP => ?_)
  refine lv_iload_n hx hb dX9_jumper_5 rfl (lv_at hl 1 rfl) ?_
  refine lv_bipush (v := 50) hx hb dX9_jumper_6 (by decide) ?_
  refine lv_sipush (v := 130) hx hb dX9_jumper_8 (by decide) ?_
  refine r_callSi (rest := []) X hM hS (ct_X9_in hst a1 50 130) hP mS_X9_39 rfl rfl hl.1 (Nat.le_of_ble_eq_true rfl) ⟨⟨by decide, by decide⟩, ⟨by decide, by decide⟩⟩ dX9_jumper_11 (fun r1 M H locs hM hS hP => ?_)
  refine lv_if_eq (tgt := 26) hx hb dX9_jumper_14 (by decide) (fun hc => ?_) (fun hc => ?_)
  · have hP := mIf_t hP hc
    exact hb26 a0 _ _ _ _ hM hS (lv_sub hl [0] rfl) hP
  · have hP := mIf_f hP hc
    refine lv_iload_n hx hb dX9_jumper_17 rfl (lv_at hl 2 rfl) ?_
    refine lv_iconst (v := 0) hx hb dX9_jumper_18 (by decide) ?_
    refine lv_iconst (v := 3) hx hb dX9_jumper_19 (by decide) ?_
    refine r_callSi (rest := []) X hM hS (ct_X9_in hst a2 0 3) hP mS_X9_39 rfl rfl hl.1 (Nat.le_of_ble_eq_true rfl) ⟨⟨by decide, by decide⟩, ⟨by decide, by decide⟩⟩ dX9_jumper_20 (fun r2 M H locs hM hS hP => ?_)
    refine lv_if_ne (tgt := 32) hx hb dX9_jumper_23 (by decide) (fun hc => ?_) (fun hc => ?_)
    · have hP := mIf_f hP hc
      refine lv_aload_n hx hb dX9_jumper_32 rfl (lv_at hl 0 rfl) ?_
      refine r_getr X hM hP fl_X9_10 dX9_jumper_33 (fun x3 hP => ?_)
      refine r_callFi (rest := []) X hM hS (ct_Jx4a65c_size_8abf5 hst x3) hP mF_X9_33 rfl rfl hl.1 (Nat.le_of_ble_eq_true rfl) ⟨⟨by decide, by decide⟩, ⟨by decide, by decide⟩⟩ dX9_jumper_36 (fun r4 M H locs hM hS hP => ?_)
      refine lv_bipush (v := 8) hx hb dX9_jumper_41 (by decide) ?_
      refine lv_icmp_ne (tgt := 52) hx hb dX9_jumper_43 (by decide) (fun hc => ?_) (fun hc => ?_)
      · have hP := mIf_f hP hc
        refine lv_aload_n hx hb dX9_jumper_52 rfl (lv_at hl 0 rfl) ?_
        refine r_getr X hM hP fl_X9_10 dX9_jumper_53 (fun x5 hP => ?_)
        refine r_new X hM hS hP nl_X9_44 ft_X7 df_X7 ⟨by decide, by decide⟩ dX9_jumper_56 (fun x6 M H hM hS hP => ?_)
        refine lv_dup hx hb dX9_jumper_59 rfl ?_
        refine lv_iload_n hx hb dX9_jumper_60 rfl (lv_at hl 1 rfl) ?_
        refine lv_iload_n hx hb dX9_jumper_61 rfl (lv_at hl 2 rfl) ?_
        refine lv_aload_n hx hb dX9_jumper_62 rfl (lv_at hl 0 rfl) ?_
        refine r_geti X hM hP fl_X9_129 dX9_jumper_63 (fun x7 hP => ?_)
        refine r_callIv (rest := [.ref x6, .ref x5]) X hM hS (ct_X7_init hst x6 a1 a2 x7) hP mI_X9_132 rfl rfl hl.1 (Nat.le_of_ble_eq_true rfl) ⟨⟨by decide, by decide⟩, ⟨by decide, by decide⟩⟩ dX9_jumper_66 (fun M H locs hM hS hP => ?_)
        refine r_callFi (rest := []) X hM hS (ct_Jx4a65c_add_9ea2d hst x5 x6) hP mF_X9_103 rfl rfl hl.1 (Nat.le_of_ble_eq_true rfl) ⟨⟨by decide, by decide⟩, ⟨by decide, by decide⟩⟩ dX9_jumper_69 (fun r9 M H locs hM hS hP => ?_)
        refine lv_pop hx hb dX9_jumper_74 rfl ?_
        refine lv_aload_n hx hb dX9_jumper_75 rfl (lv_at hl 0 rfl) ?_
        refine r_getr X hM hP fl_X9_10 dX9_jumper_76 (fun x10 hP => ?_)
        refine r_callFi (rest := []) X hM hS (ct_Jx4a65c_size_8abf5 hst x10) hP mF_X9_33 rfl rfl hl.1 (Nat.le_of_ble_eq_true rfl) ⟨⟨by decide, by decide⟩, ⟨by decide, by decide⟩⟩ dX9_jumper_79 (fun r11 M H locs hM hS hP => ?_)
        refine lv_iconst (v := 1) hx hb dX9_jumper_84 (by decide) ?_
        refine lv_isub hx hb dX9_jumper_85 ?_
        exact e_iret X hM hS (hk _ _ hP) hr hlocks (by decide) (by decide) dX9_jumper_86
      · have hP := mIf_t hP hc
        refine lv_aload_n hx hb dX9_jumper_46 rfl (lv_at hl 0 rfl) ?_
        refine lv_iconst (v := 2) hx hb dX9_jumper_47 (by decide) ?_
        refine r_callVi (rest := []) (T := TX9) (N := 14) X hM hS (ct_X9_no hst a0 2) hP mV_X9_126 rfl rfl rfl hl.1 (Nat.le_of_ble_eq_true rfl) ⟨⟨by decide, by decide⟩, ⟨by decide, by decide⟩⟩ dX9_jumper_48 (fun r12 M H locs hM hS hP => ?_)
        exact e_iret X hM hS (hk _ _ hP) hr hlocks (by decide) (by decide) dX9_jumper_51
    · have hP := mIf_t hP hc
      exact hb26 a0 _ _ _ _ hM hS (lv_sub hl [0] rfl) hP
def f_X9_rig_b27 (K : Cfg) (k : Int32 → Mem → Prop) (v0 : Nat) : Mem → Prop :=
 mRecv v0 10 <|
 f_X9_no K v0 1 (fun r1 =>
 k r1)
def f_X9_rig (K : Cfg) (a0 : Nat) (a1 : Int32) (a2 : Int32) (k : Int32 → Mem → Prop) : Mem → Prop :=
 mPut a0 10 0 (.int 0) <|
 f_X9_in K a1 80 300 (fun r1 =>
 mIf (r1 = 0)
 (f_X9_rig_b27 K k a0)
 (f_X9_in K a2 0 60 (fun r2 =>
 mIf (r2 = 0)
 (f_X9_rig_b27 K k a0)
 (mGetR a0 10 2 fun x3 =>
 mRecv x3 0 <|
 f_Jx4a65c_size_8abf5 K x3 (fun r4 =>
 mIf (r4 = 8)
 (mRecv a0 10 <|
 f_X9_no K a0 2 (fun r12 =>
 k r12))
 (mGetR a0 10 2 fun x5 =>
 mNew K 9 [.int 0, .int 0, .int 0, .int 0, .float 0] fun x6 =>
 mGetI a0 10 5 fun x7 =>
 f_X8_init K x6 a1 (x7 + a2) (
 mRecv x5 0 <|
 f_Jx4a65c_add_9ea2d K x5 x6 (fun r9 =>
 mGetR a0 10 2 fun x10 =>
 mRecv x10 0 <|
 f_Jx4a65c_size_8abf5 K x10 (fun r11 =>
 k (r11 - 1))))))))))
abbrev rm_X9_rig : Room := { frames := 5, cells := 2, slots := 15, locals := 108 }
set_option maxHeartbeats 4000000 in
set_option maxRecDepth 100000 in
theorem ct_X9_rig {K : Cfg} {l : Launch} (hst : l.stackTraces = false) (a0 : Nat) (a1 : Int32) (a2 : Int32) : mPi K l yX9_rig cX9_rig 3 (some .int) rm_X9_rig [.ref a0, .int a1, .int a2] (f_X9_rig K a0 a1 a2) := by
  refine mPi.of hst (by decide +kernel) (Nat.le_of_ble_eq_true rfl) ?_
  intro M k Q hk hP p e s m below meth c X hr hlocks hname hM ls hl
  have hx := X.1.1
  have hb := X.1.2.1
  have X : Cx K p l s m ([.ref a0, .int a1, .int a2] : List Value).toArray c cX9_rig 3 RX9 := X
  have hS : va_S (mFA K) s.heap s.heap [] := va_S.rf
  have hl : lv_has ls 3 [(0, .ref a0), (1, .int a1), (2, .int a2)] := hl
  have hb27 : ∀ (v0 : Nat) (M : Mem) (H : Heap) (locs : List Loc) (ls : Array Slot), mh K M H → va_S (mFA K) s.heap H locs → lv_has ls 3 [(0, .ref v0)] → f_X9_rig_b27 K k v0 M → W p l e rm_X9_rig s m ([.ref a0, .int a1, .int a2] : List Value).toArray below meth c H locs 0 0 (MQ below (mQ K Q) ([.ref a0, .int a1, .int a2] : List Value).toArray s rm_X9_rig.cells rm_X9_rig.slots (mFA K)) (F0 m 27 ls []) := by
    intro v0 M H locs ls hM hS hl hP
    unfold f_X9_rig_b27 at hP
    refine lv_aload_n hx hb dX9_rig_27 rfl (lv_at hl 0 rfl) ?_
    refine lv_iconst (v := 1) hx hb dX9_rig_28 (by decide) ?_
    refine r_callVi (rest := []) (T := TX9) (N := 14) X hM hS (ct_X9_no hst v0 1) hP mV_X9_126 rfl rfl rfl hl.1 (Nat.le_of_ble_eq_true rfl) ⟨⟨by decide, by decide⟩, ⟨by decide, by decide⟩⟩ dX9_rig_29 (fun r1 M H locs hM hS hP => ?_)
    exact e_iret X hM hS (hk _ _ hP) hr hlocks (by decide) (by decide) dX9_rig_32
  unfold f_X9_rig at hP
  refine lv_aload_n hx hb dX9_rig_0 rfl (lv_at hl 0 rfl) ?_
  refine lv_iconst (v := 0) hx hb dX9_rig_1 (by decide) ?_
  refine r_put X hM hS hP fl_X9_30 ft_X9 rfl (tyX9_ok 0 (Nat.le_of_ble_eq_true rfl)) rfl rfl dX9_rig_2 (fun M H locs hM hS hP => ?_)
  refine lv_iload_n hx hb dX9_rig_5 rfl (lv_at hl 1 rfl) ?_
  refine lv_bipush (v := 80) hx hb dX9_rig_6 (by decide) ?_
  refine lv_sipush (v := 300) hx hb dX9_rig_8 (by decide) ?_
  refine r_callSi (rest := []) X hM hS (ct_X9_in hst a1 80 300) hP mS_X9_39 rfl rfl hl.1 (Nat.le_of_ble_eq_true rfl) ⟨⟨by decide, by decide⟩, ⟨by decide, by decide⟩⟩ dX9_rig_11 (fun r1 M H locs hM hS hP => ?_)
  refine lv_if_eq (tgt := 27) hx hb dX9_rig_14 (by decide) (fun hc => ?_) (fun hc => ?_)
  · have hP := mIf_t hP hc
    exact hb27 a0 _ _ _ _ hM hS (lv_sub hl [0] rfl) hP
  · have hP := mIf_f hP hc
    refine lv_iload_n hx hb dX9_rig_17 rfl (lv_at hl 2 rfl) ?_
    refine lv_iconst (v := 0) hx hb dX9_rig_18 (by decide) ?_
    refine lv_bipush (v := 60) hx hb dX9_rig_19 (by decide) ?_
    refine r_callSi (rest := []) X hM hS (ct_X9_in hst a2 0 60) hP mS_X9_39 rfl rfl hl.1 (Nat.le_of_ble_eq_true rfl) ⟨⟨by decide, by decide⟩, ⟨by decide, by decide⟩⟩ dX9_rig_21 (fun r2 M H locs hM hS hP => ?_)
    refine lv_if_ne (tgt := 33) hx hb dX9_rig_24 (by decide) (fun hc => ?_) (fun hc => ?_)
    · have hP := mIf_f hP hc
      refine lv_aload_n hx hb dX9_rig_33 rfl (lv_at hl 0 rfl) ?_
      refine r_getr X hM hP fl_X9_16 dX9_rig_34 (fun x3 hP => ?_)
      refine r_callFi (rest := []) X hM hS (ct_Jx4a65c_size_8abf5 hst x3) hP mF_X9_33 rfl rfl hl.1 (Nat.le_of_ble_eq_true rfl) ⟨⟨by decide, by decide⟩, ⟨by decide, by decide⟩⟩ dX9_rig_37 (fun r4 M H locs hM hS hP => ?_)
      refine lv_bipush (v := 8) hx hb dX9_rig_42 (by decide) ?_
      refine lv_icmp_ne (tgt := 53) hx hb dX9_rig_44 (by decide) (fun hc => ?_) (fun hc => ?_)
      · have hP := mIf_f hP hc
        refine lv_aload_n hx hb dX9_rig_53 rfl (lv_at hl 0 rfl) ?_
        refine r_getr X hM hP fl_X9_16 dX9_rig_54 (fun x5 hP => ?_)
        refine r_new X hM hS hP nl_X9_50 ft_X8 df_X8 ⟨by decide, by decide⟩ dX9_rig_57 (fun x6 M H hM hS hP => ?_)
        refine lv_dup hx hb dX9_rig_60 rfl ?_
        refine lv_iload_n hx hb dX9_rig_61 rfl (lv_at hl 1 rfl) ?_
        refine lv_aload_n hx hb dX9_rig_62 rfl (lv_at hl 0 rfl) ?_
        refine r_geti X hM hP fl_X9_129 dX9_rig_63 (fun x7 hP => ?_)
        refine lv_iload_n hx hb dX9_rig_66 rfl (lv_at hl 2 rfl) ?_
        refine lv_iadd hx hb dX9_rig_67 ?_
        refine r_callIv (rest := [.ref x6, .ref x5]) X hM hS (ct_X8_init hst x6 a1 (x7 + a2)) hP mI_X9_135 rfl rfl hl.1 (Nat.le_of_ble_eq_true rfl) ⟨⟨by decide, by decide⟩, ⟨by decide, by decide⟩⟩ dX9_rig_68 (fun M H locs hM hS hP => ?_)
        refine r_callFi (rest := []) X hM hS (ct_Jx4a65c_add_9ea2d hst x5 x6) hP mF_X9_103 rfl rfl hl.1 (Nat.le_of_ble_eq_true rfl) ⟨⟨by decide, by decide⟩, ⟨by decide, by decide⟩⟩ dX9_rig_71 (fun r9 M H locs hM hS hP => ?_)
        refine lv_pop hx hb dX9_rig_76 rfl ?_
        refine lv_aload_n hx hb dX9_rig_77 rfl (lv_at hl 0 rfl) ?_
        refine r_getr X hM hP fl_X9_16 dX9_rig_78 (fun x10 hP => ?_)
        refine r_callFi (rest := []) X hM hS (ct_Jx4a65c_size_8abf5 hst x10) hP mF_X9_33 rfl rfl hl.1 (Nat.le_of_ble_eq_true rfl) ⟨⟨by decide, by decide⟩, ⟨by decide, by decide⟩⟩ dX9_rig_81 (fun r11 M H locs hM hS hP => ?_)
        refine lv_iconst (v := 1) hx hb dX9_rig_86 (by decide) ?_
        refine lv_isub hx hb dX9_rig_87 ?_
        exact e_iret X hM hS (hk _ _ hP) hr hlocks (by decide) (by decide) dX9_rig_88
      · have hP := mIf_t hP hc
        refine lv_aload_n hx hb dX9_rig_47 rfl (lv_at hl 0 rfl) ?_
        refine lv_iconst (v := 2) hx hb dX9_rig_48 (by decide) ?_
        refine r_callVi (rest := []) (T := TX9) (N := 14) X hM hS (ct_X9_no hst a0 2) hP mV_X9_126 rfl rfl rfl hl.1 (Nat.le_of_ble_eq_true rfl) ⟨⟨by decide, by decide⟩, ⟨by decide, by decide⟩⟩ dX9_rig_49 (fun r12 M H locs hM hS hP => ?_)
        exact e_iret X hM hS (hk _ _ hP) hr hlocks (by decide) (by decide) dX9_rig_52
    · have hP := mIf_t hP hc
      exact hb27 a0 _ _ _ _ hM hS (lv_sub hl [0] rfl) hP
def f_X9_lend_b106 (K : Cfg) (k : Int32 → Mem → Prop) (v0 : Nat) (v1 : Int32) (v2 : Int32) (v3 : Int32) : Mem → Prop :=
 mGetR v0 10 1 fun x1 =>
 mRecv x1 0 <|
 f_Jx4a65c_get_915e3 K x1 v2 (fun r2 =>
 mRecv r2 8 <|
 mPut r2 8 2 (.int v1) <|
 k v3)
def f_X9_lend_b84 (K : Cfg) (k : Int32 → Mem → Prop) (v0 : Nat) (v1 : Int32) (v2 : Int32) (v3 : Int32) : Mem → Prop :=
 mIf (v3 = (-1))
 (f_X9_lend_b106 K k v0 v1 v2 v3)
 (mGetR v0 10 1 fun x1 =>
 mRecv x1 0 <|
 f_Jx4a65c_get_915e3 K x1 v3 (fun r2 =>
 mRecv r2 8 <|
 mPut r2 8 2 (.int (-1)) <|
 f_X9_lend_b106 K k v0 v1 v2 v3))
def f_X9_lend_b78 (K : Cfg) (k : Int32 → Mem → Prop) (v0 : Nat) : Mem → Prop :=
 mRecv v0 10 <|
 f_X9_no K v0 2 (fun r1 =>
 k r1)
def f_X9_lend_b21 (K : Cfg) (k : Int32 → Mem → Prop) (v0 : Nat) : Mem → Prop :=
 mRecv v0 10 <|
 f_X9_no K v0 1 (fun r1 =>
 k r1)
def f_X9_lend (K : Cfg) (a0 : Nat) (a1 : Int32) (a2 : Int32) (k : Int32 → Mem → Prop) : Mem → Prop :=
 mPut a0 10 0 (.int 0) <|
 mRecv a0 10 <|
 f_X9_isRig K a0 a1 (fun r1 =>
 mIf (r1 = 0)
 (f_X9_lend_b21 K k a0)
 (mRecv a0 10 <|
 f_X9_isJumper K a0 a2 (fun r2 =>
 mIf (r2 = 0)
 (f_X9_lend_b21 K k a0)
 (mRecv a0 10 <|
 f_X9_holder K a0 a1 (fun r3 =>
 mGetR a0 10 1 fun x4 =>
 mRecv x4 0 <|
 f_Jx4a65c_get_915e3 K x4 a2 (fun r5 =>
 mRecv r5 8 <|
 mGetI r5 8 10 fun x6 =>
 mIf (x6 = (-1))
 (mIf (r3 = (-1))
 (f_X9_lend_b84 K k a0 a1 a2 r3)
 (mGetR a0 10 1 fun x7 =>
 mRecv x7 0 <|
 f_Jx4a65c_get_915e3 K x7 r3 (fun r8 =>
 mRecv r8 8 <|
 mGetI r8 8 10 fun x9 =>
 mIf (x9 = (-1))
 (f_X9_lend_b84 K k a0 a1 a2 r3)
 (f_X9_lend_b78 K k a0))))
 (f_X9_lend_b78 K k a0)))))))
abbrev rm_X9_lend : Room := { frames := 4, cells := 0, slots := 0, locals := 86 }
set_option maxHeartbeats 4000000 in
set_option maxRecDepth 100000 in
theorem ct_X9_lend {K : Cfg} {l : Launch} (hst : l.stackTraces = false) (a0 : Nat) (a1 : Int32) (a2 : Int32) : mPi K l yX9_lend cX9_lend 4 (some .int) rm_X9_lend [.ref a0, .int a1, .int a2] (f_X9_lend K a0 a1 a2) := by
  refine mPi.of hst (by decide +kernel) (Nat.le_of_ble_eq_true rfl) ?_
  intro M k Q hk hP p e s m below meth c X hr hlocks hname hM ls hl
  have hx := X.1.1
  have hb := X.1.2.1
  have X : Cx K p l s m ([.ref a0, .int a1, .int a2] : List Value).toArray c cX9_lend 4 RX9 := X
  have hS : va_S (mFA K) s.heap s.heap [] := va_S.rf
  have hl : lv_has ls 4 [(0, .ref a0), (1, .int a1), (2, .int a2)] := hl
  have hb106 : ∀ (v0 : Nat) (v1 : Int32) (v2 : Int32) (v3 : Int32) (M : Mem) (H : Heap) (locs : List Loc) (ls : Array Slot), mh K M H → va_S (mFA K) s.heap H locs → lv_has ls 4 [(0, .ref v0), (1, .int v1), (2, .int v2), (3, .int v3)] → f_X9_lend_b106 K k v0 v1 v2 v3 M → W p l e rm_X9_lend s m ([.ref a0, .int a1, .int a2] : List Value).toArray below meth c H locs 0 0 (MQ below (mQ K Q) ([.ref a0, .int a1, .int a2] : List Value).toArray s rm_X9_lend.cells rm_X9_lend.slots (mFA K)) (F0 m 106 ls []) := by
    intro v0 v1 v2 v3 M H locs ls hM hS hl hP
    unfold f_X9_lend_b106 at hP
    refine lv_aload_n hx hb dX9_lend_106 rfl (lv_at hl 0 rfl) ?_
    refine r_getr X hM hP fl_X9_10 dX9_lend_107 (fun x1 hP => ?_)
    refine lv_iload_n hx hb dX9_lend_110 rfl (lv_at hl 2 rfl) ?_
    refine r_callFr (rest := []) X hM hS (ct_Jx4a65c_get_915e3 hst x1 v2) hP mF_X9_57 rfl rfl hl.1 (Nat.le_of_ble_eq_true rfl) ⟨⟨by decide, by decide⟩, ⟨by decide, by decide⟩⟩ dX9_lend_111 (fun r2 M H locs hM hS hP => ?_)
    refine r_cast (C := RX7) (T := TX7) (N := 12) X hM hP rfl al_X9_44 dX9_lend_116 (fun hP => ?_)
    refine lv_iload_n hx hb dX9_lend_119 rfl (lv_at hl 1 rfl) ?_
    refine r_put X hM hS hP fl_X9_54 ft_X7 rfl (tyX7_ok 2 (Nat.le_of_ble_eq_true rfl)) rfl rfl dX9_lend_120 (fun M H locs hM hS hP => ?_)
    refine lv_iload_n hx hb dX9_lend_123 rfl (lv_at hl 3 rfl) ?_
    exact e_iret X hM hS (hk _ _ hP) hr hlocks (by decide) (by decide) dX9_lend_124
  have hb84 : ∀ (v0 : Nat) (v1 : Int32) (v2 : Int32) (v3 : Int32) (M : Mem) (H : Heap) (locs : List Loc) (ls : Array Slot), mh K M H → va_S (mFA K) s.heap H locs → lv_has ls 4 [(0, .ref v0), (1, .int v1), (2, .int v2), (3, .int v3)] → f_X9_lend_b84 K k v0 v1 v2 v3 M → W p l e rm_X9_lend s m ([.ref a0, .int a1, .int a2] : List Value).toArray below meth c H locs 0 0 (MQ below (mQ K Q) ([.ref a0, .int a1, .int a2] : List Value).toArray s rm_X9_lend.cells rm_X9_lend.slots (mFA K)) (F0 m 84 ls []) := by
    intro v0 v1 v2 v3 M H locs ls hM hS hl hP
    unfold f_X9_lend_b84 at hP
    refine lv_iload_n hx hb dX9_lend_84 rfl (lv_at hl 3 rfl) ?_
    refine lv_iconst (v := (-1)) hx hb dX9_lend_85 (by decide) ?_
    refine lv_icmp_eq (tgt := 106) hx hb dX9_lend_86 (by decide) (fun hc => ?_) (fun hc => ?_)
    · have hP := mIf_t hP hc
      exact hb106 v0 v1 v2 v3 _ _ _ _ hM hS (lv_sub hl [0, 1, 2, 3] rfl) hP
    · have hP := mIf_f hP hc
      refine lv_aload_n hx hb dX9_lend_89 rfl (lv_at hl 0 rfl) ?_
      refine r_getr X hM hP fl_X9_10 dX9_lend_90 (fun x1 hP => ?_)
      refine lv_iload_n hx hb dX9_lend_93 rfl (lv_at hl 3 rfl) ?_
      refine r_callFr (rest := []) X hM hS (ct_Jx4a65c_get_915e3 hst x1 v3) hP mF_X9_57 rfl rfl hl.1 (Nat.le_of_ble_eq_true rfl) ⟨⟨by decide, by decide⟩, ⟨by decide, by decide⟩⟩ dX9_lend_94 (fun r2 M H locs hM hS hP => ?_)
      refine r_cast (C := RX7) (T := TX7) (N := 12) X hM hP rfl al_X9_44 dX9_lend_99 (fun hP => ?_)
      refine lv_iconst (v := (-1)) hx hb dX9_lend_102 (by decide) ?_
      refine r_put X hM hS hP fl_X9_54 ft_X7 rfl (tyX7_ok 2 (Nat.le_of_ble_eq_true rfl)) rfl rfl dX9_lend_103 (fun M H locs hM hS hP => ?_)
      exact hb106 v0 v1 v2 v3 _ _ _ _ hM hS (lv_sub hl [0, 1, 2, 3] rfl) hP
  have hb78 : ∀ (v0 : Nat) (M : Mem) (H : Heap) (locs : List Loc) (ls : Array Slot), mh K M H → va_S (mFA K) s.heap H locs → lv_has ls 4 [(0, .ref v0)] → f_X9_lend_b78 K k v0 M → W p l e rm_X9_lend s m ([.ref a0, .int a1, .int a2] : List Value).toArray below meth c H locs 0 0 (MQ below (mQ K Q) ([.ref a0, .int a1, .int a2] : List Value).toArray s rm_X9_lend.cells rm_X9_lend.slots (mFA K)) (F0 m 78 ls []) := by
    intro v0 M H locs ls hM hS hl hP
    unfold f_X9_lend_b78 at hP
    refine lv_aload_n hx hb dX9_lend_78 rfl (lv_at hl 0 rfl) ?_
    refine lv_iconst (v := 2) hx hb dX9_lend_79 (by decide) ?_
    refine r_callVi (rest := []) (T := TX9) (N := 14) X hM hS (ct_X9_no hst v0 2) hP mV_X9_126 rfl rfl rfl hl.1 (Nat.le_of_ble_eq_true rfl) ⟨⟨by decide, by decide⟩, ⟨by decide, by decide⟩⟩ dX9_lend_80 (fun r1 M H locs hM hS hP => ?_)
    exact e_iret X hM hS (hk _ _ hP) hr hlocks (by decide) (by decide) dX9_lend_83
  have hb21 : ∀ (v0 : Nat) (M : Mem) (H : Heap) (locs : List Loc) (ls : Array Slot), mh K M H → va_S (mFA K) s.heap H locs → lv_has ls 4 [(0, .ref v0)] → f_X9_lend_b21 K k v0 M → W p l e rm_X9_lend s m ([.ref a0, .int a1, .int a2] : List Value).toArray below meth c H locs 0 0 (MQ below (mQ K Q) ([.ref a0, .int a1, .int a2] : List Value).toArray s rm_X9_lend.cells rm_X9_lend.slots (mFA K)) (F0 m 21 ls []) := by
    intro v0 M H locs ls hM hS hl hP
    unfold f_X9_lend_b21 at hP
    refine lv_aload_n hx hb dX9_lend_21 rfl (lv_at hl 0 rfl) ?_
    refine lv_iconst (v := 1) hx hb dX9_lend_22 (by decide) ?_
    refine r_callVi (rest := []) (T := TX9) (N := 14) X hM hS (ct_X9_no hst v0 1) hP mV_X9_126 rfl rfl rfl hl.1 (Nat.le_of_ble_eq_true rfl) ⟨⟨by decide, by decide⟩, ⟨by decide, by decide⟩⟩ dX9_lend_23 (fun r1 M H locs hM hS hP => ?_)
    exact e_iret X hM hS (hk _ _ hP) hr hlocks (by decide) (by decide) dX9_lend_26
  unfold f_X9_lend at hP
  refine lv_aload_n hx hb dX9_lend_0 rfl (lv_at hl 0 rfl) ?_
  refine lv_iconst (v := 0) hx hb dX9_lend_1 (by decide) ?_
  refine r_put X hM hS hP fl_X9_30 ft_X9 rfl (tyX9_ok 0 (Nat.le_of_ble_eq_true rfl)) rfl rfl dX9_lend_2 (fun M H locs hM hS hP => ?_)
  refine lv_aload_n hx hb dX9_lend_5 rfl (lv_at hl 0 rfl) ?_
  refine lv_iload_n hx hb dX9_lend_6 rfl (lv_at hl 1 rfl) ?_
  refine r_callVi (rest := []) (T := TX9) (N := 14) X hM hS (ct_X9_isRig hst a0 a1) hP mV_X9_138 rfl rfl rfl hl.1 (Nat.le_of_ble_eq_true rfl) ⟨⟨by decide, by decide⟩, ⟨by decide, by decide⟩⟩ dX9_lend_7 (fun r1 M H locs hM hS hP => ?_)
  refine lv_if_eq (tgt := 21) hx hb dX9_lend_10 (by decide) (fun hc => ?_) (fun hc => ?_)
  · have hP := mIf_t hP hc
    exact hb21 a0 _ _ _ _ hM hS (lv_sub hl [0] rfl) hP
  · have hP := mIf_f hP hc
    refine lv_aload_n hx hb dX9_lend_13 rfl (lv_at hl 0 rfl) ?_
    refine lv_iload_n hx hb dX9_lend_14 rfl (lv_at hl 2 rfl) ?_
    refine r_callVi (rest := []) (T := TX9) (N := 14) X hM hS (ct_X9_isJumper hst a0 a2) hP mV_X9_142 rfl rfl rfl hl.1 (Nat.le_of_ble_eq_true rfl) ⟨⟨by decide, by decide⟩, ⟨by decide, by decide⟩⟩ dX9_lend_15 (fun r2 M H locs hM hS hP => ?_)
    refine lv_if_ne (tgt := 27) hx hb dX9_lend_18 (by decide) (fun hc => ?_) (fun hc => ?_)
    · have hP := mIf_f hP hc
      refine lv_aload_n hx hb dX9_lend_27 rfl (lv_at hl 0 rfl) ?_
      refine lv_iload_n hx hb dX9_lend_28 rfl (lv_at hl 1 rfl) ?_
      refine r_callVi (rest := []) (T := TX9) (N := 14) X hM hS (ct_X9_holder hst a0 a1) hP mV_X9_145 rfl rfl rfl hl.1 (Nat.le_of_ble_eq_true rfl) ⟨⟨by decide, by decide⟩, ⟨by decide, by decide⟩⟩ dX9_lend_29 (fun r3 M H locs hM hS hP => ?_)
      refine lv_istore_n (lv' := [(3, .int r3), (0, .ref a0), (1, .int a1), (2, .int a2)]) hx hb dX9_lend_32 rfl hl (by decide) rfl (fun ls hl => ?_)
      refine lv_aload_n hx hb dX9_lend_33 rfl (lv_at hl 1 rfl) ?_
      refine r_getr X hM hP fl_X9_10 dX9_lend_34 (fun x4 hP => ?_)
      refine lv_iload_n hx hb dX9_lend_37 rfl (lv_at hl 3 rfl) ?_
      refine r_callFr (rest := []) X hM hS (ct_Jx4a65c_get_915e3 hst x4 a2) hP mF_X9_57 rfl rfl hl.1 (Nat.le_of_ble_eq_true rfl) ⟨⟨by decide, by decide⟩, ⟨by decide, by decide⟩⟩ dX9_lend_38 (fun r5 M H locs hM hS hP => ?_)
      refine r_cast (C := RX7) (T := TX7) (N := 12) X hM hP rfl al_X9_44 dX9_lend_43 (fun hP => ?_)
      refine r_geti X hM hP fl_X9_65 dX9_lend_46 (fun x6 hP => ?_)
      refine lv_iconst (v := (-1)) hx hb dX9_lend_49 (by decide) ?_
      refine lv_icmp_ne (tgt := 78) hx hb dX9_lend_50 (by decide) (fun hc => ?_) (fun hc => ?_)
      · have hP := mIf_f hP hc
        exact hb78 a0 _ _ _ _ hM hS (lv_sub hl [1] rfl) hP
      · have hP := mIf_t hP hc
        refine lv_iload_n hx hb dX9_lend_53 rfl (lv_at hl 0 rfl) ?_
        refine lv_iconst (v := (-1)) hx hb dX9_lend_54 (by decide) ?_
        refine lv_icmp_eq (tgt := 84) hx hb dX9_lend_55 (by decide) (fun hc => ?_) (fun hc => ?_)
        · have hP := mIf_t hP hc
          exact hb84 a0 a1 a2 r3 _ _ _ _ hM hS (lv_sub hl [1, 2, 3, 0] rfl) hP
        · have hP := mIf_f hP hc
          refine lv_aload_n hx hb dX9_lend_58 rfl (lv_at hl 1 rfl) ?_
          refine r_getr X hM hP fl_X9_10 dX9_lend_59 (fun x7 hP => ?_)
          refine lv_iload_n hx hb dX9_lend_62 rfl (lv_at hl 0 rfl) ?_
          refine r_callFr (rest := []) X hM hS (ct_Jx4a65c_get_915e3 hst x7 r3) hP mF_X9_57 rfl rfl hl.1 (Nat.le_of_ble_eq_true rfl) ⟨⟨by decide, by decide⟩, ⟨by decide, by decide⟩⟩ dX9_lend_63 (fun r8 M H locs hM hS hP => ?_)
          refine r_cast (C := RX7) (T := TX7) (N := 12) X hM hP rfl al_X9_44 dX9_lend_68 (fun hP => ?_)
          refine r_geti X hM hP fl_X9_65 dX9_lend_71 (fun x9 hP => ?_)
          refine lv_iconst (v := (-1)) hx hb dX9_lend_74 (by decide) ?_
          refine lv_icmp_eq (tgt := 84) hx hb dX9_lend_75 (by decide) (fun hc => ?_) (fun hc => ?_)
          · have hP := mIf_t hP hc
            exact hb84 a0 a1 a2 r3 _ _ _ _ hM hS (lv_sub hl [1, 2, 3, 0] rfl) hP
          · have hP := mIf_f hP hc
            exact hb78 a0 _ _ _ _ hM hS (lv_sub hl [1] rfl) hP
    · have hP := mIf_t hP hc
      exact hb21 a0 _ _ _ _ hM hS (lv_sub hl [0] rfl) hP
def f_X9_pack_b21 (K : Cfg) (k : Int32 → Mem → Prop) (v0 : Nat) : Mem → Prop :=
 mRecv v0 10 <|
 f_X9_no K v0 1 (fun r1 =>
 k r1)
def f_X9_pack (K : Cfg) (a0 : Nat) (a1 : Int32) (a2 : Int32) (k : Int32 → Mem → Prop) : Mem → Prop :=
 mPut a0 10 0 (.int 0) <|
 mRecv a0 10 <|
 f_X9_isRig K a0 a1 (fun r1 =>
 mIf (r1 = 0)
 (f_X9_pack_b21 K k a0)
 (mRecv a0 10 <|
 f_X9_isJumper K a0 a2 (fun r2 =>
 mIf (r2 = 0)
 (f_X9_pack_b21 K k a0)
 (mGetR a0 10 2 fun x3 =>
 mRecv x3 0 <|
 f_Jx4a65c_get_915e3 K x3 a1 (fun r4 =>
 mRecv r4 9 <|
 mGetI r4 9 3 fun x5 =>
 mIf (x5 = 0)
 (mGetR a0 10 1 fun x6 =>
 mRecv x6 0 <|
 f_Jx4a65c_get_915e3 K x6 a2 (fun r7 =>
 mRecv r7 8 <|
 mGetI r7 8 6 fun x8 =>
 f_J9_max_7cf53 K 0 (9 - x8) (fun r9 =>
 mPut r4 9 2 (.int r9) <|
 mPutZ r4 9 3 1 <|
 mGetR a0 10 1 fun x10 =>
 mRecv x10 0 <|
 f_Jx4a65c_get_915e3 K x10 a2 (fun r11 =>
 mRecv r11 8 <|
 mGetI r11 8 6 fun x12 =>
 mPut r11 8 6 (.int (x12 + 1)) <|
 mGetI r4 9 2 fun x13 =>
 k x13))))
 (mRecv a0 10 <|
 f_X9_no K a0 2 (fun r14 =>
 k r14)))))))
abbrev rm_X9_pack : Room := { frames := 3, cells := 0, slots := 0, locals := 64 }
set_option maxHeartbeats 4000000 in
set_option maxRecDepth 100000 in
theorem ct_X9_pack {K : Cfg} {l : Launch} (hst : l.stackTraces = false) (a0 : Nat) (a1 : Int32) (a2 : Int32) : mPi K l yX9_pack cX9_pack 4 (some .int) rm_X9_pack [.ref a0, .int a1, .int a2] (f_X9_pack K a0 a1 a2) := by
  refine mPi.of hst (by decide +kernel) (Nat.le_of_ble_eq_true rfl) ?_
  intro M k Q hk hP p e s m below meth c X hr hlocks hname hM ls hl
  have hx := X.1.1
  have hb := X.1.2.1
  have X : Cx K p l s m ([.ref a0, .int a1, .int a2] : List Value).toArray c cX9_pack 4 RX9 := X
  have hS : va_S (mFA K) s.heap s.heap [] := va_S.rf
  have hl : lv_has ls 4 [(0, .ref a0), (1, .int a1), (2, .int a2)] := hl
  have hb21 : ∀ (v0 : Nat) (M : Mem) (H : Heap) (locs : List Loc) (ls : Array Slot), mh K M H → va_S (mFA K) s.heap H locs → lv_has ls 4 [(0, .ref v0)] → f_X9_pack_b21 K k v0 M → W p l e rm_X9_pack s m ([.ref a0, .int a1, .int a2] : List Value).toArray below meth c H locs 0 0 (MQ below (mQ K Q) ([.ref a0, .int a1, .int a2] : List Value).toArray s rm_X9_pack.cells rm_X9_pack.slots (mFA K)) (F0 m 21 ls []) := by
    intro v0 M H locs ls hM hS hl hP
    unfold f_X9_pack_b21 at hP
    refine lv_aload_n hx hb dX9_pack_21 rfl (lv_at hl 0 rfl) ?_
    refine lv_iconst (v := 1) hx hb dX9_pack_22 (by decide) ?_
    refine r_callVi (rest := []) (T := TX9) (N := 14) X hM hS (ct_X9_no hst v0 1) hP mV_X9_126 rfl rfl rfl hl.1 (Nat.le_of_ble_eq_true rfl) ⟨⟨by decide, by decide⟩, ⟨by decide, by decide⟩⟩ dX9_pack_23 (fun r1 M H locs hM hS hP => ?_)
    exact e_iret X hM hS (hk _ _ hP) hr hlocks (by decide) (by decide) dX9_pack_26
  unfold f_X9_pack at hP
  refine lv_aload_n hx hb dX9_pack_0 rfl (lv_at hl 0 rfl) ?_
  refine lv_iconst (v := 0) hx hb dX9_pack_1 (by decide) ?_
  refine r_put X hM hS hP fl_X9_30 ft_X9 rfl (tyX9_ok 0 (Nat.le_of_ble_eq_true rfl)) rfl rfl dX9_pack_2 (fun M H locs hM hS hP => ?_)
  refine lv_aload_n hx hb dX9_pack_5 rfl (lv_at hl 0 rfl) ?_
  refine lv_iload_n hx hb dX9_pack_6 rfl (lv_at hl 1 rfl) ?_
  refine r_callVi (rest := []) (T := TX9) (N := 14) X hM hS (ct_X9_isRig hst a0 a1) hP mV_X9_138 rfl rfl rfl hl.1 (Nat.le_of_ble_eq_true rfl) ⟨⟨by decide, by decide⟩, ⟨by decide, by decide⟩⟩ dX9_pack_7 (fun r1 M H locs hM hS hP => ?_)
  refine lv_if_eq (tgt := 21) hx hb dX9_pack_10 (by decide) (fun hc => ?_) (fun hc => ?_)
  · have hP := mIf_t hP hc
    exact hb21 a0 _ _ _ _ hM hS (lv_sub hl [0] rfl) hP
  · have hP := mIf_f hP hc
    refine lv_aload_n hx hb dX9_pack_13 rfl (lv_at hl 0 rfl) ?_
    refine lv_iload_n hx hb dX9_pack_14 rfl (lv_at hl 2 rfl) ?_
    refine r_callVi (rest := []) (T := TX9) (N := 14) X hM hS (ct_X9_isJumper hst a0 a2) hP mV_X9_142 rfl rfl rfl hl.1 (Nat.le_of_ble_eq_true rfl) ⟨⟨by decide, by decide⟩, ⟨by decide, by decide⟩⟩ dX9_pack_15 (fun r2 M H locs hM hS hP => ?_)
    refine lv_if_ne (tgt := 27) hx hb dX9_pack_18 (by decide) (fun hc => ?_) (fun hc => ?_)
    · have hP := mIf_f hP hc
      refine lv_aload_n hx hb dX9_pack_27 rfl (lv_at hl 0 rfl) ?_
      refine r_getr X hM hP fl_X9_16 dX9_pack_28 (fun x3 hP => ?_)
      refine lv_iload_n hx hb dX9_pack_31 rfl (lv_at hl 1 rfl) ?_
      refine r_callFr (rest := []) X hM hS (ct_Jx4a65c_get_915e3 hst x3 a1) hP mF_X9_57 rfl rfl hl.1 (Nat.le_of_ble_eq_true rfl) ⟨⟨by decide, by decide⟩, ⟨by decide, by decide⟩⟩ dX9_pack_32 (fun r4 M H locs hM hS hP => ?_)
      refine r_cast (C := RX8) (T := TX8) (N := 5) X hM hP rfl al_X9_50 dX9_pack_37 (fun hP => ?_)
      refine lv_astore_n (lv' := [(3, .ref r4), (0, .ref a0), (1, .int a1), (2, .int a2)]) hx hb dX9_pack_40 rfl hl (by decide) rfl (fun ls hl => ?_)
      refine lv_aload_n hx hb dX9_pack_41 rfl (lv_at hl 0 rfl) ?_
      refine r_geti X hM hP fl_X9_148 dX9_pack_42 (fun x5 hP => ?_)
      refine lv_if_eq (tgt := 54) hx hb dX9_pack_45 (by decide) (fun hc => ?_) (fun hc => ?_)
      · have hP := mIf_t hP hc
        refine lv_aload_n hx hb dX9_pack_54 rfl (lv_at hl 0 rfl) ?_
        refine lv_iconst (v := 0) hx hb dX9_pack_55 (by decide) ?_
        refine lv_bipush (v := 9) hx hb dX9_pack_56 (by decide) ?_
        refine lv_aload_n hx hb dX9_pack_58 rfl (lv_at hl 1 rfl) ?_
        refine r_getr X hM hP fl_X9_10 dX9_pack_59 (fun x6 hP => ?_)
        refine lv_iload_n hx hb dX9_pack_62 rfl (lv_at hl 3 rfl) ?_
        refine r_callFr (rest := [.int 9, .int 0, .ref r4]) X hM hS (ct_Jx4a65c_get_915e3 hst x6 a2) hP mF_X9_57 rfl rfl hl.1 (Nat.le_of_ble_eq_true rfl) ⟨⟨by decide, by decide⟩, ⟨by decide, by decide⟩⟩ dX9_pack_63 (fun r7 M H locs hM hS hP => ?_)
        refine r_cast (C := RX7) (T := TX7) (N := 12) X hM hP rfl al_X9_44 dX9_pack_68 (fun hP => ?_)
        refine r_geti X hM hP fl_X9_152 dX9_pack_71 (fun x8 hP => ?_)
        refine lv_isub hx hb dX9_pack_74 ?_
        refine r_callSi (rest := [.ref r4]) X hM hS (ct_J9_max_7cf53 hst 0 (9 - x8)) hP mS_X9_155 rfl rfl hl.1 (Nat.le_of_ble_eq_true rfl) ⟨⟨by decide, by decide⟩, ⟨by decide, by decide⟩⟩ dX9_pack_75 (fun r9 M H locs hM hS hP => ?_)
        refine r_put X hM hS hP fl_X9_159 ft_X8 rfl (tyX8_ok 2 (Nat.le_of_ble_eq_true rfl)) rfl rfl dX9_pack_78 (fun M H locs hM hS hP => ?_)
        refine lv_aload_n hx hb dX9_pack_81 rfl (lv_at hl 0 rfl) ?_
        refine lv_iconst (v := 1) hx hb dX9_pack_82 (by decide) ?_
        refine r_putz X hM hS hP fl_X9_148 ft_X8 rfl (tyX8_ok 3 (Nat.le_of_ble_eq_true rfl)) dX9_pack_83 (fun M H locs hM hS hP => ?_)
        refine lv_aload_n hx hb dX9_pack_86 rfl (lv_at hl 1 rfl) ?_
        refine r_getr X hM hP fl_X9_10 dX9_pack_87 (fun x10 hP => ?_)
        refine lv_iload_n hx hb dX9_pack_90 rfl (lv_at hl 3 rfl) ?_
        refine r_callFr (rest := []) X hM hS (ct_Jx4a65c_get_915e3 hst x10 a2) hP mF_X9_57 rfl rfl hl.1 (Nat.le_of_ble_eq_true rfl) ⟨⟨by decide, by decide⟩, ⟨by decide, by decide⟩⟩ dX9_pack_91 (fun r11 M H locs hM hS hP => ?_)
        refine r_cast (C := RX7) (T := TX7) (N := 12) X hM hP rfl al_X9_44 dX9_pack_96 (fun hP => ?_)
        refine lv_dup hx hb dX9_pack_99 rfl ?_
        refine r_geti X hM hP fl_X9_152 dX9_pack_100 (fun x12 hP => ?_)
        refine lv_iconst (v := 1) hx hb dX9_pack_103 (by decide) ?_
        refine lv_iadd hx hb dX9_pack_104 ?_
        refine r_put X hM hS hP fl_X9_152 ft_X7 rfl (tyX7_ok 6 (Nat.le_of_ble_eq_true rfl)) rfl rfl dX9_pack_105 (fun M H locs hM hS hP => ?_)
        refine lv_aload_n hx hb dX9_pack_108 rfl (lv_at hl 0 rfl) ?_
        refine r_geti X hM hP fl_X9_159 dX9_pack_109 (fun x13 hP => ?_)
        exact e_iret X hM hS (hk _ _ hP) hr hlocks (by decide) (by decide) dX9_pack_112
      · have hP := mIf_f hP hc
        refine lv_aload_n hx hb dX9_pack_48 rfl (lv_at hl 1 rfl) ?_
        refine lv_iconst (v := 2) hx hb dX9_pack_49 (by decide) ?_
        refine r_callVi (rest := []) (T := TX9) (N := 14) X hM hS (ct_X9_no hst a0 2) hP mV_X9_126 rfl rfl rfl hl.1 (Nat.le_of_ble_eq_true rfl) ⟨⟨by decide, by decide⟩, ⟨by decide, by decide⟩⟩ dX9_pack_50 (fun r14 M H locs hM hS hP => ?_)
        exact e_iret X hM hS (hk _ _ hP) hr hlocks (by decide) (by decide) dX9_pack_53
    · have hP := mIf_t hP hc
      exact hb21 a0 _ _ _ _ hM hS (lv_sub hl [0] rfl) hP
def f_X9_renew (K : Cfg) (a0 : Nat) (a1 : Int32) (k : Int32 → Mem → Prop) : Mem → Prop :=
 mPut a0 10 0 (.int 0) <|
 mRecv a0 10 <|
 f_X9_isRig K a0 a1 (fun r1 =>
 mIf (r1 = 0)
 (mRecv a0 10 <|
 f_X9_no K a0 1 (fun r6 =>
 k r6))
 (mGetR a0 10 2 fun x2 =>
 mRecv x2 0 <|
 f_Jx4a65c_get_915e3 K x2 a1 (fun r3 =>
 mRecv r3 9 <|
 mGetI a0 10 5 fun x4 =>
 mPut r3 9 1 (.int (x4 + 60)) <|
 mGetI a0 10 5 fun x5 =>
 k (x5 + 60))))
abbrev rm_X9_renew : Room := { frames := 3, cells := 0, slots := 0, locals := 64 }
set_option maxHeartbeats 4000000 in
set_option maxRecDepth 100000 in
theorem ct_X9_renew {K : Cfg} {l : Launch} (hst : l.stackTraces = false) (a0 : Nat) (a1 : Int32) : mPi K l yX9_renew cX9_renew 2 (some .int) rm_X9_renew [.ref a0, .int a1] (f_X9_renew K a0 a1) := by
  refine mPi.of hst (by decide +kernel) (Nat.le_of_ble_eq_true rfl) ?_
  intro M k Q hk hP p e s m below meth c X hr hlocks hname hM ls hl
  have hx := X.1.1
  have hb := X.1.2.1
  have X : Cx K p l s m ([.ref a0, .int a1] : List Value).toArray c cX9_renew 2 RX9 := X
  have hS : va_S (mFA K) s.heap s.heap [] := va_S.rf
  have hl : lv_has ls 2 [(0, .ref a0), (1, .int a1)] := hl
  unfold f_X9_renew at hP
  refine lv_aload_n hx hb dX9_renew_0 rfl (lv_at hl 0 rfl) ?_
  refine lv_iconst (v := 0) hx hb dX9_renew_1 (by decide) ?_
  refine r_put X hM hS hP fl_X9_30 ft_X9 rfl (tyX9_ok 0 (Nat.le_of_ble_eq_true rfl)) rfl rfl dX9_renew_2 (fun M H locs hM hS hP => ?_)
  refine lv_aload_n hx hb dX9_renew_5 rfl (lv_at hl 0 rfl) ?_
  refine lv_iload_n hx hb dX9_renew_6 rfl (lv_at hl 1 rfl) ?_
  refine r_callVi (rest := []) (T := TX9) (N := 14) X hM hS (ct_X9_isRig hst a0 a1) hP mV_X9_138 rfl rfl rfl hl.1 (Nat.le_of_ble_eq_true rfl) ⟨⟨by decide, by decide⟩, ⟨by decide, by decide⟩⟩ dX9_renew_7 (fun r1 M H locs hM hS hP => ?_)
  refine lv_if_ne (tgt := 19) hx hb dX9_renew_10 (by decide) (fun hc => ?_) (fun hc => ?_)
  · have hP := mIf_f hP hc
    refine lv_aload_n hx hb dX9_renew_19 rfl (lv_at hl 0 rfl) ?_
    refine r_getr X hM hP fl_X9_16 dX9_renew_20 (fun x2 hP => ?_)
    refine lv_iload_n hx hb dX9_renew_23 rfl (lv_at hl 1 rfl) ?_
    refine r_callFr (rest := []) X hM hS (ct_Jx4a65c_get_915e3 hst x2 a1) hP mF_X9_57 rfl rfl hl.1 (Nat.le_of_ble_eq_true rfl) ⟨⟨by decide, by decide⟩, ⟨by decide, by decide⟩⟩ dX9_renew_24 (fun r3 M H locs hM hS hP => ?_)
    refine r_cast (C := RX8) (T := TX8) (N := 5) X hM hP rfl al_X9_50 dX9_renew_29 (fun hP => ?_)
    refine lv_aload_n hx hb dX9_renew_32 rfl (lv_at hl 0 rfl) ?_
    refine r_geti X hM hP fl_X9_129 dX9_renew_33 (fun x4 hP => ?_)
    refine lv_bipush (v := 60) hx hb dX9_renew_36 (by decide) ?_
    refine lv_iadd hx hb dX9_renew_38 ?_
    refine r_put X hM hS hP fl_X9_162 ft_X8 rfl (tyX8_ok 1 (Nat.le_of_ble_eq_true rfl)) rfl rfl dX9_renew_39 (fun M H locs hM hS hP => ?_)
    refine lv_aload_n hx hb dX9_renew_42 rfl (lv_at hl 0 rfl) ?_
    refine r_geti X hM hP fl_X9_129 dX9_renew_43 (fun x5 hP => ?_)
    refine lv_bipush (v := 60) hx hb dX9_renew_46 (by decide) ?_
    refine lv_iadd hx hb dX9_renew_48 ?_
    exact e_iret X hM hS (hk _ _ hP) hr hlocks (by decide) (by decide) dX9_renew_49
  · have hP := mIf_t hP hc
    refine lv_aload_n hx hb dX9_renew_13 rfl (lv_at hl 0 rfl) ?_
    refine lv_iconst (v := 1) hx hb dX9_renew_14 (by decide) ?_
    refine r_callVi (rest := []) (T := TX9) (N := 14) X hM hS (ct_X9_no hst a0 1) hP mV_X9_126 rfl rfl rfl hl.1 (Nat.le_of_ble_eq_true rfl) ⟨⟨by decide, by decide⟩, ⟨by decide, by decide⟩⟩ dX9_renew_15 (fun r6 M H locs hM hS hP => ?_)
    exact e_iret X hM hS (hk _ _ hP) hr hlocks (by decide) (by decide) dX9_renew_18
def f_X9_pass_b58_body (K : Cfg) (k : Int32 → Mem → Prop) (lp58 : Nat → Int32 → Mem → Prop) (v0 : Nat) (v2 : Int32) : Mem → Prop :=
 mGetR v0 10 1 fun x1 =>
 mRecv x1 0 <|
 f_Jx4a65c_size_8abf5 K x1 (fun r2 =>
 mIf (r2 ≤ v2)
 (mGetI v0 10 5 fun x3 =>
 k x3)
 (mGetR v0 10 1 fun x4 =>
 mRecv x4 0 <|
 f_Jx4a65c_get_915e3 K x4 v2 (fun r5 =>
 mRecv r5 8 <|
 mPut r5 8 6 (.int 0) <|
 lp58 v0 (v2 + 1))))
def f_X9_pass_b58 (K : Cfg) (k : Int32 → Mem → Prop) : Nat → Nat → Int32 → Mem → Prop
  | 0 => fun _ _ _ => False
  | n + 1 => f_X9_pass_b58_body K k (f_X9_pass_b58 K k n)
def f_X9_pass_b40 (K : Cfg) (k : Int32 → Mem → Prop) (v0 : Nat) : Mem → Prop :=
 mRecv v0 10 <|
 f_X9_no K v0 2 (fun r1 =>
 k r1)
def f_X9_pass (K : Cfg) (a0 : Nat) (a1 : Int32) (k : Int32 → Mem → Prop) : Mem → Prop :=
 mPut a0 10 0 (.int 0) <|
 f_X9_in K a1 1 90 (fun r1 =>
 mIf (r1 = 0)
 (mRecv a0 10 <|
 f_X9_no K a0 1 (fun r5 =>
 k r5))
 (mGetI a0 10 5 fun x2 =>
 mIf (500 < (x2 + a1))
 (f_X9_pass_b40 K k a0)
 (mRecv a0 10 <|
 f_X9_aboard K a0 (fun r3 =>
 mIf (r3 ≤ 0)
 (mGetI a0 10 5 fun x4 =>
 mPut a0 10 5 (.int (x4 + a1)) <|
 f_X9_pass_b58 K k mFuel a0 0)
 (f_X9_pass_b40 K k a0)))))
abbrev rm_X9_pass : Room := { frames := 4, cells := 0, slots := 0, locals := 86 }
set_option maxHeartbeats 4000000 in
set_option maxRecDepth 100000 in
theorem ct_X9_pass {K : Cfg} {l : Launch} (hst : l.stackTraces = false) (a0 : Nat) (a1 : Int32) : mPi K l yX9_pass cX9_pass 3 (some .int) rm_X9_pass [.ref a0, .int a1] (f_X9_pass K a0 a1) := by
  refine mPi.of hst (by decide +kernel) (Nat.le_of_ble_eq_true rfl) ?_
  intro M k Q hk hP p e s m below meth c X hr hlocks hname hM ls hl
  have hx := X.1.1
  have hb := X.1.2.1
  have X : Cx K p l s m ([.ref a0, .int a1] : List Value).toArray c cX9_pass 3 RX9 := X
  have hS : va_S (mFA K) s.heap s.heap [] := va_S.rf
  have hl : lv_has ls 3 [(0, .ref a0), (1, .int a1)] := hl
  have hb58 : ∀ (n58 : Nat) (v0 : Nat) (v2 : Int32) (M : Mem) (H : Heap) (locs : List Loc) (ls : Array Slot), mh K M H → va_S (mFA K) s.heap H locs → lv_has ls 3 [(0, .ref v0), (2, .int v2)] → f_X9_pass_b58 K k n58 v0 v2 M → W p l e rm_X9_pass s m ([.ref a0, .int a1] : List Value).toArray below meth c H locs 0 0 (MQ below (mQ K Q) ([.ref a0, .int a1] : List Value).toArray s rm_X9_pass.cells rm_X9_pass.slots (mFA K)) (F0 m 58 ls []) := by
    intro n58
    induction n58 with
    | zero =>
      intro v0 v2 M H locs ls hM hS hl hP
      exact hP.elim
    | succ n58 ih58 =>
      intro v0 v2 M H locs ls hM hS hl hP
      have hP : f_X9_pass_b58_body K k (f_X9_pass_b58 K k n58) v0 v2 M := hP
      unfold f_X9_pass_b58_body at hP
      refine lv_iload_n hx hb dX9_pass_58 rfl (lv_at hl 1 rfl) ?_
      refine lv_aload_n hx hb dX9_pass_59 rfl (lv_at hl 0 rfl) ?_
      refine r_getr X hM hP fl_X9_10 dX9_pass_60 (fun x1 hP => ?_)
      refine r_callFi (rest := [.int v2]) X hM hS (ct_Jx4a65c_size_8abf5 hst x1) hP mF_X9_33 rfl rfl hl.1 (Nat.le_of_ble_eq_true rfl) ⟨⟨by decide, by decide⟩, ⟨by decide, by decide⟩⟩ dX9_pass_63 (fun r2 M H locs hM hS hP => ?_)
      refine lv_icmp_ge (tgt := 94) hx hb dX9_pass_68 (by decide) (fun hc => ?_) (fun hc => ?_)
      · have hP := mIf_t hP hc
        refine lv_aload_n hx hb dX9_pass_94 rfl (lv_at hl 0 rfl) ?_
        refine r_geti X hM hP fl_X9_129 dX9_pass_95 (fun x3 hP => ?_)
        exact e_iret X hM hS (hk _ _ hP) hr hlocks (by decide) (by decide) dX9_pass_98
      · have hP := mIf_f hP hc
        refine lv_aload_n hx hb dX9_pass_71 rfl (lv_at hl 0 rfl) ?_
        refine r_getr X hM hP fl_X9_10 dX9_pass_72 (fun x4 hP => ?_)
        refine lv_iload_n hx hb dX9_pass_75 rfl (lv_at hl 1 rfl) ?_
        refine r_callFr (rest := []) X hM hS (ct_Jx4a65c_get_915e3 hst x4 v2) hP mF_X9_57 rfl rfl hl.1 (Nat.le_of_ble_eq_true rfl) ⟨⟨by decide, by decide⟩, ⟨by decide, by decide⟩⟩ dX9_pass_76 (fun r5 M H locs hM hS hP => ?_)
        refine r_cast (C := RX7) (T := TX7) (N := 12) X hM hP rfl al_X9_44 dX9_pass_81 (fun hP => ?_)
        refine lv_iconst (v := 0) hx hb dX9_pass_84 (by decide) ?_
        refine r_put X hM hS hP fl_X9_152 ft_X7 rfl (tyX7_ok 6 (Nat.le_of_ble_eq_true rfl)) rfl rfl dX9_pass_85 (fun M H locs hM hS hP => ?_)
        refine lv_iinc (v := v2 + 1) (lv' := [(2, .int (v2 + 1)), (0, .ref v0)]) hx hb dX9_pass_88 hl (k := 1) rfl rfl (by decide) rfl (fun ls hl => ?_)
        refine lv_goto (tgt := 58) hx hb dX9_pass_91 (by decide) ?_
        exact ih58 v0 (v2 + 1) _ _ _ _ hM hS (lv_sub hl [1, 0] rfl) hP
  have hb40 : ∀ (v0 : Nat) (M : Mem) (H : Heap) (locs : List Loc) (ls : Array Slot), mh K M H → va_S (mFA K) s.heap H locs → lv_has ls 3 [(0, .ref v0)] → f_X9_pass_b40 K k v0 M → W p l e rm_X9_pass s m ([.ref a0, .int a1] : List Value).toArray below meth c H locs 0 0 (MQ below (mQ K Q) ([.ref a0, .int a1] : List Value).toArray s rm_X9_pass.cells rm_X9_pass.slots (mFA K)) (F0 m 40 ls []) := by
    intro v0 M H locs ls hM hS hl hP
    unfold f_X9_pass_b40 at hP
    refine lv_aload_n hx hb dX9_pass_40 rfl (lv_at hl 0 rfl) ?_
    refine lv_iconst (v := 2) hx hb dX9_pass_41 (by decide) ?_
    refine r_callVi (rest := []) (T := TX9) (N := 14) X hM hS (ct_X9_no hst v0 2) hP mV_X9_126 rfl rfl rfl hl.1 (Nat.le_of_ble_eq_true rfl) ⟨⟨by decide, by decide⟩, ⟨by decide, by decide⟩⟩ dX9_pass_42 (fun r1 M H locs hM hS hP => ?_)
    exact e_iret X hM hS (hk _ _ hP) hr hlocks (by decide) (by decide) dX9_pass_45
  unfold f_X9_pass at hP
  refine lv_aload_n hx hb dX9_pass_0 rfl (lv_at hl 0 rfl) ?_
  refine lv_iconst (v := 0) hx hb dX9_pass_1 (by decide) ?_
  refine r_put X hM hS hP fl_X9_30 ft_X9 rfl (tyX9_ok 0 (Nat.le_of_ble_eq_true rfl)) rfl rfl dX9_pass_2 (fun M H locs hM hS hP => ?_)
  refine lv_iload_n hx hb dX9_pass_5 rfl (lv_at hl 1 rfl) ?_
  refine lv_iconst (v := 1) hx hb dX9_pass_6 (by decide) ?_
  refine lv_bipush (v := 90) hx hb dX9_pass_7 (by decide) ?_
  refine r_callSi (rest := []) X hM hS (ct_X9_in hst a1 1 90) hP mS_X9_39 rfl rfl hl.1 (Nat.le_of_ble_eq_true rfl) ⟨⟨by decide, by decide⟩, ⟨by decide, by decide⟩⟩ dX9_pass_9 (fun r1 M H locs hM hS hP => ?_)
  refine lv_if_ne (tgt := 21) hx hb dX9_pass_12 (by decide) (fun hc => ?_) (fun hc => ?_)
  · have hP := mIf_f hP hc
    refine lv_aload_n hx hb dX9_pass_21 rfl (lv_at hl 0 rfl) ?_
    refine r_geti X hM hP fl_X9_129 dX9_pass_22 (fun x2 hP => ?_)
    refine lv_iload_n hx hb dX9_pass_25 rfl (lv_at hl 1 rfl) ?_
    refine lv_iadd hx hb dX9_pass_26 ?_
    refine lv_sipush (v := 500) hx hb dX9_pass_27 (by decide) ?_
    refine lv_icmp_gt (tgt := 40) hx hb dX9_pass_30 (by decide) (fun hc => ?_) (fun hc => ?_)
    · have hP := mIf_t hP hc
      exact hb40 a0 _ _ _ _ hM hS (lv_sub hl [0] rfl) hP
    · have hP := mIf_f hP hc
      refine lv_aload_n hx hb dX9_pass_33 rfl (lv_at hl 0 rfl) ?_
      refine r_callVi (rest := []) (T := TX9) (N := 14) X hM hS (ct_X9_aboard hst a0) hP mV_X9_87 rfl rfl rfl hl.1 (Nat.le_of_ble_eq_true rfl) ⟨⟨by decide, by decide⟩, ⟨by decide, by decide⟩⟩ dX9_pass_34 (fun r3 M H locs hM hS hP => ?_)
      refine lv_if_le (tgt := 46) hx hb dX9_pass_37 (by decide) (fun hc => ?_) (fun hc => ?_)
      · have hP := mIf_t hP hc
        refine lv_aload_n hx hb dX9_pass_46 rfl (lv_at hl 0 rfl) ?_
        refine lv_dup hx hb dX9_pass_47 rfl ?_
        refine r_geti X hM hP fl_X9_129 dX9_pass_48 (fun x4 hP => ?_)
        refine lv_iload_n hx hb dX9_pass_51 rfl (lv_at hl 1 rfl) ?_
        refine lv_iadd hx hb dX9_pass_52 ?_
        refine r_put X hM hS hP fl_X9_129 ft_X9 rfl (tyX9_ok 5 (Nat.le_of_ble_eq_true rfl)) rfl rfl dX9_pass_53 (fun M H locs hM hS hP => ?_)
        refine lv_iconst (v := 0) hx hb dX9_pass_56 (by decide) ?_
        refine lv_istore_n (lv' := [(2, .int 0), (0, .ref a0), (1, .int a1)]) hx hb dX9_pass_57 rfl hl (by decide) rfl (fun ls hl => ?_)
        exact hb58 mFuel a0 0 _ _ _ _ hM hS (lv_sub hl [1, 0] rfl) hP
      · have hP := mIf_f hP hc
        exact hb40 a0 _ _ _ _ hM hS (lv_sub hl [0] rfl) hP
  · have hP := mIf_t hP hc
    refine lv_aload_n hx hb dX9_pass_15 rfl (lv_at hl 0 rfl) ?_
    refine lv_iconst (v := 1) hx hb dX9_pass_16 (by decide) ?_
    refine r_callVi (rest := []) (T := TX9) (N := 14) X hM hS (ct_X9_no hst a0 1) hP mV_X9_126 rfl rfl rfl hl.1 (Nat.le_of_ble_eq_true rfl) ⟨⟨by decide, by decide⟩, ⟨by decide, by decide⟩⟩ dX9_pass_17 (fun r5 M H locs hM hS hP => ?_)
    exact e_iret X hM hS (hk _ _ hP) hr hlocks (by decide) (by decide) dX9_pass_20
def f_X9_wind_b43 (K : Cfg) (k : Int32 → Mem → Prop) (v0 : Nat) : Mem → Prop :=
 mRecv v0 10 <|
 f_X9_no K v0 2 (fun r1 =>
 k r1)
def f_X9_wind (K : Cfg) (a0 : Nat) (a1 : Int32) (a2 : Int32) (a3 : Int32) (k : Int32 → Mem → Prop) : Mem → Prop :=
 mPut a0 10 0 (.int 0) <|
 f_X9_in K a1 0 9 (fun r1 =>
 mIf (r1 = 0)
 (mRecv a0 10 <|
 f_X9_no K a0 1 (fun r7 =>
 k r7))
 (f_X9_in K a2 (-20) 20 (fun r2 =>
 mIf (r2 = 0)
 (f_X9_wind_b43 K k a0)
 (f_X9_in K a3 (-20) 20 (fun r3 =>
 mIf (r3 = 0)
 (f_X9_wind_b43 K k a0)
 (mGetR a0 10 3 fun x4 =>
 mStI K x4 a1 a2 <|
 mGetR a0 10 4 fun x5 =>
 mStI K x5 a1 a3 <|
 mRecv a0 10 <|
 f_X9_ground K a0 (fun r6 =>
 k r6)))))))
abbrev rm_X9_wind : Room := { frames := 2, cells := 0, slots := 0, locals := 40 }
set_option maxHeartbeats 4000000 in
set_option maxRecDepth 100000 in
theorem ct_X9_wind {K : Cfg} {l : Launch} (hst : l.stackTraces = false) (a0 : Nat) (a1 : Int32) (a2 : Int32) (a3 : Int32) : mPi K l yX9_wind cX9_wind 4 (some .int) rm_X9_wind [.ref a0, .int a1, .int a2, .int a3] (f_X9_wind K a0 a1 a2 a3) := by
  refine mPi.of hst (by decide +kernel) (Nat.le_of_ble_eq_true rfl) ?_
  intro M k Q hk hP p e s m below meth c X hr hlocks hname hM ls hl
  have hx := X.1.1
  have hb := X.1.2.1
  have X : Cx K p l s m ([.ref a0, .int a1, .int a2, .int a3] : List Value).toArray c cX9_wind 4 RX9 := X
  have hS : va_S (mFA K) s.heap s.heap [] := va_S.rf
  have hl : lv_has ls 4 [(0, .ref a0), (1, .int a1), (2, .int a2), (3, .int a3)] := hl
  have hb43 : ∀ (v0 : Nat) (M : Mem) (H : Heap) (locs : List Loc) (ls : Array Slot), mh K M H → va_S (mFA K) s.heap H locs → lv_has ls 4 [(0, .ref v0)] → f_X9_wind_b43 K k v0 M → W p l e rm_X9_wind s m ([.ref a0, .int a1, .int a2, .int a3] : List Value).toArray below meth c H locs 0 0 (MQ below (mQ K Q) ([.ref a0, .int a1, .int a2, .int a3] : List Value).toArray s rm_X9_wind.cells rm_X9_wind.slots (mFA K)) (F0 m 43 ls []) := by
    intro v0 M H locs ls hM hS hl hP
    unfold f_X9_wind_b43 at hP
    refine lv_aload_n hx hb dX9_wind_43 rfl (lv_at hl 0 rfl) ?_
    refine lv_iconst (v := 2) hx hb dX9_wind_44 (by decide) ?_
    refine r_callVi (rest := []) (T := TX9) (N := 14) X hM hS (ct_X9_no hst v0 2) hP mV_X9_126 rfl rfl rfl hl.1 (Nat.le_of_ble_eq_true rfl) ⟨⟨by decide, by decide⟩, ⟨by decide, by decide⟩⟩ dX9_wind_45 (fun r1 M H locs hM hS hP => ?_)
    exact e_iret X hM hS (hk _ _ hP) hr hlocks (by decide) (by decide) dX9_wind_48
  unfold f_X9_wind at hP
  refine lv_aload_n hx hb dX9_wind_0 rfl (lv_at hl 0 rfl) ?_
  refine lv_iconst (v := 0) hx hb dX9_wind_1 (by decide) ?_
  refine r_put X hM hS hP fl_X9_30 ft_X9 rfl (tyX9_ok 0 (Nat.le_of_ble_eq_true rfl)) rfl rfl dX9_wind_2 (fun M H locs hM hS hP => ?_)
  refine lv_iload_n hx hb dX9_wind_5 rfl (lv_at hl 1 rfl) ?_
  refine lv_iconst (v := 0) hx hb dX9_wind_6 (by decide) ?_
  refine lv_bipush (v := 9) hx hb dX9_wind_7 (by decide) ?_
  refine r_callSi (rest := []) X hM hS (ct_X9_in hst a1 0 9) hP mS_X9_39 rfl rfl hl.1 (Nat.le_of_ble_eq_true rfl) ⟨⟨by decide, by decide⟩, ⟨by decide, by decide⟩⟩ dX9_wind_9 (fun r1 M H locs hM hS hP => ?_)
  refine lv_if_ne (tgt := 21) hx hb dX9_wind_12 (by decide) (fun hc => ?_) (fun hc => ?_)
  · have hP := mIf_f hP hc
    refine lv_iload_n hx hb dX9_wind_21 rfl (lv_at hl 2 rfl) ?_
    refine lv_bipush (v := (-20)) hx hb dX9_wind_22 (by decide) ?_
    refine lv_bipush (v := 20) hx hb dX9_wind_24 (by decide) ?_
    refine r_callSi (rest := []) X hM hS (ct_X9_in hst a2 (-20) 20) hP mS_X9_39 rfl rfl hl.1 (Nat.le_of_ble_eq_true rfl) ⟨⟨by decide, by decide⟩, ⟨by decide, by decide⟩⟩ dX9_wind_26 (fun r2 M H locs hM hS hP => ?_)
    refine lv_if_eq (tgt := 43) hx hb dX9_wind_29 (by decide) (fun hc => ?_) (fun hc => ?_)
    · have hP := mIf_t hP hc
      exact hb43 a0 _ _ _ _ hM hS (lv_sub hl [0] rfl) hP
    · have hP := mIf_f hP hc
      refine lv_iload_n hx hb dX9_wind_32 rfl (lv_at hl 3 rfl) ?_
      refine lv_bipush (v := (-20)) hx hb dX9_wind_33 (by decide) ?_
      refine lv_bipush (v := 20) hx hb dX9_wind_35 (by decide) ?_
      refine r_callSi (rest := []) X hM hS (ct_X9_in hst a3 (-20) 20) hP mS_X9_39 rfl rfl hl.1 (Nat.le_of_ble_eq_true rfl) ⟨⟨by decide, by decide⟩, ⟨by decide, by decide⟩⟩ dX9_wind_37 (fun r3 M H locs hM hS hP => ?_)
      refine lv_if_ne (tgt := 49) hx hb dX9_wind_40 (by decide) (fun hc => ?_) (fun hc => ?_)
      · have hP := mIf_f hP hc
        refine lv_aload_n hx hb dX9_wind_49 rfl (lv_at hl 0 rfl) ?_
        refine r_getr X hM hP fl_X9_19 dX9_wind_50 (fun x4 hP => ?_)
        refine lv_iload_n hx hb dX9_wind_53 rfl (lv_at hl 1 rfl) ?_
        refine lv_iload_n hx hb dX9_wind_54 rfl (lv_at hl 2 rfl) ?_
        refine r_sti X hM hS hP dX9_wind_55 (fun M H locs hM hS hP => ?_)
        refine lv_aload_n hx hb dX9_wind_56 rfl (lv_at hl 0 rfl) ?_
        refine r_getr X hM hP fl_X9_23 dX9_wind_57 (fun x5 hP => ?_)
        refine lv_iload_n hx hb dX9_wind_60 rfl (lv_at hl 1 rfl) ?_
        refine lv_iload_n hx hb dX9_wind_61 rfl (lv_at hl 3 rfl) ?_
        refine r_sti X hM hS hP dX9_wind_62 (fun M H locs hM hS hP => ?_)
        refine lv_aload_n hx hb dX9_wind_63 rfl (lv_at hl 0 rfl) ?_
        refine r_callVi (rest := []) (T := TX9) (N := 14) X hM hS (ct_X9_ground hst a0) hP mV_X9_165 rfl rfl rfl hl.1 (Nat.le_of_ble_eq_true rfl) ⟨⟨by decide, by decide⟩, ⟨by decide, by decide⟩⟩ dX9_wind_64 (fun r6 M H locs hM hS hP => ?_)
        exact e_iret X hM hS (hk _ _ hP) hr hlocks (by decide) (by decide) dX9_wind_67
      · have hP := mIf_t hP hc
        exact hb43 a0 _ _ _ _ hM hS (lv_sub hl [0] rfl) hP
  · have hP := mIf_t hP hc
    refine lv_aload_n hx hb dX9_wind_15 rfl (lv_at hl 0 rfl) ?_
    refine lv_iconst (v := 1) hx hb dX9_wind_16 (by decide) ?_
    refine r_callVi (rest := []) (T := TX9) (N := 14) X hM hS (ct_X9_no hst a0 1) hP mV_X9_126 rfl rfl rfl hl.1 (Nat.le_of_ble_eq_true rfl) ⟨⟨by decide, by decide⟩, ⟨by decide, by decide⟩⟩ dX9_wind_17 (fun r7 M H locs hM hS hP => ?_)
    exact e_iret X hM hS (hk _ _ hP) hr hlocks (by decide) (by decide) dX9_wind_20
def f_X9_most_b54 (K : Cfg) (k : UInt32 → Mem → Prop) (t0 : UInt32) : Mem → Prop :=
 k t0
def f_X9_most_b21 (K : Cfg) (k : UInt32 → Mem → Prop) : Mem → Prop :=
 f_X9_most_b54 K k 1082130432
def f_X9_most (K : Cfg) (a0 : Nat) (a1 : Nat) (k : UInt32 → Mem → Prop) : Mem → Prop :=
 mGetI a1 8 1 fun x1 =>
 mIf (x1 = 0)
 (f_X9_most_b21 K k)
 (mGetI a0 10 5 fun x2 =>
 mGetI a1 8 3 fun x3 =>
 mIf ((x2 - x3) ≤ 30)
 (mGetI a1 8 1 fun x4 =>
 mIf (x4 = 1)
 (f_X9_most_b54 K k 1086324736)
 (mGetI a1 8 1 fun x5 =>
 mIf (x5 = 2)
 (f_X9_most_b54 K k 1091567616)
 (f_X9_most_b54 K k 1101004800)))
 (f_X9_most_b21 K k))
abbrev rm_X9_most : Room := { frames := 0, cells := 0, slots := 0, locals := 0 }
set_option maxHeartbeats 4000000 in
set_option maxRecDepth 100000 in
theorem ct_X9_most {K : Cfg} {l : Launch} (hst : l.stackTraces = false) (a0 : Nat) (a1 : Nat) : mPf K l yX9_most cX9_most 2 (some .float) rm_X9_most [.ref a0, .ref a1] (f_X9_most K a0 a1) := by
  refine mPf.of hst (by decide +kernel) (Nat.le_of_ble_eq_true rfl) ?_
  intro M k Q hk hP p e s m below meth c X hr hlocks hname hM ls hl
  have hx := X.1.1
  have hb := X.1.2.1
  have X : Cx K p l s m ([.ref a0, .ref a1] : List Value).toArray c cX9_most 2 RX9 := X
  have hS : va_S (mFA K) s.heap s.heap [] := va_S.rf
  have hl : lv_has ls 2 [(0, .ref a0), (1, .ref a1)] := hl
  have hb54 : ∀ (t0 : UInt32) (M : Mem) (H : Heap) (locs : List Loc) (ls : Array Slot), mh K M H → va_S (mFA K) s.heap H locs → lv_has ls 2 [] → f_X9_most_b54 K k t0 M → W p l e rm_X9_most s m ([.ref a0, .ref a1] : List Value).toArray below meth c H locs 0 0 (MQ below (mQ K Q) ([.ref a0, .ref a1] : List Value).toArray s rm_X9_most.cells rm_X9_most.slots (mFA K)) (F0 m 54 ls [.float t0]) := by
    intro t0 M H locs ls hM hS hl hP
    unfold f_X9_most_b54 at hP
    exact e_fret X hM hS (hk _ _ hP) hr hlocks (by decide) (by decide) dX9_most_54
  have hb21 : ∀ (M : Mem) (H : Heap) (locs : List Loc) (ls : Array Slot), mh K M H → va_S (mFA K) s.heap H locs → lv_has ls 2 [] → f_X9_most_b21 K k M → W p l e rm_X9_most s m ([.ref a0, .ref a1] : List Value).toArray below meth c H locs 0 0 (MQ below (mQ K Q) ([.ref a0, .ref a1] : List Value).toArray s rm_X9_most.cells rm_X9_most.slots (mFA K)) (F0 m 21 ls []) := by
    intro M H locs ls hM hS hl hP
    unfold f_X9_most_b21 at hP
    refine r_ldcf (v := 1082130432) X kc_X9_171 dX9_most_21 ?_
    refine lv_goto (tgt := 54) hx hb dX9_most_23 (by decide) ?_
    exact hb54 1082130432 _ _ _ _ hM hS (lv_sub hl [] rfl) hP
  unfold f_X9_most at hP
  refine lv_aload_n hx hb dX9_most_0 rfl (lv_at hl 1 rfl) ?_
  refine r_geti X hM hP fl_X9_74 dX9_most_1 (fun x1 hP => ?_)
  refine lv_if_eq (tgt := 21) hx hb dX9_most_4 (by decide) (fun hc => ?_) (fun hc => ?_)
  · have hP := mIf_t hP hc
    exact hb21 _ _ _ _ hM hS (lv_sub hl [] rfl) hP
  · have hP := mIf_f hP hc
    refine lv_aload_n hx hb dX9_most_7 rfl (lv_at hl 0 rfl) ?_
    refine r_geti X hM hP fl_X9_129 dX9_most_8 (fun x2 hP => ?_)
    refine lv_aload_n hx hb dX9_most_11 rfl (lv_at hl 1 rfl) ?_
    refine r_geti X hM hP fl_X9_168 dX9_most_12 (fun x3 hP => ?_)
    refine lv_isub hx hb dX9_most_15 ?_
    refine lv_bipush (v := 30) hx hb dX9_most_16 (by decide) ?_
    refine lv_icmp_le (tgt := 26) hx hb dX9_most_18 (by decide) (fun hc => ?_) (fun hc => ?_)
    · have hP := mIf_t hP hc
      refine lv_aload_n hx hb dX9_most_26 rfl (lv_at hl 1 rfl) ?_
      refine r_geti X hM hP fl_X9_74 dX9_most_27 (fun x4 hP => ?_)
      refine lv_iconst (v := 1) hx hb dX9_most_30 (by decide) ?_
      refine lv_icmp_ne (tgt := 39) hx hb dX9_most_31 (by decide) (fun hc => ?_) (fun hc => ?_)
      · have hP := mIf_f hP hc
        refine lv_aload_n hx hb dX9_most_39 rfl (lv_at hl 1 rfl) ?_
        refine r_geti X hM hP fl_X9_74 dX9_most_40 (fun x5 hP => ?_)
        refine lv_iconst (v := 2) hx hb dX9_most_43 (by decide) ?_
        refine lv_icmp_ne (tgt := 52) hx hb dX9_most_44 (by decide) (fun hc => ?_) (fun hc => ?_)
        · have hP := mIf_f hP hc
          refine r_ldcf (v := 1101004800) X kc_X9_174 dX9_most_52 ?_
          exact hb54 1101004800 _ _ _ _ hM hS (lv_sub hl [] rfl) hP
        · have hP := mIf_t hP hc
          refine r_ldcf (v := 1091567616) X kc_X9_173 dX9_most_47 ?_
          refine lv_goto (tgt := 54) hx hb dX9_most_49 (by decide) ?_
          exact hb54 1091567616 _ _ _ _ hM hS (lv_sub hl [] rfl) hP
      · have hP := mIf_t hP hc
        refine r_ldcf (v := 1086324736) X kc_X9_172 dX9_most_34 ?_
        refine lv_goto (tgt := 54) hx hb dX9_most_36 (by decide) ?_
        exact hb54 1086324736 _ _ _ _ hM hS (lv_sub hl [] rfl) hP
    · have hP := mIf_f hP hc
      exact hb21 _ _ _ _ hM hS (lv_sub hl [] rfl) hP
def f_X9_why_b128 (K : Cfg) (k : Int32 → Mem → Prop) (t0 : Int32) : Mem → Prop :=
 k t0
def f_X9_why_b93 (K : Cfg) (k : Int32 → Mem → Prop) (v0 : Nat) (v1 : Nat) (t0 : Int32) (t1 : Int32) : Mem → Prop :=
 mIf (t0 ≤ t1)
 (mRecv v0 10 <|
 f_X9_loading_ K v0 v1 (fun r1 =>
 mRecv v0 10 <|
 f_X9_most K v0 v1 (fun r2 =>
 mIf ((Op.cmpValue (FP.fcmp r1 r2) .l) ≤ 0)
 (mGetI v1 8 10 fun x3 =>
 mIf (x3 = (-1))
 (f_X9_why_b128 K k 0)
 (f_X9_why_b128 K k 6))
 (k 5))))
 (k 4)
def f_X9_why (K : Cfg) (a0 : Nat) (a1 : Nat) (k : Int32 → Mem → Prop) : Mem → Prop :=
 mGetI a1 8 2 fun x1 =>
 mIf (x1 = (-1))
 (k 1)
 (mGetR a0 10 2 fun x2 =>
 mGetI a1 8 2 fun x3 =>
 mRecv x2 0 <|
 f_Jx4a65c_get_915e3 K x2 x3 (fun r4 =>
 mRecv r4 9 <|
 mGetI r4 9 3 fun x5 =>
 mIf (x5 = 0)
 (k 2)
 (mGetI r4 9 1 fun x6 =>
 mGetI a0 10 5 fun x7 =>
 mIf (x7 ≤ x6)
 (mRecv a0 10 <|
 f_X9_ground K a0 (fun r8 =>
 mGetI a1 8 1 fun x9 =>
 mIf (x9 = 0)
 (f_X9_why_b93 K k a0 a1 r8 8)
 (mGetI a1 8 1 fun x10 =>
 mIf (x10 = 1)
 (f_X9_why_b93 K k a0 a1 r8 14)
 (mGetI a1 8 1 fun x11 =>
 mIf (x11 = 2)
 (f_X9_why_b93 K k a0 a1 r8 20)
 (f_X9_why_b93 K k a0 a1 r8 30)))))
 (k 3))))
abbrev rm_X9_why : Room := { frames := 4, cells := 0, slots := 0, locals := 85 }
set_option maxHeartbeats 4000000 in
set_option maxRecDepth 100000 in
theorem ct_X9_why {K : Cfg} {l : Launch} (hst : l.stackTraces = false) (a0 : Nat) (a1 : Nat) : mPi K l yX9_why cX9_why 3 (some .int) rm_X9_why [.ref a0, .ref a1] (f_X9_why K a0 a1) := by
  refine mPi.of hst (by decide +kernel) (Nat.le_of_ble_eq_true rfl) ?_
  intro M k Q hk hP p e s m below meth c X hr hlocks hname hM ls hl
  have hx := X.1.1
  have hb := X.1.2.1
  have X : Cx K p l s m ([.ref a0, .ref a1] : List Value).toArray c cX9_why 3 RX9 := X
  have hS : va_S (mFA K) s.heap s.heap [] := va_S.rf
  have hl : lv_has ls 3 [(0, .ref a0), (1, .ref a1)] := hl
  have hb128 : ∀ (t0 : Int32) (M : Mem) (H : Heap) (locs : List Loc) (ls : Array Slot), mh K M H → va_S (mFA K) s.heap H locs → lv_has ls 3 [] → f_X9_why_b128 K k t0 M → W p l e rm_X9_why s m ([.ref a0, .ref a1] : List Value).toArray below meth c H locs 0 0 (MQ below (mQ K Q) ([.ref a0, .ref a1] : List Value).toArray s rm_X9_why.cells rm_X9_why.slots (mFA K)) (F0 m 128 ls [.int t0]) := by
    intro t0 M H locs ls hM hS hl hP
    unfold f_X9_why_b128 at hP
    exact e_iret X hM hS (hk _ _ hP) hr hlocks (by decide) (by decide) dX9_why_128
  have hb93 : ∀ (v0 : Nat) (v1 : Nat) (t0 : Int32) (t1 : Int32) (M : Mem) (H : Heap) (locs : List Loc) (ls : Array Slot), mh K M H → va_S (mFA K) s.heap H locs → lv_has ls 3 [(0, .ref v0), (1, .ref v1)] → f_X9_why_b93 K k v0 v1 t0 t1 M → W p l e rm_X9_why s m ([.ref a0, .ref a1] : List Value).toArray below meth c H locs 0 0 (MQ below (mQ K Q) ([.ref a0, .ref a1] : List Value).toArray s rm_X9_why.cells rm_X9_why.slots (mFA K)) (F0 m 93 ls [.int t1, .int t0]) := by
    intro v0 v1 t0 t1 M H locs ls hM hS hl hP
    unfold f_X9_why_b93 at hP
    refine lv_icmp_le (tgt := 98) hx hb dX9_why_93 (by decide) (fun hc => ?_) (fun hc => ?_)
    · have hP := mIf_t hP hc
      refine lv_aload_n hx hb dX9_why_98 rfl (lv_at hl 0 rfl) ?_
      refine lv_aload_n hx hb dX9_why_99 rfl (lv_at hl 1 rfl) ?_
      refine r_callVf (rest := []) (T := TX9) (N := 14) X hM hS (ct_X9_loading_ hst v0 v1) hP mV_X9_77 rfl rfl rfl hl.1 (Nat.le_of_ble_eq_true rfl) ⟨⟨by decide, by decide⟩, ⟨by decide, by decide⟩⟩ dX9_why_100 (fun r1 M H locs hM hS hP => ?_)
      refine lv_aload_n hx hb dX9_why_103 rfl (lv_at hl 0 rfl) ?_
      refine lv_aload_n hx hb dX9_why_104 rfl (lv_at hl 1 rfl) ?_
      refine r_callVf (rest := [.float r1]) (T := TX9) (N := 14) X hM hS (ct_X9_most hst v0 v1) hP mV_X9_175 rfl rfl rfl hl.1 (Nat.le_of_ble_eq_true rfl) ⟨⟨by decide, by decide⟩, ⟨by decide, by decide⟩⟩ dX9_why_105 (fun r2 M H locs hM hS hP => ?_)
      refine lv_fcmp hx hb dX9_why_108 ?_
      refine lv_if_le (tgt := 114) hx hb dX9_why_109 (by decide) (fun hc => ?_) (fun hc => ?_)
      · have hP := mIf_t hP hc
        refine lv_aload_n hx hb dX9_why_114 rfl (lv_at hl 1 rfl) ?_
        refine r_geti X hM hP fl_X9_65 dX9_why_115 (fun x3 hP => ?_)
        refine lv_iconst (v := (-1)) hx hb dX9_why_118 (by decide) ?_
        refine lv_icmp_ne (tgt := 126) hx hb dX9_why_119 (by decide) (fun hc => ?_) (fun hc => ?_)
        · have hP := mIf_f hP hc
          refine lv_bipush (v := 6) hx hb dX9_why_126 (by decide) ?_
          exact hb128 6 _ _ _ _ hM hS (lv_sub hl [] rfl) hP
        · have hP := mIf_t hP hc
          refine lv_iconst (v := 0) hx hb dX9_why_122 (by decide) ?_
          refine lv_goto (tgt := 128) hx hb dX9_why_123 (by decide) ?_
          exact hb128 0 _ _ _ _ hM hS (lv_sub hl [] rfl) hP
      · have hP := mIf_f hP hc
        refine lv_iconst (v := 5) hx hb dX9_why_112 (by decide) ?_
        exact e_iret X hM hS (hk _ _ hP) hr hlocks (by decide) (by decide) dX9_why_113
    · have hP := mIf_f hP hc
      refine lv_iconst (v := 4) hx hb dX9_why_96 (by decide) ?_
      exact e_iret X hM hS (hk _ _ hP) hr hlocks (by decide) (by decide) dX9_why_97
  unfold f_X9_why at hP
  refine lv_aload_n hx hb dX9_why_0 rfl (lv_at hl 1 rfl) ?_
  refine r_geti X hM hP fl_X9_54 dX9_why_1 (fun x1 hP => ?_)
  refine lv_iconst (v := (-1)) hx hb dX9_why_4 (by decide) ?_
  refine lv_icmp_ne (tgt := 10) hx hb dX9_why_5 (by decide) (fun hc => ?_) (fun hc => ?_)
  · have hP := mIf_f hP hc
    refine lv_aload_n hx hb dX9_why_10 rfl (lv_at hl 0 rfl) ?_
    refine r_getr X hM hP fl_X9_16 dX9_why_11 (fun x2 hP => ?_)
    refine lv_aload_n hx hb dX9_why_14 rfl (lv_at hl 1 rfl) ?_
    refine r_geti X hM hP fl_X9_54 dX9_why_15 (fun x3 hP => ?_)
    refine r_callFr (rest := []) X hM hS (ct_Jx4a65c_get_915e3 hst x2 x3) hP mF_X9_57 rfl rfl hl.1 (Nat.le_of_ble_eq_true rfl) ⟨⟨by decide, by decide⟩, ⟨by decide, by decide⟩⟩ dX9_why_18 (fun r4 M H locs hM hS hP => ?_)
    refine r_cast (C := RX8) (T := TX8) (N := 5) X hM hP rfl al_X9_50 dX9_why_23 (fun hP => ?_)
    refine lv_astore_n (lv' := [(2, .ref r4), (0, .ref a0), (1, .ref a1)]) hx hb dX9_why_26 rfl hl (by decide) rfl (fun ls hl => ?_)
    refine lv_aload_n hx hb dX9_why_27 rfl (lv_at hl 0 rfl) ?_
    refine r_geti X hM hP fl_X9_148 dX9_why_28 (fun x5 hP => ?_)
    refine lv_if_ne (tgt := 36) hx hb dX9_why_31 (by decide) (fun hc => ?_) (fun hc => ?_)
    · have hP := mIf_f hP hc
      refine lv_aload_n hx hb dX9_why_36 rfl (lv_at hl 0 rfl) ?_
      refine r_geti X hM hP fl_X9_162 dX9_why_37 (fun x6 hP => ?_)
      refine lv_aload_n hx hb dX9_why_40 rfl (lv_at hl 1 rfl) ?_
      refine r_geti X hM hP fl_X9_129 dX9_why_41 (fun x7 hP => ?_)
      refine lv_icmp_ge (tgt := 49) hx hb dX9_why_44 (by decide) (fun hc => ?_) (fun hc => ?_)
      · have hP := mIf_t hP hc
        refine lv_aload_n hx hb dX9_why_49 rfl (lv_at hl 1 rfl) ?_
        refine r_callVi (rest := []) (T := TX9) (N := 14) X hM hS (ct_X9_ground hst a0) hP mV_X9_165 rfl rfl rfl hl.1 (Nat.le_of_ble_eq_true rfl) ⟨⟨by decide, by decide⟩, ⟨by decide, by decide⟩⟩ dX9_why_50 (fun r8 M H locs hM hS hP => ?_)
        refine lv_aload_n hx hb dX9_why_53 rfl (lv_at hl 2 rfl) ?_
        refine r_geti X hM hP fl_X9_74 dX9_why_54 (fun x9 hP => ?_)
        refine lv_if_ne (tgt := 65) hx hb dX9_why_57 (by decide) (fun hc => ?_) (fun hc => ?_)
        · have hP := mIf_f hP hc
          refine lv_aload_n hx hb dX9_why_65 rfl (lv_at hl 2 rfl) ?_
          refine r_geti X hM hP fl_X9_74 dX9_why_66 (fun x10 hP => ?_)
          refine lv_iconst (v := 1) hx hb dX9_why_69 (by decide) ?_
          refine lv_icmp_ne (tgt := 78) hx hb dX9_why_70 (by decide) (fun hc => ?_) (fun hc => ?_)
          · have hP := mIf_f hP hc
            refine lv_aload_n hx hb dX9_why_78 rfl (lv_at hl 2 rfl) ?_
            refine r_geti X hM hP fl_X9_74 dX9_why_79 (fun x11 hP => ?_)
            refine lv_iconst (v := 2) hx hb dX9_why_82 (by decide) ?_
            refine lv_icmp_ne (tgt := 91) hx hb dX9_why_83 (by decide) (fun hc => ?_) (fun hc => ?_)
            · have hP := mIf_f hP hc
              refine lv_bipush (v := 30) hx hb dX9_why_91 (by decide) ?_
              exact hb93 a0 a1 r8 30 _ _ _ _ hM hS (lv_sub hl [1, 2] rfl) hP
            · have hP := mIf_t hP hc
              refine lv_bipush (v := 20) hx hb dX9_why_86 (by decide) ?_
              refine lv_goto (tgt := 93) hx hb dX9_why_88 (by decide) ?_
              exact hb93 a0 a1 r8 20 _ _ _ _ hM hS (lv_sub hl [1, 2] rfl) hP
          · have hP := mIf_t hP hc
            refine lv_bipush (v := 14) hx hb dX9_why_73 (by decide) ?_
            refine lv_goto (tgt := 93) hx hb dX9_why_75 (by decide) ?_
            exact hb93 a0 a1 r8 14 _ _ _ _ hM hS (lv_sub hl [1, 2] rfl) hP
        · have hP := mIf_t hP hc
          refine lv_bipush (v := 8) hx hb dX9_why_60 (by decide) ?_
          refine lv_goto (tgt := 93) hx hb dX9_why_62 (by decide) ?_
          exact hb93 a0 a1 r8 8 _ _ _ _ hM hS (lv_sub hl [1, 2] rfl) hP
      · have hP := mIf_f hP hc
        refine lv_iconst (v := 3) hx hb dX9_why_47 (by decide) ?_
        exact e_iret X hM hS (hk _ _ hP) hr hlocks (by decide) (by decide) dX9_why_48
    · have hP := mIf_t hP hc
      refine lv_iconst (v := 2) hx hb dX9_why_34 (by decide) ?_
      exact e_iret X hM hS (hk _ _ hP) hr hlocks (by decide) (by decide) dX9_why_35
  · have hP := mIf_t hP hc
    refine lv_iconst (v := 1) hx hb dX9_why_8 (by decide) ?_
    exact e_iret X hM hS (hk _ _ hP) hr hlocks (by decide) (by decide) dX9_why_9
def f_X9_board_b87 (K : Cfg) (k : Int32 → Mem → Prop) (v0 : Nat) : Mem → Prop :=
 mRecv v0 10 <|
 f_X9_no K v0 3 (fun r1 =>
 k r1)
def f_X9_board_b65 (K : Cfg) (k : Int32 → Mem → Prop) (v0 : Nat) : Mem → Prop :=
 mRecv v0 10 <|
 f_X9_no K v0 2 (fun r1 =>
 k r1)
def f_X9_board_b57 (K : Cfg) (k : Int32 → Mem → Prop) (v0 : Nat) (v2 : Int32) (v3 : Int32) (v4 : Nat) (t0 : Int32) (t1 : Int32) : Mem → Prop :=
 f_X9_in K t0 t1 6 (fun r1 =>
 mIf (r1 = 0)
 (f_X9_board_b65 K k v0)
 (mGetI v0 10 12 fun x2 =>
 mIf (x2 = 0)
 (mRecv v0 10 <|
 f_X9_aboard K v0 (fun r3 =>
 mIf (r3 = 6)
 (f_X9_board_b87 K k v0)
 (mRecv v0 10 <|
 f_X9_why K v0 v4 (fun r4 =>
 mIf (r4 ≤ 0)
 (mPut v4 8 10 (.int v2) <|
 mPut v4 8 11 (.int v3) <|
 mRecv v0 10 <|
 f_X9_aboard K v0 (fun r5 =>
 k r5))
 (k (-r4))))))
 (f_X9_board_b87 K k v0)))
def f_X9_board (K : Cfg) (a0 : Nat) (a1 : Int32) (a2 : Int32) (a3 : Int32) (k : Int32 → Mem → Prop) : Mem → Prop :=
 mPut a0 10 0 (.int 0) <|
 mRecv a0 10 <|
 f_X9_isJumper K a0 a1 (fun r1 =>
 mIf (r1 = 0)
 (mRecv a0 10 <|
 f_X9_no K a0 1 (fun r6 =>
 k r6))
 (mGetR a0 10 1 fun x2 =>
 mRecv x2 0 <|
 f_Jx4a65c_get_915e3 K x2 a1 (fun r3 =>
 mRecv r3 8 <|
 f_X9_in K a2 0 1 (fun r4 =>
 mIf (r4 = 0)
 (f_X9_board_b65 K k a0)
 (mGetI r3 8 1 fun x5 =>
 mIf (x5 = 0)
 (f_X9_board_b57 K k a0 a2 a3 r3 a3 4)
 (f_X9_board_b57 K k a0 a2 a3 r3 a3 2))))))
abbrev rm_X9_board : Room := { frames := 5, cells := 0, slots := 0, locals := 107 }
set_option maxHeartbeats 4000000 in
set_option maxRecDepth 100000 in
theorem ct_X9_board {K : Cfg} {l : Launch} (hst : l.stackTraces = false) (a0 : Nat) (a1 : Int32) (a2 : Int32) (a3 : Int32) : mPi K l yX9_board cX9_board 6 (some .int) rm_X9_board [.ref a0, .int a1, .int a2, .int a3] (f_X9_board K a0 a1 a2 a3) := by
  refine mPi.of hst (by decide +kernel) (Nat.le_of_ble_eq_true rfl) ?_
  intro M k Q hk hP p e s m below meth c X hr hlocks hname hM ls hl
  have hx := X.1.1
  have hb := X.1.2.1
  have X : Cx K p l s m ([.ref a0, .int a1, .int a2, .int a3] : List Value).toArray c cX9_board 6 RX9 := X
  have hS : va_S (mFA K) s.heap s.heap [] := va_S.rf
  have hl : lv_has ls 6 [(0, .ref a0), (1, .int a1), (2, .int a2), (3, .int a3)] := hl
  have hb87 : ∀ (v0 : Nat) (M : Mem) (H : Heap) (locs : List Loc) (ls : Array Slot), mh K M H → va_S (mFA K) s.heap H locs → lv_has ls 6 [(0, .ref v0)] → f_X9_board_b87 K k v0 M → W p l e rm_X9_board s m ([.ref a0, .int a1, .int a2, .int a3] : List Value).toArray below meth c H locs 0 0 (MQ below (mQ K Q) ([.ref a0, .int a1, .int a2, .int a3] : List Value).toArray s rm_X9_board.cells rm_X9_board.slots (mFA K)) (F0 m 87 ls []) := by
    intro v0 M H locs ls hM hS hl hP
    unfold f_X9_board_b87 at hP
    refine lv_aload_n hx hb dX9_board_87 rfl (lv_at hl 0 rfl) ?_
    refine lv_iconst (v := 3) hx hb dX9_board_88 (by decide) ?_
    refine r_callVi (rest := []) (T := TX9) (N := 14) X hM hS (ct_X9_no hst v0 3) hP mV_X9_126 rfl rfl rfl hl.1 (Nat.le_of_ble_eq_true rfl) ⟨⟨by decide, by decide⟩, ⟨by decide, by decide⟩⟩ dX9_board_89 (fun r1 M H locs hM hS hP => ?_)
    exact e_iret X hM hS (hk _ _ hP) hr hlocks (by decide) (by decide) dX9_board_92
  have hb65 : ∀ (v0 : Nat) (M : Mem) (H : Heap) (locs : List Loc) (ls : Array Slot), mh K M H → va_S (mFA K) s.heap H locs → lv_has ls 6 [(0, .ref v0)] → f_X9_board_b65 K k v0 M → W p l e rm_X9_board s m ([.ref a0, .int a1, .int a2, .int a3] : List Value).toArray below meth c H locs 0 0 (MQ below (mQ K Q) ([.ref a0, .int a1, .int a2, .int a3] : List Value).toArray s rm_X9_board.cells rm_X9_board.slots (mFA K)) (F0 m 65 ls []) := by
    intro v0 M H locs ls hM hS hl hP
    unfold f_X9_board_b65 at hP
    refine lv_aload_n hx hb dX9_board_65 rfl (lv_at hl 0 rfl) ?_
    refine lv_iconst (v := 2) hx hb dX9_board_66 (by decide) ?_
    refine r_callVi (rest := []) (T := TX9) (N := 14) X hM hS (ct_X9_no hst v0 2) hP mV_X9_126 rfl rfl rfl hl.1 (Nat.le_of_ble_eq_true rfl) ⟨⟨by decide, by decide⟩, ⟨by decide, by decide⟩⟩ dX9_board_67 (fun r1 M H locs hM hS hP => ?_)
    exact e_iret X hM hS (hk _ _ hP) hr hlocks (by decide) (by decide) dX9_board_70
  have hb57 : ∀ (v0 : Nat) (v2 : Int32) (v3 : Int32) (v4 : Nat) (t0 : Int32) (t1 : Int32) (M : Mem) (H : Heap) (locs : List Loc) (ls : Array Slot), mh K M H → va_S (mFA K) s.heap H locs → lv_has ls 6 [(0, .ref v0), (2, .int v2), (3, .int v3), (4, .ref v4)] → f_X9_board_b57 K k v0 v2 v3 v4 t0 t1 M → W p l e rm_X9_board s m ([.ref a0, .int a1, .int a2, .int a3] : List Value).toArray below meth c H locs 0 0 (MQ below (mQ K Q) ([.ref a0, .int a1, .int a2, .int a3] : List Value).toArray s rm_X9_board.cells rm_X9_board.slots (mFA K)) (F0 m 57 ls [.int t1, .int t0]) := by
    intro v0 v2 v3 v4 t0 t1 M H locs ls hM hS hl hP
    unfold f_X9_board_b57 at hP
    refine lv_bipush (v := 6) hx hb dX9_board_57 (by decide) ?_
    refine r_callSi (rest := []) X hM hS (ct_X9_in hst t0 t1 6) hP mS_X9_39 rfl rfl hl.1 (Nat.le_of_ble_eq_true rfl) ⟨⟨by decide, by decide⟩, ⟨by decide, by decide⟩⟩ dX9_board_59 (fun r1 M H locs hM hS hP => ?_)
    refine lv_if_ne (tgt := 71) hx hb dX9_board_62 (by decide) (fun hc => ?_) (fun hc => ?_)
    · have hP := mIf_f hP hc
      refine lv_aload_n hx hb dX9_board_71 rfl (lv_at hl 0 rfl) ?_
      refine r_geti X hM hP fl_X9_178 dX9_board_72 (fun x2 hP => ?_)
      refine lv_if_ne (tgt := 87) hx hb dX9_board_75 (by decide) (fun hc => ?_) (fun hc => ?_)
      · have hP := mIf_f hP hc
        exact hb87 v0 _ _ _ _ hM hS (lv_sub hl [0] rfl) hP
      · have hP := mIf_t hP hc
        refine lv_aload_n hx hb dX9_board_78 rfl (lv_at hl 0 rfl) ?_
        refine r_callVi (rest := []) (T := TX9) (N := 14) X hM hS (ct_X9_aboard hst v0) hP mV_X9_87 rfl rfl rfl hl.1 (Nat.le_of_ble_eq_true rfl) ⟨⟨by decide, by decide⟩, ⟨by decide, by decide⟩⟩ dX9_board_79 (fun r3 M H locs hM hS hP => ?_)
        refine lv_bipush (v := 6) hx hb dX9_board_82 (by decide) ?_
        refine lv_icmp_ne (tgt := 93) hx hb dX9_board_84 (by decide) (fun hc => ?_) (fun hc => ?_)
        · have hP := mIf_f hP hc
          refine lv_aload_n hx hb dX9_board_93 rfl (lv_at hl 0 rfl) ?_
          refine lv_aload hx hb dX9_board_94 (lv_at hl 3 rfl) ?_
          refine r_callVi (rest := []) (T := TX9) (N := 14) X hM hS (ct_X9_why hst v0 v4) hP mV_X9_181 rfl rfl rfl hl.1 (Nat.le_of_ble_eq_true rfl) ⟨⟨by decide, by decide⟩, ⟨by decide, by decide⟩⟩ dX9_board_96 (fun r4 M H locs hM hS hP => ?_)
          refine lv_istore (lv' := [(5, .int r4), (0, .ref v0), (2, .int v2), (3, .int v3), (4, .ref v4)]) hx hb dX9_board_99 hl (by decide) rfl (fun ls hl => ?_)
          refine lv_iload hx hb dX9_board_101 (lv_at hl 0 rfl) ?_
          refine lv_if_le (tgt := 110) hx hb dX9_board_103 (by decide) (fun hc => ?_) (fun hc => ?_)
          · have hP := mIf_t hP hc
            refine lv_aload hx hb dX9_board_110 (lv_at hl 4 rfl) ?_
            refine lv_iload_n hx hb dX9_board_112 rfl (lv_at hl 2 rfl) ?_
            refine r_put X hM hS hP fl_X9_65 ft_X7 rfl (tyX7_ok 10 (Nat.le_of_ble_eq_true rfl)) rfl rfl dX9_board_113 (fun M H locs hM hS hP => ?_)
            refine lv_aload hx hb dX9_board_116 (lv_at hl 4 rfl) ?_
            refine lv_iload_n hx hb dX9_board_118 rfl (lv_at hl 3 rfl) ?_
            refine r_put X hM hS hP fl_X9_95 ft_X7 rfl (tyX7_ok 11 (Nat.le_of_ble_eq_true rfl)) rfl rfl dX9_board_119 (fun M H locs hM hS hP => ?_)
            refine lv_aload_n hx hb dX9_board_122 rfl (lv_at hl 1 rfl) ?_
            refine r_callVi (rest := []) (T := TX9) (N := 14) X hM hS (ct_X9_aboard hst v0) hP mV_X9_87 rfl rfl rfl hl.1 (Nat.le_of_ble_eq_true rfl) ⟨⟨by decide, by decide⟩, ⟨by decide, by decide⟩⟩ dX9_board_123 (fun r5 M H locs hM hS hP => ?_)
            exact e_iret X hM hS (hk _ _ hP) hr hlocks (by decide) (by decide) dX9_board_126
          · have hP := mIf_f hP hc
            refine lv_iload hx hb dX9_board_106 (lv_at hl 0 rfl) ?_
            refine lv_ineg hx hb dX9_board_108 ?_
            exact e_iret X hM hS (hk _ _ hP) hr hlocks (by decide) (by decide) dX9_board_109
        · have hP := mIf_t hP hc
          exact hb87 v0 _ _ _ _ hM hS (lv_sub hl [0] rfl) hP
    · have hP := mIf_t hP hc
      exact hb65 v0 _ _ _ _ hM hS (lv_sub hl [0] rfl) hP
  unfold f_X9_board at hP
  refine lv_aload_n hx hb dX9_board_0 rfl (lv_at hl 0 rfl) ?_
  refine lv_iconst (v := 0) hx hb dX9_board_1 (by decide) ?_
  refine r_put X hM hS hP fl_X9_30 ft_X9 rfl (tyX9_ok 0 (Nat.le_of_ble_eq_true rfl)) rfl rfl dX9_board_2 (fun M H locs hM hS hP => ?_)
  refine lv_aload_n hx hb dX9_board_5 rfl (lv_at hl 0 rfl) ?_
  refine lv_iload_n hx hb dX9_board_6 rfl (lv_at hl 1 rfl) ?_
  refine r_callVi (rest := []) (T := TX9) (N := 14) X hM hS (ct_X9_isJumper hst a0 a1) hP mV_X9_142 rfl rfl rfl hl.1 (Nat.le_of_ble_eq_true rfl) ⟨⟨by decide, by decide⟩, ⟨by decide, by decide⟩⟩ dX9_board_7 (fun r1 M H locs hM hS hP => ?_)
  refine lv_if_ne (tgt := 19) hx hb dX9_board_10 (by decide) (fun hc => ?_) (fun hc => ?_)
  · have hP := mIf_f hP hc
    refine lv_aload_n hx hb dX9_board_19 rfl (lv_at hl 0 rfl) ?_
    refine r_getr X hM hP fl_X9_10 dX9_board_20 (fun x2 hP => ?_)
    refine lv_iload_n hx hb dX9_board_23 rfl (lv_at hl 1 rfl) ?_
    refine r_callFr (rest := []) X hM hS (ct_Jx4a65c_get_915e3 hst x2 a1) hP mF_X9_57 rfl rfl hl.1 (Nat.le_of_ble_eq_true rfl) ⟨⟨by decide, by decide⟩, ⟨by decide, by decide⟩⟩ dX9_board_24 (fun r3 M H locs hM hS hP => ?_)
    refine r_cast (C := RX7) (T := TX7) (N := 12) X hM hP rfl al_X9_44 dX9_board_29 (fun hP => ?_)
    refine lv_astore (lv' := [(4, .ref r3), (0, .ref a0), (1, .int a1), (2, .int a2), (3, .int a3)]) hx hb dX9_board_32 hl (by decide) rfl (fun ls hl => ?_)
    refine lv_iload_n hx hb dX9_board_34 rfl (lv_at hl 3 rfl) ?_
    refine lv_iconst (v := 0) hx hb dX9_board_35 (by decide) ?_
    refine lv_iconst (v := 1) hx hb dX9_board_36 (by decide) ?_
    refine r_callSi (rest := []) X hM hS (ct_X9_in hst a2 0 1) hP mS_X9_39 rfl rfl hl.1 (Nat.le_of_ble_eq_true rfl) ⟨⟨by decide, by decide⟩, ⟨by decide, by decide⟩⟩ dX9_board_37 (fun r4 M H locs hM hS hP => ?_)
    refine lv_if_eq (tgt := 65) hx hb dX9_board_40 (by decide) (fun hc => ?_) (fun hc => ?_)
    · have hP := mIf_t hP hc
      exact hb65 a0 _ _ _ _ hM hS (lv_sub hl [1] rfl) hP
    · have hP := mIf_f hP hc
      refine lv_iload_n hx hb dX9_board_43 rfl (lv_at hl 4 rfl) ?_
      refine lv_aload hx hb dX9_board_44 (lv_at hl 0 rfl) ?_
      refine r_geti X hM hP fl_X9_74 dX9_board_46 (fun x5 hP => ?_)
      refine lv_if_ne (tgt := 56) hx hb dX9_board_49 (by decide) (fun hc => ?_) (fun hc => ?_)
      · have hP := mIf_f hP hc
        refine lv_iconst (v := 2) hx hb dX9_board_56 (by decide) ?_
        exact hb57 a0 a2 a3 r3 a3 2 _ _ _ _ hM hS (lv_sub hl [1, 3, 4, 0] rfl) hP
      · have hP := mIf_t hP hc
        refine lv_iconst (v := 4) hx hb dX9_board_52 (by decide) ?_
        refine lv_goto (tgt := 57) hx hb dX9_board_53 (by decide) ?_
        exact hb57 a0 a2 a3 r3 a3 4 _ _ _ _ hM hS (lv_sub hl [1, 3, 4, 0] rfl) hP
  · have hP := mIf_t hP hc
    refine lv_aload_n hx hb dX9_board_13 rfl (lv_at hl 0 rfl) ?_
    refine lv_iconst (v := 1) hx hb dX9_board_14 (by decide) ?_
    refine r_callVi (rest := []) (T := TX9) (N := 14) X hM hS (ct_X9_no hst a0 1) hP mV_X9_126 rfl rfl rfl hl.1 (Nat.le_of_ble_eq_true rfl) ⟨⟨by decide, by decide⟩, ⟨by decide, by decide⟩⟩ dX9_board_15 (fun r6 M H locs hM hS hP => ?_)
    exact e_iret X hM hS (hk _ _ hP) hr hlocks (by decide) (by decide) dX9_board_18
def f_X9_empty_b12_body (K : Cfg) (k : Int32 → Mem → Prop) (lp12 : Nat → Int32 → Int32 → Mem → Prop) (v0 : Nat) (v1 : Int32) (v2 : Int32) : Mem → Prop :=
 mGetR v0 10 1 fun x1 =>
 mRecv x1 0 <|
 f_Jx4a65c_size_8abf5 K x1 (fun r2 =>
 mIf (r2 ≤ v2)
 (k v1)
 (mGetR v0 10 1 fun x3 =>
 mRecv x3 0 <|
 f_Jx4a65c_get_915e3 K x3 v2 (fun r4 =>
 mRecv r4 8 <|
 mPut r4 8 10 (.int (-1)) <|
 lp12 v0 v1 (v2 + 1))))
def f_X9_empty_b12 (K : Cfg) (k : Int32 → Mem → Prop) : Nat → Nat → Int32 → Int32 → Mem → Prop
  | 0 => fun _ _ _ _ => False
  | n + 1 => f_X9_empty_b12_body K k (f_X9_empty_b12 K k n)
def f_X9_empty (K : Cfg) (a0 : Nat) (k : Int32 → Mem → Prop) : Mem → Prop :=
 mPut a0 10 0 (.int 0) <|
 mRecv a0 10 <|
 f_X9_aboard K a0 (fun r1 =>
 f_X9_empty_b12 K k mFuel a0 r1 0)
abbrev rm_X9_empty : Room := { frames := 4, cells := 0, slots := 0, locals := 86 }
set_option maxHeartbeats 4000000 in
set_option maxRecDepth 100000 in
theorem ct_X9_empty {K : Cfg} {l : Launch} (hst : l.stackTraces = false) (a0 : Nat) : mPi K l yX9_empty cX9_empty 3 (some .int) rm_X9_empty [.ref a0] (f_X9_empty K a0) := by
  refine mPi.of hst (by decide +kernel) (Nat.le_of_ble_eq_true rfl) ?_
  intro M k Q hk hP p e s m below meth c X hr hlocks hname hM ls hl
  have hx := X.1.1
  have hb := X.1.2.1
  have X : Cx K p l s m ([.ref a0] : List Value).toArray c cX9_empty 3 RX9 := X
  have hS : va_S (mFA K) s.heap s.heap [] := va_S.rf
  have hl : lv_has ls 3 [(0, .ref a0)] := hl
  have hb12 : ∀ (n12 : Nat) (v0 : Nat) (v1 : Int32) (v2 : Int32) (M : Mem) (H : Heap) (locs : List Loc) (ls : Array Slot), mh K M H → va_S (mFA K) s.heap H locs → lv_has ls 3 [(0, .ref v0), (1, .int v1), (2, .int v2)] → f_X9_empty_b12 K k n12 v0 v1 v2 M → W p l e rm_X9_empty s m ([.ref a0] : List Value).toArray below meth c H locs 0 0 (MQ below (mQ K Q) ([.ref a0] : List Value).toArray s rm_X9_empty.cells rm_X9_empty.slots (mFA K)) (F0 m 12 ls []) := by
    intro n12
    induction n12 with
    | zero =>
      intro v0 v1 v2 M H locs ls hM hS hl hP
      exact hP.elim
    | succ n12 ih12 =>
      intro v0 v1 v2 M H locs ls hM hS hl hP
      have hP : f_X9_empty_b12_body K k (f_X9_empty_b12 K k n12) v0 v1 v2 M := hP
      unfold f_X9_empty_b12_body at hP
      refine lv_iload_n hx hb dX9_empty_12 rfl (lv_at hl 2 rfl) ?_
      refine lv_aload_n hx hb dX9_empty_13 rfl (lv_at hl 0 rfl) ?_
      refine r_getr X hM hP fl_X9_10 dX9_empty_14 (fun x1 hP => ?_)
      refine r_callFi (rest := [.int v2]) X hM hS (ct_Jx4a65c_size_8abf5 hst x1) hP mF_X9_33 rfl rfl hl.1 (Nat.le_of_ble_eq_true rfl) ⟨⟨by decide, by decide⟩, ⟨by decide, by decide⟩⟩ dX9_empty_17 (fun r2 M H locs hM hS hP => ?_)
      refine lv_icmp_ge (tgt := 48) hx hb dX9_empty_22 (by decide) (fun hc => ?_) (fun hc => ?_)
      · have hP := mIf_t hP hc
        refine lv_iload_n hx hb dX9_empty_48 rfl (lv_at hl 1 rfl) ?_
        exact e_iret X hM hS (hk _ _ hP) hr hlocks (by decide) (by decide) dX9_empty_49
      · have hP := mIf_f hP hc
        refine lv_aload_n hx hb dX9_empty_25 rfl (lv_at hl 0 rfl) ?_
        refine r_getr X hM hP fl_X9_10 dX9_empty_26 (fun x3 hP => ?_)
        refine lv_iload_n hx hb dX9_empty_29 rfl (lv_at hl 2 rfl) ?_
        refine r_callFr (rest := []) X hM hS (ct_Jx4a65c_get_915e3 hst x3 v2) hP mF_X9_57 rfl rfl hl.1 (Nat.le_of_ble_eq_true rfl) ⟨⟨by decide, by decide⟩, ⟨by decide, by decide⟩⟩ dX9_empty_30 (fun r4 M H locs hM hS hP => ?_)
        refine r_cast (C := RX7) (T := TX7) (N := 12) X hM hP rfl al_X9_44 dX9_empty_35 (fun hP => ?_)
        refine lv_iconst (v := (-1)) hx hb dX9_empty_38 (by decide) ?_
        refine r_put X hM hS hP fl_X9_65 ft_X7 rfl (tyX7_ok 10 (Nat.le_of_ble_eq_true rfl)) rfl rfl dX9_empty_39 (fun M H locs hM hS hP => ?_)
        refine lv_iinc (v := v2 + 1) (lv' := [(2, .int (v2 + 1)), (0, .ref v0), (1, .int v1)]) hx hb dX9_empty_42 hl (k := 2) rfl rfl (by decide) rfl (fun ls hl => ?_)
        refine lv_goto (tgt := 12) hx hb dX9_empty_45 (by decide) ?_
        exact ih12 v0 v1 (v2 + 1) _ _ _ _ hM hS (lv_sub hl [1, 2, 0] rfl) hP
  unfold f_X9_empty at hP
  refine lv_aload_n hx hb dX9_empty_0 rfl (lv_at hl 0 rfl) ?_
  refine lv_iconst (v := 0) hx hb dX9_empty_1 (by decide) ?_
  refine r_put X hM hS hP fl_X9_30 ft_X9 rfl (tyX9_ok 0 (Nat.le_of_ble_eq_true rfl)) rfl rfl dX9_empty_2 (fun M H locs hM hS hP => ?_)
  refine lv_aload_n hx hb dX9_empty_5 rfl (lv_at hl 0 rfl) ?_
  refine r_callVi (rest := []) (T := TX9) (N := 14) X hM hS (ct_X9_aboard hst a0) hP mV_X9_87 rfl rfl rfl hl.1 (Nat.le_of_ble_eq_true rfl) ⟨⟨by decide, by decide⟩, ⟨by decide, by decide⟩⟩ dX9_empty_6 (fun r1 M H locs hM hS hP => ?_)
  refine lv_istore_n (lv' := [(1, .int r1), (0, .ref a0)]) hx hb dX9_empty_9 rfl hl (by decide) rfl (fun ls hl => ?_)
  refine lv_iconst (v := 0) hx hb dX9_empty_10 (by decide) ?_
  refine lv_istore_n (lv' := [(2, .int 0), (1, .int r1), (0, .ref a0)]) hx hb dX9_empty_11 rfl hl (by decide) rfl (fun ls hl => ?_)
  exact hb12 mFuel a0 r1 0 _ _ _ _ hM hS (lv_sub hl [2, 1, 0] rfl) hP
def f_X9_land_b137 (K : Cfg) (k : Mem → Prop) (v0 : Nat) (v1 : Nat) (v2 : Nat) (t0 : Nat) (t1 : Int32) (t2 : Int32) : Mem → Prop :=
 mPut t0 10 10 (.int (t1 + t2)) <|
 mGetI v0 10 5 fun x1 =>
 mPut v2 8 3 (.int x1) <|
 mGetI v2 8 4 fun x2 =>
 mPut v2 8 4 (.int (x2 + 1)) <|
 mGetI v0 10 8 fun x3 =>
 mPut v0 10 8 (.int (x3 + 1)) <|
 mGetI v2 8 5 fun x4 =>
 mRecv v1 7 <|
 f_X6_points K v1 (fun r5 =>
 mPut v2 8 5 (.int (x4 + r5)) <|
 mGetD v1 7 4 fun x6 =>
 mPut v2 8 8 (.double x6) <|
 mGetD v1 7 5 fun x7 =>
 mPut v2 8 9 (.double x7) <|
 mPut v2 8 10 (.int (-1)) <|
 k)
def f_X9_land_b112 (K : Cfg) (k : Mem → Prop) (v0 : Nat) (v1 : Nat) (v2 : Nat) (t0 : Nat) (t1 : Int32) (t2 : Int32) : Mem → Prop :=
 mPut t0 10 9 (.int (t1 + t2)) <|
 mGetI v0 10 10 fun x1 =>
 mRecv v1 7 <|
 f_X6_far K v1 (fun r2 =>
 mIf ((Op.cmpValue (FP.dcmp r2 4636737291354636288) .l) ≤ 0)
 (f_X9_land_b137 K k v0 v1 v2 v0 x1 0)
 (f_X9_land_b137 K k v0 v1 v2 v0 x1 1))
def f_X9_land_b91 (K : Cfg) (k : Mem → Prop) (v0 : Nat) (v1 : Nat) (v2 : Nat) (t0 : Nat) (t1 : Int32) (t2 : Int32) : Mem → Prop :=
 mPut t0 8 7 (.int (t1 + t2)) <|
 mGetI v0 10 9 fun x1 =>
 mGetI v1 7 11 fun x2 =>
 mIf (x2 = 0)
 (f_X9_land_b112 K k v0 v1 v2 v0 x1 0)
 (f_X9_land_b112 K k v0 v1 v2 v0 x1 1)
def f_X9_land_b71 (K : Cfg) (k : Mem → Prop) (v0 : Nat) (v1 : Nat) (v2 : Nat) (t0 : Nat) (t1 : Int32) : Mem → Prop :=
 mPut t0 9 1 (.int t1) <|
 mGetI v2 8 7 fun x1 =>
 mGetI v1 7 11 fun x2 =>
 mIf (x2 = 0)
 (f_X9_land_b91 K k v0 v1 v2 v2 x1 0)
 (f_X9_land_b91 K k v0 v1 v2 v2 x1 1)
def f_X9_land_b46 (K : Cfg) (k : Mem → Prop) (v0 : Nat) (v1 : Nat) (v2 : Nat) (v3 : Nat) (t0 : Nat) (t1 : UInt32) (t2 : UInt32) : Mem → Prop :=
 mAs (vf_n32 (FP.fadd t1 t2)) <|
 mPut t0 9 4 (.float (FP.fadd t1 t2)) <|
 mGetI v1 7 11 fun x1 =>
 mIf (x1 = 0)
 (mGetI v3 9 1 fun x2 =>
 f_X9_land_b71 K k v0 v1 v2 v3 x2)
 (mGetI v0 10 5 fun x3 =>
 f_X9_land_b71 K k v0 v1 v2 v3 (x3 - 1))
def f_X9_land (K : Cfg) (a0 : Nat) (a1 : Nat) (k : Mem → Prop) : Mem → Prop :=
 mGetR a1 7 0 fun x1 =>
 mGetR a0 10 2 fun x2 =>
 mGetI x1 8 2 fun x3 =>
 mRecv x2 0 <|
 f_Jx4a65c_get_915e3 K x2 x3 (fun r4 =>
 mRecv r4 9 <|
 mPutZ r4 9 3 0 <|
 mGetF r4 9 4 fun x5 =>
 mGetI a1 7 11 fun x6 =>
 mIf (x6 = 0)
 (f_X9_land_b46 K k a0 a1 x1 r4 r4 x5 1031798784)
 (f_X9_land_b46 K k a0 a1 x1 r4 r4 x5 1048576000))
abbrev rm_X9_land : Room := { frames := 3, cells := 0, slots := 0, locals := 64 }
set_option maxHeartbeats 4000000 in
set_option maxRecDepth 100000 in
theorem ct_X9_land {K : Cfg} {l : Launch} (hst : l.stackTraces = false) (a0 : Nat) (a1 : Nat) : mPv K l yX9_land cX9_land 4 none rm_X9_land [.ref a0, .ref a1] (f_X9_land K a0 a1) := by
  refine mPv.of hst (by decide +kernel) (Nat.le_of_ble_eq_true rfl) ?_
  intro M k Q hk hP p e s m below meth c X hr hlocks hname hM ls hl
  have hx := X.1.1
  have hb := X.1.2.1
  have X : Cx K p l s m ([.ref a0, .ref a1] : List Value).toArray c cX9_land 4 RX9 := X
  have hS : va_S (mFA K) s.heap s.heap [] := va_S.rf
  have hl : lv_has ls 4 [(0, .ref a0), (1, .ref a1)] := hl
  have hb137 : ∀ (v0 : Nat) (v1 : Nat) (v2 : Nat) (t0 : Nat) (t1 : Int32) (t2 : Int32) (M : Mem) (H : Heap) (locs : List Loc) (ls : Array Slot), mh K M H → va_S (mFA K) s.heap H locs → lv_has ls 4 [(0, .ref v0), (1, .ref v1), (2, .ref v2)] → f_X9_land_b137 K k v0 v1 v2 t0 t1 t2 M → W p l e rm_X9_land s m ([.ref a0, .ref a1] : List Value).toArray below meth c H locs 0 0 (MQ below (mQ K Q) ([.ref a0, .ref a1] : List Value).toArray s rm_X9_land.cells rm_X9_land.slots (mFA K)) (F0 m 137 ls [.int t2, .int t1, .ref t0]) := by
    intro v0 v1 v2 t0 t1 t2 M H locs ls hM hS hl hP
    unfold f_X9_land_b137 at hP
    refine lv_iadd hx hb dX9_land_137 ?_
    refine r_put X hM hS hP fl_X9_222 ft_X9 rfl (tyX9_ok 10 (Nat.le_of_ble_eq_true rfl)) rfl rfl dX9_land_138 (fun M H locs hM hS hP => ?_)
    refine lv_aload_n hx hb dX9_land_141 rfl (lv_at hl 2 rfl) ?_
    refine lv_aload_n hx hb dX9_land_142 rfl (lv_at hl 0 rfl) ?_
    refine r_geti X hM hP fl_X9_129 dX9_land_143 (fun x1 hP => ?_)
    refine r_put X hM hS hP fl_X9_168 ft_X7 rfl (tyX7_ok 3 (Nat.le_of_ble_eq_true rfl)) rfl rfl dX9_land_146 (fun M H locs hM hS hP => ?_)
    refine lv_aload_n hx hb dX9_land_149 rfl (lv_at hl 2 rfl) ?_
    refine lv_dup hx hb dX9_land_150 rfl ?_
    refine r_geti X hM hP fl_X9_231 dX9_land_151 (fun x2 hP => ?_)
    refine lv_iconst (v := 1) hx hb dX9_land_154 (by decide) ?_
    refine lv_iadd hx hb dX9_land_155 ?_
    refine r_put X hM hS hP fl_X9_231 ft_X7 rfl (tyX7_ok 4 (Nat.le_of_ble_eq_true rfl)) rfl rfl dX9_land_156 (fun M H locs hM hS hP => ?_)
    refine lv_aload_n hx hb dX9_land_159 rfl (lv_at hl 0 rfl) ?_
    refine lv_dup hx hb dX9_land_160 rfl ?_
    refine r_geti X hM hP fl_X9_234 dX9_land_161 (fun x3 hP => ?_)
    refine lv_iconst (v := 1) hx hb dX9_land_164 (by decide) ?_
    refine lv_iadd hx hb dX9_land_165 ?_
    refine r_put X hM hS hP fl_X9_234 ft_X9 rfl (tyX9_ok 8 (Nat.le_of_ble_eq_true rfl)) rfl rfl dX9_land_166 (fun M H locs hM hS hP => ?_)
    refine lv_aload_n hx hb dX9_land_169 rfl (lv_at hl 2 rfl) ?_
    refine lv_dup hx hb dX9_land_170 rfl ?_
    refine r_geti X hM hP fl_X9_235 dX9_land_171 (fun x4 hP => ?_)
    refine lv_aload_n hx hb dX9_land_174 rfl (lv_at hl 1 rfl) ?_
    refine r_callVi (rest := [.int x4, .ref v2]) (T := TX6) (N := 13) X hM hS (ct_X6_points hst v1) hP mV_X9_123 rfl rfl rfl hl.1 (Nat.le_of_ble_eq_true rfl) ⟨⟨by decide, by decide⟩, ⟨by decide, by decide⟩⟩ dX9_land_175 (fun r5 M H locs hM hS hP => ?_)
    refine lv_iadd hx hb dX9_land_178 ?_
    refine r_put X hM hS hP fl_X9_235 ft_X7 rfl (tyX7_ok 5 (Nat.le_of_ble_eq_true rfl)) rfl rfl dX9_land_179 (fun M H locs hM hS hP => ?_)
    refine lv_aload_n hx hb dX9_land_182 rfl (lv_at hl 2 rfl) ?_
    refine lv_aload_n hx hb dX9_land_183 rfl (lv_at hl 1 rfl) ?_
    refine r_getd X hM hP fl_X9_237 dX9_land_184 (fun x6 hP => ?_)
    refine r_put X hM hS hP fl_X9_241 ft_X7 rfl (tyX7_ok 8 (Nat.le_of_ble_eq_true rfl)) rfl rfl dX9_land_187 (fun M H locs hM hS hP => ?_)
    refine lv_aload_n hx hb dX9_land_190 rfl (lv_at hl 2 rfl) ?_
    refine lv_aload_n hx hb dX9_land_191 rfl (lv_at hl 1 rfl) ?_
    refine r_getd X hM hP fl_X9_242 dX9_land_192 (fun x7 hP => ?_)
    refine r_put X hM hS hP fl_X9_245 ft_X7 rfl (tyX7_ok 9 (Nat.le_of_ble_eq_true rfl)) rfl rfl dX9_land_195 (fun M H locs hM hS hP => ?_)
    refine lv_aload_n hx hb dX9_land_198 rfl (lv_at hl 2 rfl) ?_
    refine lv_iconst (v := (-1)) hx hb dX9_land_199 (by decide) ?_
    refine r_put X hM hS hP fl_X9_65 ft_X7 rfl (tyX7_ok 10 (Nat.le_of_ble_eq_true rfl)) rfl rfl dX9_land_200 (fun M H locs hM hS hP => ?_)
    exact e_vret X hM hS (hk _ hP) hr hlocks (by decide) (by decide) dX9_land_203
  have hb112 : ∀ (v0 : Nat) (v1 : Nat) (v2 : Nat) (t0 : Nat) (t1 : Int32) (t2 : Int32) (M : Mem) (H : Heap) (locs : List Loc) (ls : Array Slot), mh K M H → va_S (mFA K) s.heap H locs → lv_has ls 4 [(0, .ref v0), (1, .ref v1), (2, .ref v2)] → f_X9_land_b112 K k v0 v1 v2 t0 t1 t2 M → W p l e rm_X9_land s m ([.ref a0, .ref a1] : List Value).toArray below meth c H locs 0 0 (MQ below (mQ K Q) ([.ref a0, .ref a1] : List Value).toArray s rm_X9_land.cells rm_X9_land.slots (mFA K)) (F0 m 112 ls [.int t2, .int t1, .ref t0]) := by
    intro v0 v1 v2 t0 t1 t2 M H locs ls hM hS hl hP
    unfold f_X9_land_b112 at hP
    refine lv_iadd hx hb dX9_land_112 ?_
    refine r_put X hM hS hP fl_X9_221 ft_X9 rfl (tyX9_ok 9 (Nat.le_of_ble_eq_true rfl)) rfl rfl dX9_land_113 (fun M H locs hM hS hP => ?_)
    refine lv_aload_n hx hb dX9_land_116 rfl (lv_at hl 0 rfl) ?_
    refine lv_dup hx hb dX9_land_117 rfl ?_
    refine r_geti X hM hP fl_X9_222 dX9_land_118 (fun x1 hP => ?_)
    refine lv_aload_n hx hb dX9_land_121 rfl (lv_at hl 1 rfl) ?_
    refine r_callVd (rest := [.int x1, .ref v0]) (T := TX6) (N := 13) X hM hS (ct_X6_far hst v1) hP mV_X9_225 rfl rfl rfl hl.1 (Nat.le_of_ble_eq_true rfl) ⟨⟨by decide, by decide⟩, ⟨by decide, by decide⟩⟩ dX9_land_122 (fun r2 M H locs hM hS hP => ?_)
    refine r_ldcd (v := 4636737291354636288) X kc_X9_229 dX9_land_125 ?_
    refine lv_dcmp hx hb dX9_land_128 ?_
    refine lv_if_le (tgt := 136) hx hb dX9_land_129 (by decide) (fun hc => ?_) (fun hc => ?_)
    · have hP := mIf_t hP hc
      refine lv_iconst (v := 0) hx hb dX9_land_136 (by decide) ?_
      exact hb137 v0 v1 v2 v0 x1 0 _ _ _ _ hM hS (lv_sub hl [0, 1, 2] rfl) hP
    · have hP := mIf_f hP hc
      refine lv_iconst (v := 1) hx hb dX9_land_132 (by decide) ?_
      refine lv_goto (tgt := 137) hx hb dX9_land_133 (by decide) ?_
      exact hb137 v0 v1 v2 v0 x1 1 _ _ _ _ hM hS (lv_sub hl [0, 1, 2] rfl) hP
  have hb91 : ∀ (v0 : Nat) (v1 : Nat) (v2 : Nat) (t0 : Nat) (t1 : Int32) (t2 : Int32) (M : Mem) (H : Heap) (locs : List Loc) (ls : Array Slot), mh K M H → va_S (mFA K) s.heap H locs → lv_has ls 4 [(0, .ref v0), (1, .ref v1), (2, .ref v2)] → f_X9_land_b91 K k v0 v1 v2 t0 t1 t2 M → W p l e rm_X9_land s m ([.ref a0, .ref a1] : List Value).toArray below meth c H locs 0 0 (MQ below (mQ K Q) ([.ref a0, .ref a1] : List Value).toArray s rm_X9_land.cells rm_X9_land.slots (mFA K)) (F0 m 91 ls [.int t2, .int t1, .ref t0]) := by
    intro v0 v1 v2 t0 t1 t2 M H locs ls hM hS hl hP
    unfold f_X9_land_b91 at hP
    refine lv_iadd hx hb dX9_land_91 ?_
    refine r_put X hM hS hP fl_X9_218 ft_X7 rfl (tyX7_ok 7 (Nat.le_of_ble_eq_true rfl)) rfl rfl dX9_land_92 (fun M H locs hM hS hP => ?_)
    refine lv_aload_n hx hb dX9_land_95 rfl (lv_at hl 0 rfl) ?_
    refine lv_dup hx hb dX9_land_96 rfl ?_
    refine r_geti X hM hP fl_X9_221 dX9_land_97 (fun x1 hP => ?_)
    refine lv_aload_n hx hb dX9_land_100 rfl (lv_at hl 1 rfl) ?_
    refine r_geti X hM hP fl_X9_197 dX9_land_101 (fun x2 hP => ?_)
    refine lv_if_eq (tgt := 111) hx hb dX9_land_104 (by decide) (fun hc => ?_) (fun hc => ?_)
    · have hP := mIf_t hP hc
      refine lv_iconst (v := 0) hx hb dX9_land_111 (by decide) ?_
      exact hb112 v0 v1 v2 v0 x1 0 _ _ _ _ hM hS (lv_sub hl [0, 1, 2] rfl) hP
    · have hP := mIf_f hP hc
      refine lv_iconst (v := 1) hx hb dX9_land_107 (by decide) ?_
      refine lv_goto (tgt := 112) hx hb dX9_land_108 (by decide) ?_
      exact hb112 v0 v1 v2 v0 x1 1 _ _ _ _ hM hS (lv_sub hl [0, 1, 2] rfl) hP
  have hb71 : ∀ (v0 : Nat) (v1 : Nat) (v2 : Nat) (t0 : Nat) (t1 : Int32) (M : Mem) (H : Heap) (locs : List Loc) (ls : Array Slot), mh K M H → va_S (mFA K) s.heap H locs → lv_has ls 4 [(0, .ref v0), (1, .ref v1), (2, .ref v2)] → f_X9_land_b71 K k v0 v1 v2 t0 t1 M → W p l e rm_X9_land s m ([.ref a0, .ref a1] : List Value).toArray below meth c H locs 0 0 (MQ below (mQ K Q) ([.ref a0, .ref a1] : List Value).toArray s rm_X9_land.cells rm_X9_land.slots (mFA K)) (F0 m 71 ls [.int t1, .ref t0]) := by
    intro v0 v1 v2 t0 t1 M H locs ls hM hS hl hP
    unfold f_X9_land_b71 at hP
    refine r_put X hM hS hP fl_X9_162 ft_X8 rfl (tyX8_ok 1 (Nat.le_of_ble_eq_true rfl)) rfl rfl dX9_land_71 (fun M H locs hM hS hP => ?_)
    refine lv_aload_n hx hb dX9_land_74 rfl (lv_at hl 2 rfl) ?_
    refine lv_dup hx hb dX9_land_75 rfl ?_
    refine r_geti X hM hP fl_X9_218 dX9_land_76 (fun x1 hP => ?_)
    refine lv_aload_n hx hb dX9_land_79 rfl (lv_at hl 1 rfl) ?_
    refine r_geti X hM hP fl_X9_197 dX9_land_80 (fun x2 hP => ?_)
    refine lv_if_eq (tgt := 90) hx hb dX9_land_83 (by decide) (fun hc => ?_) (fun hc => ?_)
    · have hP := mIf_t hP hc
      refine lv_iconst (v := 0) hx hb dX9_land_90 (by decide) ?_
      exact hb91 v0 v1 v2 v2 x1 0 _ _ _ _ hM hS (lv_sub hl [0, 1, 2] rfl) hP
    · have hP := mIf_f hP hc
      refine lv_iconst (v := 1) hx hb dX9_land_86 (by decide) ?_
      refine lv_goto (tgt := 91) hx hb dX9_land_87 (by decide) ?_
      exact hb91 v0 v1 v2 v2 x1 1 _ _ _ _ hM hS (lv_sub hl [0, 1, 2] rfl) hP
  have hb46 : ∀ (v0 : Nat) (v1 : Nat) (v2 : Nat) (v3 : Nat) (t0 : Nat) (t1 : UInt32) (t2 : UInt32) (M : Mem) (H : Heap) (locs : List Loc) (ls : Array Slot), mh K M H → va_S (mFA K) s.heap H locs → lv_has ls 4 [(0, .ref v0), (1, .ref v1), (2, .ref v2), (3, .ref v3)] → f_X9_land_b46 K k v0 v1 v2 v3 t0 t1 t2 M → W p l e rm_X9_land s m ([.ref a0, .ref a1] : List Value).toArray below meth c H locs 0 0 (MQ below (mQ K Q) ([.ref a0, .ref a1] : List Value).toArray s rm_X9_land.cells rm_X9_land.slots (mFA K)) (F0 m 46 ls [.float t2, .float t1, .ref t0]) := by
    intro v0 v1 v2 v3 t0 t1 t2 M H locs ls hM hS hl hP
    unfold f_X9_land_b46 at hP
    obtain ⟨h9, hP⟩ := hP
    refine lv_fadd hx hb dX9_land_46 h9 ?_
    refine r_put X hM hS hP fl_X9_193 ft_X8 rfl (tyX8_ok 4 (Nat.le_of_ble_eq_true rfl)) rfl rfl dX9_land_47 (fun M H locs hM hS hP => ?_)
    refine lv_aload_n hx hb dX9_land_50 rfl (lv_at hl 3 rfl) ?_
    refine lv_aload_n hx hb dX9_land_51 rfl (lv_at hl 1 rfl) ?_
    refine r_geti X hM hP fl_X9_197 dX9_land_52 (fun x1 hP => ?_)
    refine lv_if_eq (tgt := 67) hx hb dX9_land_55 (by decide) (fun hc => ?_) (fun hc => ?_)
    · have hP := mIf_t hP hc
      refine lv_aload_n hx hb dX9_land_67 rfl (lv_at hl 3 rfl) ?_
      refine r_geti X hM hP fl_X9_162 dX9_land_68 (fun x2 hP => ?_)
      exact hb71 v0 v1 v2 v3 x2 _ _ _ _ hM hS (lv_sub hl [0, 1, 2] rfl) hP
    · have hP := mIf_f hP hc
      refine lv_aload_n hx hb dX9_land_58 rfl (lv_at hl 0 rfl) ?_
      refine r_geti X hM hP fl_X9_129 dX9_land_59 (fun x3 hP => ?_)
      refine lv_iconst (v := 1) hx hb dX9_land_62 (by decide) ?_
      refine lv_isub hx hb dX9_land_63 ?_
      refine lv_goto (tgt := 71) hx hb dX9_land_64 (by decide) ?_
      exact hb71 v0 v1 v2 v3 (x3 - 1) _ _ _ _ hM hS (lv_sub hl [0, 1, 2] rfl) hP
  unfold f_X9_land at hP
  refine lv_aload_n hx hb dX9_land_0 rfl (lv_at hl 1 rfl) ?_
  refine r_getr X hM hP fl_X9_189 dX9_land_1 (fun x1 hP => ?_)
  refine lv_astore_n (lv' := [(2, .ref x1), (0, .ref a0), (1, .ref a1)]) hx hb dX9_land_4 rfl hl (by decide) rfl (fun ls hl => ?_)
  refine lv_aload_n hx hb dX9_land_5 rfl (lv_at hl 1 rfl) ?_
  refine r_getr X hM hP fl_X9_16 dX9_land_6 (fun x2 hP => ?_)
  refine lv_aload_n hx hb dX9_land_9 rfl (lv_at hl 0 rfl) ?_
  refine r_geti X hM hP fl_X9_54 dX9_land_10 (fun x3 hP => ?_)
  refine r_callFr (rest := []) X hM hS (ct_Jx4a65c_get_915e3 hst x2 x3) hP mF_X9_57 rfl rfl hl.1 (Nat.le_of_ble_eq_true rfl) ⟨⟨by decide, by decide⟩, ⟨by decide, by decide⟩⟩ dX9_land_13 (fun r4 M H locs hM hS hP => ?_)
  refine r_cast (C := RX8) (T := TX8) (N := 5) X hM hP rfl al_X9_50 dX9_land_18 (fun hP => ?_)
  refine lv_astore_n (lv' := [(3, .ref r4), (2, .ref x1), (0, .ref a0), (1, .ref a1)]) hx hb dX9_land_21 rfl hl (by decide) rfl (fun ls hl => ?_)
  refine lv_aload_n hx hb dX9_land_22 rfl (lv_at hl 0 rfl) ?_
  refine lv_iconst (v := 0) hx hb dX9_land_23 (by decide) ?_
  refine r_putz X hM hS hP fl_X9_148 ft_X8 rfl (tyX8_ok 3 (Nat.le_of_ble_eq_true rfl)) dX9_land_24 (fun M H locs hM hS hP => ?_)
  refine lv_aload_n hx hb dX9_land_27 rfl (lv_at hl 0 rfl) ?_
  refine lv_dup hx hb dX9_land_28 rfl ?_
  refine r_getf X hM hP fl_X9_193 dX9_land_29 (fun x5 hP => ?_)
  refine lv_aload_n hx hb dX9_land_32 rfl (lv_at hl 3 rfl) ?_
  refine r_geti X hM hP fl_X9_197 dX9_land_33 (fun x6 hP => ?_)
  refine lv_if_eq (tgt := 44) hx hb dX9_land_36 (by decide) (fun hc => ?_) (fun hc => ?_)
  · have hP := mIf_t hP hc
    refine r_ldcf (v := 1031798784) X kc_X9_217 dX9_land_44 ?_
    exact hb46 a0 a1 x1 r4 r4 x5 1031798784 _ _ _ _ hM hS (lv_sub hl [2, 3, 1, 0] rfl) hP
  · have hP := mIf_f hP hc
    refine r_ldcf (v := 1048576000) X kc_X9_216 dX9_land_39 ?_
    refine lv_goto (tgt := 46) hx hb dX9_land_41 (by decide) ?_
    exact hb46 a0 a1 x1 r4 r4 x5 1048576000 _ _ _ _ hM hS (lv_sub hl [2, 3, 1, 0] rfl) hP
def f_X9_fly_b186_body (K : Cfg) (k : Int32 → Mem → Prop) (lp186 : Nat → Nat → Int32 → Mem → Prop) (v0 : Nat) (v3 : Nat) (v4 : Int32) : Mem → Prop :=
 mRecv v3 0 <|
 f_Jx4a65c_size_8abf5 K v3 (fun r1 =>
 mIf (r1 ≤ v4)
 (mGetI v0 10 7 fun x2 =>
 mPut v0 10 7 (.int (x2 + 1)) <|
 f_X9_points K v3 (fun r3 =>
 k r3))
 (mRecv v3 0 <|
 f_Jx4a65c_get_915e3 K v3 v4 (fun r4 =>
 mRecv r4 7 <|
 mRecv v0 10 <|
 f_X9_land K v0 r4 (
 lp186 v0 v3 (v4 + 1)))))
def f_X9_fly_b186 (K : Cfg) (k : Int32 → Mem → Prop) : Nat → Nat → Nat → Int32 → Mem → Prop
  | 0 => fun _ _ _ _ => False
  | n + 1 => f_X9_fly_b186_body K k (f_X9_fly_b186 K k n)
def f_X9_fly_b161 (K : Cfg) (k : Int32 → Mem → Prop) (lp64 : Nat → Nat → Int32 → Mem → Prop) (v0 : Nat) (v3 : Nat) (v4 : Int32) (t0 : Nat) (t1 : Int32) : Mem → Prop :=
 mPutZ t0 7 11 t1 <|
 lp64 v0 v3 (v4 + 1)
def f_X9_fly_b64_body (K : Cfg) (k : Int32 → Mem → Prop) (lp64 : Nat → Nat → Int32 → Mem → Prop) (v0 : Nat) (v3 : Nat) (v4 : Int32) : Mem → Prop :=
 mRecv v3 0 <|
 f_Jx4a65c_size_8abf5 K v3 (fun r1 =>
 mIf (r1 ≤ v4)
 (mGetI v0 10 11 fun x2 =>
 f_X9_go K v3 (fun r3 =>
 mPut v0 10 11 (.int (x2 + r3)) <|
 f_X9_fly_b186 K k mFuel v0 v3 0))
 (mGetR v0 10 2 fun x4 =>
 mRecv v3 0 <|
 f_Jx4a65c_get_915e3 K v3 v4 (fun r5 =>
 mRecv r5 7 <|
 mGetR r5 7 0 fun x6 =>
 mGetI x6 8 2 fun x7 =>
 mRecv x4 0 <|
 f_Jx4a65c_get_915e3 K x4 x7 (fun r8 =>
 mRecv r8 9 <|
 mGetI v0 10 6 fun x9 =>
 mAs (¬ (32 : Int32) = 0) <|
 mPut v0 10 6 (.int (((5 * x9) + 3) - ((5 * x9) + 3) / 32 * 32)) <|
 mRecv v3 0 <|
 f_Jx4a65c_get_915e3 K v3 v4 (fun r10 =>
 mRecv r10 7 <|
 mGetI v0 10 6 fun x11 =>
 mGetI r8 9 2 fun x12 =>
 mGetF r8 9 4 fun x13 =>
 mAs (vf_n32 (FP.fmul x13 FP.fconst2)) <|
 mIf (((9 - x12) + (FP.f2i (FP.fmul x13 FP.fconst2))) ≤ x11)
 (f_X9_fly_b161 K k lp64 v0 v3 v4 r10 0)
 (f_X9_fly_b161 K k lp64 v0 v3 v4 r10 1))))))
def f_X9_fly_b64 (K : Cfg) (k : Int32 → Mem → Prop) : Nat → Nat → Nat → Int32 → Mem → Prop
  | 0 => fun _ _ _ _ => False
  | n + 1 => f_X9_fly_b64_body K k (f_X9_fly_b64 K k n)
def f_X9_fly_b48 (K : Cfg) (k : Int32 → Mem → Prop) (v0 : Nat) : Mem → Prop :=
 mRecv v0 10 <|
 f_X9_no K v0 2 (fun r1 =>
 k r1)
def f_X9_fly_b28 (K : Cfg) (k : Int32 → Mem → Prop) (v0 : Nat) : Mem → Prop :=
 mRecv v0 10 <|
 f_X9_no K v0 1 (fun r1 =>
 k r1)
def f_X9_fly (K : Cfg) (a0 : Nat) (a1 : Int32) (a2 : Int32) (k : Int32 → Mem → Prop) : Mem → Prop :=
 mPut a0 10 0 (.int 0) <|
 f_X9_in K a1 (-200) 200 (fun r1 =>
 mIf (r1 = 0)
 (f_X9_fly_b28 K k a0)
 (f_X9_in K a2 1 9 (fun r2 =>
 mIf (r2 = 0)
 (f_X9_fly_b28 K k a0)
 (mGetI a0 10 12 fun x3 =>
 mIf (x3 = 0)
 (mRecv a0 10 <|
 f_X9_aboard K a0 (fun r4 =>
 mIf (r4 = 0)
 (f_X9_fly_b48 K k a0)
 (mRecv a0 10 <|
 f_X9_flight K a0 a1 a2 (fun r5 =>
 f_X9_fly_b64 K k mFuel a0 r5 0))))
 (f_X9_fly_b48 K k a0)))))
abbrev rm_X9_fly : Room := { frames := 8, cells := 20, slots := 183, locals := 179 }
set_option maxHeartbeats 4000000 in
set_option maxRecDepth 100000 in
theorem ct_X9_fly {K : Cfg} {l : Launch} (hst : l.stackTraces = false) (a0 : Nat) (a1 : Int32) (a2 : Int32) : mPi K l yX9_fly cX9_fly 6 (some .int) rm_X9_fly [.ref a0, .int a1, .int a2] (f_X9_fly K a0 a1 a2) := by
  refine mPi.of hst (by decide +kernel) (Nat.le_of_ble_eq_true rfl) ?_
  intro M k Q hk hP p e s m below meth c X hr hlocks hname hM ls hl
  have hx := X.1.1
  have hb := X.1.2.1
  have X : Cx K p l s m ([.ref a0, .int a1, .int a2] : List Value).toArray c cX9_fly 6 RX9 := X
  have hS : va_S (mFA K) s.heap s.heap [] := va_S.rf
  have hl : lv_has ls 6 [(0, .ref a0), (1, .int a1), (2, .int a2)] := hl
  have hb186 : ∀ (n186 : Nat) (v0 : Nat) (v3 : Nat) (v4 : Int32) (M : Mem) (H : Heap) (locs : List Loc) (ls : Array Slot), mh K M H → va_S (mFA K) s.heap H locs → lv_has ls 6 [(0, .ref v0), (3, .ref v3), (4, .int v4)] → f_X9_fly_b186 K k n186 v0 v3 v4 M → W p l e rm_X9_fly s m ([.ref a0, .int a1, .int a2] : List Value).toArray below meth c H locs 20 183 (MQ below (mQ K Q) ([.ref a0, .int a1, .int a2] : List Value).toArray s rm_X9_fly.cells rm_X9_fly.slots (mFA K)) (F0 m 186 ls []) := by
    intro n186
    induction n186 with
    | zero =>
      intro v0 v3 v4 M H locs ls hM hS hl hP
      exact hP.elim
    | succ n186 ih186 =>
      intro v0 v3 v4 M H locs ls hM hS hl hP
      have hP : f_X9_fly_b186_body K k (f_X9_fly_b186 K k n186) v0 v3 v4 M := hP
      unfold f_X9_fly_b186_body at hP
      refine lv_iload hx hb dX9_fly_186 (lv_at hl 2 rfl) ?_
      refine lv_aload_n hx hb dX9_fly_188 rfl (lv_at hl 1 rfl) ?_
      refine r_callFi (rest := [.int v4]) X hM hS (ct_Jx4a65c_size_8abf5 hst v3) hP mF_X9_33 rfl rfl hl.1 (Nat.le_of_ble_eq_true rfl) ⟨⟨by decide, by decide⟩, ⟨by decide, by decide⟩⟩ dX9_fly_189 (fun r1 M H locs hM hS hP => ?_)
      refine lv_icmp_ge (tgt := 218) hx hb dX9_fly_194 (by decide) (fun hc => ?_) (fun hc => ?_)
      · have hP := mIf_t hP hc
        refine lv_aload_n hx hb dX9_fly_218 rfl (lv_at hl 0 rfl) ?_
        refine lv_dup hx hb dX9_fly_219 rfl ?_
        refine r_geti X hM hP fl_X9_211 dX9_fly_220 (fun x2 hP => ?_)
        refine lv_iconst (v := 1) hx hb dX9_fly_223 (by decide) ?_
        refine lv_iadd hx hb dX9_fly_224 ?_
        refine r_put X hM hS hP fl_X9_211 ft_X9 rfl (tyX9_ok 7 (Nat.le_of_ble_eq_true rfl)) rfl rfl dX9_fly_225 (fun M H locs hM hS hP => ?_)
        refine lv_aload_n hx hb dX9_fly_228 rfl (lv_at hl 1 rfl) ?_
        refine r_callSi (rest := []) X hM hS (ct_X9_points hst v3) hP mS_X9_214 rfl rfl hl.1 (Nat.le_of_ble_eq_true rfl) ⟨⟨by decide, by decide⟩, ⟨by decide, by decide⟩⟩ dX9_fly_229 (fun r3 M H locs hM hS hP => ?_)
        exact e_iret X hM hS (hk _ _ hP) hr hlocks (by decide) (by decide) dX9_fly_232
      · have hP := mIf_f hP hc
        refine lv_aload_n hx hb dX9_fly_197 rfl (lv_at hl 0 rfl) ?_
        refine lv_aload_n hx hb dX9_fly_198 rfl (lv_at hl 1 rfl) ?_
        refine lv_iload hx hb dX9_fly_199 (lv_at hl 2 rfl) ?_
        refine r_callFr (rest := [.ref v0]) X hM hS (ct_Jx4a65c_get_915e3 hst v3 v4) hP mF_X9_57 rfl rfl hl.1 (Nat.le_of_ble_eq_true rfl) ⟨⟨by decide, by decide⟩, ⟨by decide, by decide⟩⟩ dX9_fly_201 (fun r4 M H locs hM hS hP => ?_)
        refine r_cast (C := RX6) (T := TX6) (N := 13) X hM hP rfl al_X9_93 dX9_fly_206 (fun hP => ?_)
        refine r_callVv (rest := []) (T := TX9) (N := 14) X hM hS (ct_X9_land hst v0 r4) hP mV_X9_207 rfl rfl rfl hl.1 (Nat.le_of_ble_eq_true rfl) ⟨⟨by decide, by decide⟩, ⟨by decide, by decide⟩⟩ dX9_fly_209 (fun M H locs hM hS hP => ?_)
        refine lv_iinc (v := v4 + 1) (lv' := [(4, .int (v4 + 1)), (0, .ref v0), (3, .ref v3)]) hx hb dX9_fly_212 hl (k := 2) rfl rfl (by decide) rfl (fun ls hl => ?_)
        refine lv_goto (tgt := 186) hx hb dX9_fly_215 (by decide) ?_
        exact ih186 v0 v3 (v4 + 1) _ _ _ _ hM hS (lv_sub hl [1, 2, 0] rfl) hP
  have hb64 : ∀ (n64 : Nat) (v0 : Nat) (v3 : Nat) (v4 : Int32) (M : Mem) (H : Heap) (locs : List Loc) (ls : Array Slot), mh K M H → va_S (mFA K) s.heap H locs → lv_has ls 6 [(0, .ref v0), (3, .ref v3), (4, .int v4)] → f_X9_fly_b64 K k n64 v0 v3 v4 M → W p l e rm_X9_fly s m ([.ref a0, .int a1, .int a2] : List Value).toArray below meth c H locs 13 141 (MQ below (mQ K Q) ([.ref a0, .int a1, .int a2] : List Value).toArray s rm_X9_fly.cells rm_X9_fly.slots (mFA K)) (F0 m 64 ls []) := by
    intro n64
    induction n64 with
    | zero =>
      intro v0 v3 v4 M H locs ls hM hS hl hP
      exact hP.elim
    | succ n64 ih64 =>
      have hb161 : ∀ (v0 : Nat) (v3 : Nat) (v4 : Int32) (t0 : Nat) (t1 : Int32) (M : Mem) (H : Heap) (locs : List Loc) (ls : Array Slot), mh K M H → va_S (mFA K) s.heap H locs → lv_has ls 6 [(0, .ref v0), (3, .ref v3), (4, .int v4)] → f_X9_fly_b161 K k (f_X9_fly_b64 K k n64) v0 v3 v4 t0 t1 M → W p l e rm_X9_fly s m ([.ref a0, .int a1, .int a2] : List Value).toArray below meth c H locs 13 141 (MQ below (mQ K Q) ([.ref a0, .int a1, .int a2] : List Value).toArray s rm_X9_fly.cells rm_X9_fly.slots (mFA K)) (F0 m 161 ls [.int t1, .ref t0]) := by
        intro v0 v3 v4 t0 t1 M H locs ls hM hS hl hP
        unfold f_X9_fly_b161 at hP
        refine r_putz X hM hS hP fl_X9_197 ft_X6 rfl (tyX6_ok 11 (Nat.le_of_ble_eq_true rfl)) dX9_fly_161 (fun M H locs hM hS hP => ?_)
        refine lv_iinc (v := v4 + 1) (lv' := [(4, .int (v4 + 1)), (0, .ref v0), (3, .ref v3)]) hx hb dX9_fly_164 hl (k := 2) rfl rfl (by decide) rfl (fun ls hl => ?_)
        refine lv_goto (tgt := 64) hx hb dX9_fly_167 (by decide) ?_
        exact ih64 v0 v3 (v4 + 1) _ _ _ _ hM hS (lv_sub hl [1, 2, 0] rfl) hP
      intro v0 v3 v4 M H locs ls hM hS hl hP
      have hP : f_X9_fly_b64_body K k (f_X9_fly_b64 K k n64) v0 v3 v4 M := hP
      unfold f_X9_fly_b64_body at hP
      refine lv_iload hx hb dX9_fly_64 (lv_at hl 2 rfl) ?_
      refine lv_aload_n hx hb dX9_fly_66 rfl (lv_at hl 1 rfl) ?_
      refine r_callFi (rest := [.int v4]) X hM hS (ct_Jx4a65c_size_8abf5 hst v3) hP mF_X9_33 rfl rfl hl.1 (Nat.le_of_ble_eq_true rfl) ⟨⟨by decide, by decide⟩, ⟨by decide, by decide⟩⟩ dX9_fly_67 (fun r1 M H locs hM hS hP => ?_)
      refine lv_icmp_ge (tgt := 170) hx hb dX9_fly_72 (by decide) (fun hc => ?_) (fun hc => ?_)
      · have hP := mIf_t hP hc
        refine lv_aload_n hx hb dX9_fly_170 rfl (lv_at hl 0 rfl) ?_
        refine lv_dup hx hb dX9_fly_171 rfl ?_
        refine r_geti X hM hP fl_X9_200 dX9_fly_172 (fun x2 hP => ?_)
        refine lv_aload_n hx hb dX9_fly_175 rfl (lv_at hl 1 rfl) ?_
        refine r_callSi (rest := [.int x2, .ref v0]) X hM hS (ct_X9_go hst v3) hP mS_X9_203 rfl rfl hl.1 (Nat.le_of_ble_eq_true rfl) ⟨⟨by decide, by decide⟩, ⟨by decide, by decide⟩⟩ dX9_fly_176 (fun r3 M H locs hM hS hP => ?_)
        refine lv_iadd hx hb dX9_fly_179 ?_
        refine r_put X hM hS hP fl_X9_200 ft_X9 rfl (tyX9_ok 11 (Nat.le_of_ble_eq_true rfl)) rfl rfl dX9_fly_180 (fun M H locs hM hS hP => ?_)
        refine lv_iconst (v := 0) hx hb dX9_fly_183 (by decide) ?_
        refine lv_istore (lv' := [(4, .int 0), (0, .ref v0), (3, .ref v3)]) hx hb dX9_fly_184 hl (by decide) rfl (fun ls hl => ?_)
        exact hb186 mFuel v0 v3 0 _ _ _ _ hM hS (lv_sub hl [1, 2, 0] rfl) hP
      · have hP := mIf_f hP hc
        refine lv_aload_n hx hb dX9_fly_75 rfl (lv_at hl 0 rfl) ?_
        refine r_getr X hM hP fl_X9_16 dX9_fly_76 (fun x4 hP => ?_)
        refine lv_aload_n hx hb dX9_fly_79 rfl (lv_at hl 1 rfl) ?_
        refine lv_iload hx hb dX9_fly_80 (lv_at hl 2 rfl) ?_
        refine r_callFr (rest := [.ref x4]) X hM hS (ct_Jx4a65c_get_915e3 hst v3 v4) hP mF_X9_57 rfl rfl hl.1 (Nat.le_of_ble_eq_true rfl) ⟨⟨by decide, by decide⟩, ⟨by decide, by decide⟩⟩ dX9_fly_82 (fun r5 M H locs hM hS hP => ?_)
        refine r_cast (C := RX6) (T := TX6) (N := 13) X hM hP rfl al_X9_93 dX9_fly_87 (fun hP => ?_)
        refine r_getr X hM hP fl_X9_189 dX9_fly_90 (fun x6 hP => ?_)
        refine r_geti X hM hP fl_X9_54 dX9_fly_93 (fun x7 hP => ?_)
        refine r_callFr (rest := []) X hM hS (ct_Jx4a65c_get_915e3 hst x4 x7) hP mF_X9_57 rfl rfl hl.1 (Nat.le_of_ble_eq_true rfl) ⟨⟨by decide, by decide⟩, ⟨by decide, by decide⟩⟩ dX9_fly_96 (fun r8 M H locs hM hS hP => ?_)
        refine r_cast (C := RX8) (T := TX8) (N := 5) X hM hP rfl al_X9_50 dX9_fly_101 (fun hP => ?_)
        refine lv_astore (lv' := [(5, .ref r8), (0, .ref v0), (3, .ref v3), (4, .int v4)]) hx hb dX9_fly_104 hl (by decide) rfl (fun ls hl => ?_)
        refine lv_aload_n hx hb dX9_fly_106 rfl (lv_at hl 1 rfl) ?_
        refine lv_iconst (v := 5) hx hb dX9_fly_107 (by decide) ?_
        refine lv_aload_n hx hb dX9_fly_108 rfl (lv_at hl 1 rfl) ?_
        refine r_geti X hM hP fl_X9_26 dX9_fly_109 (fun x9 hP => ?_)
        refine lv_imul hx hb dX9_fly_112 ?_
        refine lv_iconst (v := 3) hx hb dX9_fly_113 (by decide) ?_
        refine lv_iadd hx hb dX9_fly_114 ?_
        refine lv_bipush (v := 32) hx hb dX9_fly_115 (by decide) ?_
        obtain ⟨h9, hP⟩ := hP
        refine lv_irem hx hb dX9_fly_117 h9 ?_
        refine r_put X hM hS hP fl_X9_26 ft_X9 rfl (tyX9_ok 6 (Nat.le_of_ble_eq_true rfl)) rfl rfl dX9_fly_118 (fun M H locs hM hS hP => ?_)
        refine lv_aload_n hx hb dX9_fly_121 rfl (lv_at hl 2 rfl) ?_
        refine lv_iload hx hb dX9_fly_122 (lv_at hl 3 rfl) ?_
        refine r_callFr (rest := []) X hM hS (ct_Jx4a65c_get_915e3 hst v3 v4) hP mF_X9_57 rfl rfl hl.1 (Nat.le_of_ble_eq_true rfl) ⟨⟨by decide, by decide⟩, ⟨by decide, by decide⟩⟩ dX9_fly_124 (fun r10 M H locs hM hS hP => ?_)
        refine r_cast (C := RX6) (T := TX6) (N := 13) X hM hP rfl al_X9_93 dX9_fly_129 (fun hP => ?_)
        refine lv_aload_n hx hb dX9_fly_132 rfl (lv_at hl 1 rfl) ?_
        refine r_geti X hM hP fl_X9_26 dX9_fly_133 (fun x11 hP => ?_)
        refine lv_bipush (v := 9) hx hb dX9_fly_136 (by decide) ?_
        refine lv_aload hx hb dX9_fly_138 (lv_at hl 0 rfl) ?_
        refine r_geti X hM hP fl_X9_159 dX9_fly_140 (fun x12 hP => ?_)
        refine lv_isub hx hb dX9_fly_143 ?_
        refine lv_aload hx hb dX9_fly_144 (lv_at hl 0 rfl) ?_
        refine r_getf X hM hP fl_X9_193 dX9_fly_146 (fun x13 hP => ?_)
        refine lv_fconst2 hx hb dX9_fly_149 ?_
        obtain ⟨h9, hP⟩ := hP
        refine lv_fmul hx hb dX9_fly_150 h9 ?_
        refine lv_f2i hx hb dX9_fly_151 ?_
        refine lv_iadd hx hb dX9_fly_152 ?_
        refine lv_icmp_ge (tgt := 160) hx hb dX9_fly_153 (by decide) (fun hc => ?_) (fun hc => ?_)
        · have hP := mIf_t hP hc
          refine lv_iconst (v := 0) hx hb dX9_fly_160 (by decide) ?_
          exact hb161 v0 v3 v4 r10 0 _ _ _ _ hM hS (lv_sub hl [1, 2, 3] rfl) hP
        · have hP := mIf_f hP hc
          refine lv_iconst (v := 1) hx hb dX9_fly_156 (by decide) ?_
          refine lv_goto (tgt := 161) hx hb dX9_fly_157 (by decide) ?_
          exact hb161 v0 v3 v4 r10 1 _ _ _ _ hM hS (lv_sub hl [1, 2, 3] rfl) hP
  have hb48 : ∀ (v0 : Nat) (M : Mem) (H : Heap) (locs : List Loc) (ls : Array Slot), mh K M H → va_S (mFA K) s.heap H locs → lv_has ls 6 [(0, .ref v0)] → f_X9_fly_b48 K k v0 M → W p l e rm_X9_fly s m ([.ref a0, .int a1, .int a2] : List Value).toArray below meth c H locs 0 0 (MQ below (mQ K Q) ([.ref a0, .int a1, .int a2] : List Value).toArray s rm_X9_fly.cells rm_X9_fly.slots (mFA K)) (F0 m 48 ls []) := by
    intro v0 M H locs ls hM hS hl hP
    unfold f_X9_fly_b48 at hP
    refine lv_aload_n hx hb dX9_fly_48 rfl (lv_at hl 0 rfl) ?_
    refine lv_iconst (v := 2) hx hb dX9_fly_49 (by decide) ?_
    refine r_callVi (rest := []) (T := TX9) (N := 14) X hM hS (ct_X9_no hst v0 2) hP mV_X9_126 rfl rfl rfl hl.1 (Nat.le_of_ble_eq_true rfl) ⟨⟨by decide, by decide⟩, ⟨by decide, by decide⟩⟩ dX9_fly_50 (fun r1 M H locs hM hS hP => ?_)
    exact e_iret X hM hS (hk _ _ hP) hr hlocks (by decide) (by decide) dX9_fly_53
  have hb28 : ∀ (v0 : Nat) (M : Mem) (H : Heap) (locs : List Loc) (ls : Array Slot), mh K M H → va_S (mFA K) s.heap H locs → lv_has ls 6 [(0, .ref v0)] → f_X9_fly_b28 K k v0 M → W p l e rm_X9_fly s m ([.ref a0, .int a1, .int a2] : List Value).toArray below meth c H locs 0 0 (MQ below (mQ K Q) ([.ref a0, .int a1, .int a2] : List Value).toArray s rm_X9_fly.cells rm_X9_fly.slots (mFA K)) (F0 m 28 ls []) := by
    intro v0 M H locs ls hM hS hl hP
    unfold f_X9_fly_b28 at hP
    refine lv_aload_n hx hb dX9_fly_28 rfl (lv_at hl 0 rfl) ?_
    refine lv_iconst (v := 1) hx hb dX9_fly_29 (by decide) ?_
    refine r_callVi (rest := []) (T := TX9) (N := 14) X hM hS (ct_X9_no hst v0 1) hP mV_X9_126 rfl rfl rfl hl.1 (Nat.le_of_ble_eq_true rfl) ⟨⟨by decide, by decide⟩, ⟨by decide, by decide⟩⟩ dX9_fly_30 (fun r1 M H locs hM hS hP => ?_)
    exact e_iret X hM hS (hk _ _ hP) hr hlocks (by decide) (by decide) dX9_fly_33
  unfold f_X9_fly at hP
  refine lv_aload_n hx hb dX9_fly_0 rfl (lv_at hl 0 rfl) ?_
  refine lv_iconst (v := 0) hx hb dX9_fly_1 (by decide) ?_
  refine r_put X hM hS hP fl_X9_30 ft_X9 rfl (tyX9_ok 0 (Nat.le_of_ble_eq_true rfl)) rfl rfl dX9_fly_2 (fun M H locs hM hS hP => ?_)
  refine lv_iload_n hx hb dX9_fly_5 rfl (lv_at hl 1 rfl) ?_
  refine lv_sipush (v := (-200)) hx hb dX9_fly_6 (by decide) ?_
  refine lv_sipush (v := 200) hx hb dX9_fly_9 (by decide) ?_
  refine r_callSi (rest := []) X hM hS (ct_X9_in hst a1 (-200) 200) hP mS_X9_39 rfl rfl hl.1 (Nat.le_of_ble_eq_true rfl) ⟨⟨by decide, by decide⟩, ⟨by decide, by decide⟩⟩ dX9_fly_12 (fun r1 M H locs hM hS hP => ?_)
  refine lv_if_eq (tgt := 28) hx hb dX9_fly_15 (by decide) (fun hc => ?_) (fun hc => ?_)
  · have hP := mIf_t hP hc
    exact hb28 a0 _ _ _ _ hM hS (lv_sub hl [0] rfl) hP
  · have hP := mIf_f hP hc
    refine lv_iload_n hx hb dX9_fly_18 rfl (lv_at hl 2 rfl) ?_
    refine lv_iconst (v := 1) hx hb dX9_fly_19 (by decide) ?_
    refine lv_bipush (v := 9) hx hb dX9_fly_20 (by decide) ?_
    refine r_callSi (rest := []) X hM hS (ct_X9_in hst a2 1 9) hP mS_X9_39 rfl rfl hl.1 (Nat.le_of_ble_eq_true rfl) ⟨⟨by decide, by decide⟩, ⟨by decide, by decide⟩⟩ dX9_fly_22 (fun r2 M H locs hM hS hP => ?_)
    refine lv_if_ne (tgt := 34) hx hb dX9_fly_25 (by decide) (fun hc => ?_) (fun hc => ?_)
    · have hP := mIf_f hP hc
      refine lv_aload_n hx hb dX9_fly_34 rfl (lv_at hl 0 rfl) ?_
      refine r_geti X hM hP fl_X9_178 dX9_fly_35 (fun x3 hP => ?_)
      refine lv_if_ne (tgt := 48) hx hb dX9_fly_38 (by decide) (fun hc => ?_) (fun hc => ?_)
      · have hP := mIf_f hP hc
        exact hb48 a0 _ _ _ _ hM hS (lv_sub hl [0] rfl) hP
      · have hP := mIf_t hP hc
        refine lv_aload_n hx hb dX9_fly_41 rfl (lv_at hl 0 rfl) ?_
        refine r_callVi (rest := []) (T := TX9) (N := 14) X hM hS (ct_X9_aboard hst a0) hP mV_X9_87 rfl rfl rfl hl.1 (Nat.le_of_ble_eq_true rfl) ⟨⟨by decide, by decide⟩, ⟨by decide, by decide⟩⟩ dX9_fly_42 (fun r4 M H locs hM hS hP => ?_)
        refine lv_if_ne (tgt := 54) hx hb dX9_fly_45 (by decide) (fun hc => ?_) (fun hc => ?_)
        · have hP := mIf_f hP hc
          refine lv_aload_n hx hb dX9_fly_54 rfl (lv_at hl 0 rfl) ?_
          refine lv_iload_n hx hb dX9_fly_55 rfl (lv_at hl 1 rfl) ?_
          refine lv_iload_n hx hb dX9_fly_56 rfl (lv_at hl 2 rfl) ?_
          refine r_callVr (rest := []) (T := TX9) (N := 14) X hM hS (ct_X9_flight hst a0 a1 a2) hP mV_X9_185 rfl rfl rfl hl.1 (Nat.le_of_ble_eq_true rfl) ⟨⟨by decide, by decide⟩, ⟨by decide, by decide⟩⟩ dX9_fly_57 (fun r5 M H locs hM hS hP => ?_)
          refine lv_astore_n (lv' := [(3, .ref r5), (0, .ref a0), (1, .int a1), (2, .int a2)]) hx hb dX9_fly_60 rfl hl (by decide) rfl (fun ls hl => ?_)
          refine lv_iconst (v := 0) hx hb dX9_fly_61 (by decide) ?_
          refine lv_istore (lv' := [(4, .int 0), (3, .ref r5), (0, .ref a0), (1, .int a1), (2, .int a2)]) hx hb dX9_fly_62 hl (by decide) rfl (fun ls hl => ?_)
          exact hb64 mFuel a0 r5 0 _ _ _ _ hM hS (lv_sub hl [2, 1, 0] rfl) hP
        · have hP := mIf_t hP hc
          exact hb48 a0 _ _ _ _ hM hS (lv_sub hl [0] rfl) hP
    · have hP := mIf_t hP hc
      exact hb28 a0 _ _ _ _ hM hS (lv_sub hl [0] rfl) hP
def f_X9_hold (K : Cfg) (a0 : Nat) (a1 : Int32) (k : Int32 → Mem → Prop) : Mem → Prop :=
 mPut a0 10 0 (.int 0) <|
 mGetI a0 10 12 fun x1 =>
 mPutZ a0 10 12 a1 <|
 mAs ((x1 : Int32) = 0 ∨ (x1 : Int32) = 1) <|
 k x1
abbrev rm_X9_hold : Room := { frames := 0, cells := 0, slots := 0, locals := 0 }
set_option maxHeartbeats 4000000 in
set_option maxRecDepth 100000 in
theorem ct_X9_hold {K : Cfg} {l : Launch} (hst : l.stackTraces = false) (a0 : Nat) (a1 : Int32) : mPi K l yX9_hold cX9_hold 3 (some .boolean) rm_X9_hold [.ref a0, .int a1] (f_X9_hold K a0 a1) := by
  refine mPi.of hst (by decide +kernel) (Nat.le_of_ble_eq_true rfl) ?_
  intro M k Q hk hP p e s m below meth c X hr hlocks hname hM ls hl
  have hx := X.1.1
  have hb := X.1.2.1
  have X : Cx K p l s m ([.ref a0, .int a1] : List Value).toArray c cX9_hold 3 RX9 := X
  have hS : va_S (mFA K) s.heap s.heap [] := va_S.rf
  have hl : lv_has ls 3 [(0, .ref a0), (1, .int a1)] := hl
  unfold f_X9_hold at hP
  refine lv_aload_n hx hb dX9_hold_0 rfl (lv_at hl 0 rfl) ?_
  refine lv_iconst (v := 0) hx hb dX9_hold_1 (by decide) ?_
  refine r_put X hM hS hP fl_X9_30 ft_X9 rfl (tyX9_ok 0 (Nat.le_of_ble_eq_true rfl)) rfl rfl dX9_hold_2 (fun M H locs hM hS hP => ?_)
  refine lv_aload_n hx hb dX9_hold_5 rfl (lv_at hl 0 rfl) ?_
  refine r_geti X hM hP fl_X9_178 dX9_hold_6 (fun x1 hP => ?_)
  refine lv_istore_n (lv' := [(2, .int x1), (0, .ref a0), (1, .int a1)]) hx hb dX9_hold_9 rfl hl (by decide) rfl (fun ls hl => ?_)
  refine lv_aload_n hx hb dX9_hold_10 rfl (lv_at hl 1 rfl) ?_
  refine lv_iload_n hx hb dX9_hold_11 rfl (lv_at hl 2 rfl) ?_
  refine r_putz X hM hS hP fl_X9_178 ft_X9 rfl (tyX9_ok 12 (Nat.le_of_ble_eq_true rfl)) dX9_hold_12 (fun M H locs hM hS hP => ?_)
  refine lv_iload_n hx hb dX9_hold_15 rfl (lv_at hl 0 rfl) ?_
  obtain ⟨h9, hP⟩ := hP
  exact e_zret X hM hS h9 (hk _ _ hP) hr hlocks (by decide) (by decide) dX9_hold_16
def f_X9_gong (K : Cfg) (a0 : Nat) (k : Int32 → Mem → Prop) : Mem → Prop :=
 mPut a0 10 0 (.int 0) <|
 mGetI a0 10 13 fun x1 =>
 mPut a0 10 13 (.int (x1 + 1)) <|
 mGetI a0 10 13 fun x2 =>
 k x2
abbrev rm_X9_gong : Room := { frames := 0, cells := 0, slots := 0, locals := 0 }
set_option maxHeartbeats 4000000 in
set_option maxRecDepth 100000 in
theorem ct_X9_gong {K : Cfg} {l : Launch} (hst : l.stackTraces = false) (a0 : Nat) : mPi K l yX9_gong cX9_gong 1 (some .int) rm_X9_gong [.ref a0] (f_X9_gong K a0) := by
  refine mPi.of hst (by decide +kernel) (Nat.le_of_ble_eq_true rfl) ?_
  intro M k Q hk hP p e s m below meth c X hr hlocks hname hM ls hl
  have hx := X.1.1
  have hb := X.1.2.1
  have X : Cx K p l s m ([.ref a0] : List Value).toArray c cX9_gong 1 RX9 := X
  have hS : va_S (mFA K) s.heap s.heap [] := va_S.rf
  have hl : lv_has ls 1 [(0, .ref a0)] := hl
  unfold f_X9_gong at hP
  refine lv_aload_n hx hb dX9_gong_0 rfl (lv_at hl 0 rfl) ?_
  refine lv_iconst (v := 0) hx hb dX9_gong_1 (by decide) ?_
  refine r_put X hM hS hP fl_X9_30 ft_X9 rfl (tyX9_ok 0 (Nat.le_of_ble_eq_true rfl)) rfl rfl dX9_gong_2 (fun M H locs hM hS hP => ?_)
  refine lv_aload_n hx hb dX9_gong_5 rfl (lv_at hl 0 rfl) ?_
  refine lv_dup hx hb dX9_gong_6 rfl ?_
  refine r_geti X hM hP fl_X9_246 dX9_gong_7 (fun x1 hP => ?_)
  refine lv_iconst (v := 1) hx hb dX9_gong_10 (by decide) ?_
  refine lv_iadd hx hb dX9_gong_11 ?_
  refine r_put X hM hS hP fl_X9_246 ft_X9 rfl (tyX9_ok 13 (Nat.le_of_ble_eq_true rfl)) rfl rfl dX9_gong_12 (fun M H locs hM hS hP => ?_)
  refine lv_aload_n hx hb dX9_gong_15 rfl (lv_at hl 0 rfl) ?_
  refine r_geti X hM hP fl_X9_246 dX9_gong_16 (fun x2 hP => ?_)
  exact e_iret X hM hS (hk _ _ hP) hr hlocks (by decide) (by decide) dX9_gong_19
def f_X9_jumperNow (K : Cfg) (a0 : Nat) (a1 : Int32) (a2 : Int32) (k : Int32 → Mem → Prop) : Mem → Prop :=
 mGetR a0 10 1 fun x1 =>
 mRecv x1 0 <|
 f_Jx4a65c_get_915e3 K x1 a1 (fun r2 =>
 mRecv r2 8 <|
 mNewA K 0 (9, .inl (fun _ => 0)) fun x3 =>
 mGetI r2 8 0 fun x4 =>
 mStI K x3 0 x4 <|
 mGetI r2 8 1 fun x5 =>
 mStI K x3 1 x5 <|
 mGetI r2 8 2 fun x6 =>
 mStI K x3 2 x6 <|
 mGetI r2 8 3 fun x7 =>
 mStI K x3 3 x7 <|
 mGetI r2 8 4 fun x8 =>
 mStI K x3 4 x8 <|
 mGetI r2 8 5 fun x9 =>
 mStI K x3 5 x9 <|
 mGetI r2 8 6 fun x10 =>
 mStI K x3 6 x10 <|
 mRecv a0 10 <|
 f_X9_placeOf K a0 a1 (fun r11 =>
 mStI K x3 7 r11 <|
 mGetI r2 8 7 fun x12 =>
 mStI K x3 8 x12 <|
 mLdI K x3 a2 fun x13 =>
 k x13))
abbrev rm_X9_jumperNow : Room := { frames := 6, cells := 1, slots := 9, locals := 132 }
set_option maxHeartbeats 4000000 in
set_option maxRecDepth 100000 in
theorem ct_X9_jumperNow {K : Cfg} {l : Launch} (hst : l.stackTraces = false) (a0 : Nat) (a1 : Int32) (a2 : Int32) : mPi K l yX9_jumperNow cX9_jumperNow 5 (some .int) rm_X9_jumperNow [.ref a0, .int a1, .int a2] (f_X9_jumperNow K a0 a1 a2) := by
  refine mPi.of hst (by decide +kernel) (Nat.le_of_ble_eq_true rfl) ?_
  intro M k Q hk hP p e s m below meth c X hr hlocks hname hM ls hl
  have hx := X.1.1
  have hb := X.1.2.1
  have X : Cx K p l s m ([.ref a0, .int a1, .int a2] : List Value).toArray c cX9_jumperNow 5 RX9 := X
  have hS : va_S (mFA K) s.heap s.heap [] := va_S.rf
  have hl : lv_has ls 5 [(0, .ref a0), (1, .int a1), (2, .int a2)] := hl
  unfold f_X9_jumperNow at hP
  refine lv_aload_n hx hb dX9_jumperNow_0 rfl (lv_at hl 0 rfl) ?_
  refine r_getr X hM hP fl_X9_10 dX9_jumperNow_1 (fun x1 hP => ?_)
  refine lv_iload_n hx hb dX9_jumperNow_4 rfl (lv_at hl 1 rfl) ?_
  refine r_callFr (rest := []) X hM hS (ct_Jx4a65c_get_915e3 hst x1 a1) hP mF_X9_57 rfl rfl hl.1 (Nat.le_of_ble_eq_true rfl) ⟨⟨by decide, by decide⟩, ⟨by decide, by decide⟩⟩ dX9_jumperNow_5 (fun r2 M H locs hM hS hP => ?_)
  refine r_cast (C := RX7) (T := TX7) (N := 12) X hM hP rfl al_X9_44 dX9_jumperNow_10 (fun hP => ?_)
  refine lv_astore_n (lv' := [(3, .ref r2), (0, .ref a0), (1, .int a1), (2, .int a2)]) hx hb dX9_jumperNow_13 rfl hl (by decide) rfl (fun ls hl => ?_)
  refine lv_bipush (v := 9) hx hb dX9_jumperNow_14 (by decide) ?_
  refine r_newa (t := 0) (atype := .int) (fun _ => rfl) (fun _ _ h => h) X hM hS ac_int hP (fun _ => rfl) (by decide) (by decide) (by decide) ⟨by decide, by decide⟩ dX9_jumperNow_16 (fun x3 M H hM hS hP => ?_)
  refine lv_dup hx hb dX9_jumperNow_18 rfl ?_
  refine lv_iconst (v := 0) hx hb dX9_jumperNow_19 (by decide) ?_
  refine lv_aload_n hx hb dX9_jumperNow_20 rfl (lv_at hl 0 rfl) ?_
  refine r_geti X hM hP fl_X9_43 dX9_jumperNow_21 (fun x4 hP => ?_)
  refine r_sti X hM hS hP dX9_jumperNow_24 (fun M H locs hM hS hP => ?_)
  refine lv_dup hx hb dX9_jumperNow_25 rfl ?_
  refine lv_iconst (v := 1) hx hb dX9_jumperNow_26 (by decide) ?_
  refine lv_aload_n hx hb dX9_jumperNow_27 rfl (lv_at hl 0 rfl) ?_
  refine r_geti X hM hP fl_X9_74 dX9_jumperNow_28 (fun x5 hP => ?_)
  refine r_sti X hM hS hP dX9_jumperNow_31 (fun M H locs hM hS hP => ?_)
  refine lv_dup hx hb dX9_jumperNow_32 rfl ?_
  refine lv_iconst (v := 2) hx hb dX9_jumperNow_33 (by decide) ?_
  refine lv_aload_n hx hb dX9_jumperNow_34 rfl (lv_at hl 0 rfl) ?_
  refine r_geti X hM hP fl_X9_54 dX9_jumperNow_35 (fun x6 hP => ?_)
  refine r_sti X hM hS hP dX9_jumperNow_38 (fun M H locs hM hS hP => ?_)
  refine lv_dup hx hb dX9_jumperNow_39 rfl ?_
  refine lv_iconst (v := 3) hx hb dX9_jumperNow_40 (by decide) ?_
  refine lv_aload_n hx hb dX9_jumperNow_41 rfl (lv_at hl 0 rfl) ?_
  refine r_geti X hM hP fl_X9_168 dX9_jumperNow_42 (fun x7 hP => ?_)
  refine r_sti X hM hS hP dX9_jumperNow_45 (fun M H locs hM hS hP => ?_)
  refine lv_dup hx hb dX9_jumperNow_46 rfl ?_
  refine lv_iconst (v := 4) hx hb dX9_jumperNow_47 (by decide) ?_
  refine lv_aload_n hx hb dX9_jumperNow_48 rfl (lv_at hl 0 rfl) ?_
  refine r_geti X hM hP fl_X9_231 dX9_jumperNow_49 (fun x8 hP => ?_)
  refine r_sti X hM hS hP dX9_jumperNow_52 (fun M H locs hM hS hP => ?_)
  refine lv_dup hx hb dX9_jumperNow_53 rfl ?_
  refine lv_iconst (v := 5) hx hb dX9_jumperNow_54 (by decide) ?_
  refine lv_aload_n hx hb dX9_jumperNow_55 rfl (lv_at hl 0 rfl) ?_
  refine r_geti X hM hP fl_X9_235 dX9_jumperNow_56 (fun x9 hP => ?_)
  refine r_sti X hM hS hP dX9_jumperNow_59 (fun M H locs hM hS hP => ?_)
  refine lv_dup hx hb dX9_jumperNow_60 rfl ?_
  refine lv_bipush (v := 6) hx hb dX9_jumperNow_61 (by decide) ?_
  refine lv_aload_n hx hb dX9_jumperNow_63 rfl (lv_at hl 0 rfl) ?_
  refine r_geti X hM hP fl_X9_152 dX9_jumperNow_64 (fun x10 hP => ?_)
  refine r_sti X hM hS hP dX9_jumperNow_67 (fun M H locs hM hS hP => ?_)
  refine lv_dup hx hb dX9_jumperNow_68 rfl ?_
  refine lv_bipush (v := 7) hx hb dX9_jumperNow_69 (by decide) ?_
  refine lv_aload_n hx hb dX9_jumperNow_71 rfl (lv_at hl 1 rfl) ?_
  refine lv_iload_n hx hb dX9_jumperNow_72 rfl (lv_at hl 2 rfl) ?_
  refine r_callVi (rest := [.int 7, .ref x3, .ref x3]) (T := TX9) (N := 14) X hM hS (ct_X9_placeOf hst a0 a1) hP mV_X9_84 rfl rfl rfl hl.1 (Nat.le_of_ble_eq_true rfl) ⟨⟨by decide, by decide⟩, ⟨by decide, by decide⟩⟩ dX9_jumperNow_73 (fun r11 M H locs hM hS hP => ?_)
  refine r_sti X hM hS hP dX9_jumperNow_76 (fun M H locs hM hS hP => ?_)
  refine lv_dup hx hb dX9_jumperNow_77 rfl ?_
  refine lv_bipush (v := 8) hx hb dX9_jumperNow_78 (by decide) ?_
  refine lv_aload_n hx hb dX9_jumperNow_80 rfl (lv_at hl 0 rfl) ?_
  refine r_geti X hM hP fl_X9_218 dX9_jumperNow_81 (fun x12 hP => ?_)
  refine r_sti X hM hS hP dX9_jumperNow_84 (fun M H locs hM hS hP => ?_)
  refine lv_astore (lv' := [(4, .ref x3), (3, .ref r2), (0, .ref a0), (1, .int a1), (2, .int a2)]) hx hb dX9_jumperNow_85 hl (by decide) rfl (fun ls hl => ?_)
  refine lv_aload hx hb dX9_jumperNow_87 (lv_at hl 0 rfl) ?_
  refine lv_iload_n hx hb dX9_jumperNow_89 rfl (lv_at hl 4 rfl) ?_
  refine r_ldi X hM hP dX9_jumperNow_90 (fun x13 hP => ?_)
  exact e_iret X hM hS (hk _ _ hP) hr hlocks (by decide) (by decide) dX9_jumperNow_91
def f_X9_ofJumper (K : Cfg) (a0 : Nat) (a1 : Int32) (a2 : Int32) (k : Int32 → Mem → Prop) : Mem → Prop :=
 mPut a0 10 0 (.int 0) <|
 mRecv a0 10 <|
 f_X9_isJumper K a0 a1 (fun r1 =>
 mIf (r1 = 0)
 (mRecv a0 10 <|
 f_X9_no K a0 1 (fun r5 =>
 k r5))
 (f_X9_in K a2 0 8 (fun r2 =>
 mIf (r2 = 0)
 (mRecv a0 10 <|
 f_X9_no K a0 2 (fun r4 =>
 k r4))
 (mRecv a0 10 <|
 f_X9_jumperNow K a0 a1 a2 (fun r3 =>
 k r3)))))
abbrev rm_X9_ofJumper : Room := { frames := 7, cells := 1, slots := 9, locals := 156 }
set_option maxHeartbeats 4000000 in
set_option maxRecDepth 100000 in
theorem ct_X9_ofJumper {K : Cfg} {l : Launch} (hst : l.stackTraces = false) (a0 : Nat) (a1 : Int32) (a2 : Int32) : mPi K l yX9_ofJumper cX9_ofJumper 3 (some .int) rm_X9_ofJumper [.ref a0, .int a1, .int a2] (f_X9_ofJumper K a0 a1 a2) := by
  refine mPi.of hst (by decide +kernel) (Nat.le_of_ble_eq_true rfl) ?_
  intro M k Q hk hP p e s m below meth c X hr hlocks hname hM ls hl
  have hx := X.1.1
  have hb := X.1.2.1
  have X : Cx K p l s m ([.ref a0, .int a1, .int a2] : List Value).toArray c cX9_ofJumper 3 RX9 := X
  have hS : va_S (mFA K) s.heap s.heap [] := va_S.rf
  have hl : lv_has ls 3 [(0, .ref a0), (1, .int a1), (2, .int a2)] := hl
  unfold f_X9_ofJumper at hP
  refine lv_aload_n hx hb dX9_ofJumper_0 rfl (lv_at hl 0 rfl) ?_
  refine lv_iconst (v := 0) hx hb dX9_ofJumper_1 (by decide) ?_
  refine r_put X hM hS hP fl_X9_30 ft_X9 rfl (tyX9_ok 0 (Nat.le_of_ble_eq_true rfl)) rfl rfl dX9_ofJumper_2 (fun M H locs hM hS hP => ?_)
  refine lv_aload_n hx hb dX9_ofJumper_5 rfl (lv_at hl 0 rfl) ?_
  refine lv_iload_n hx hb dX9_ofJumper_6 rfl (lv_at hl 1 rfl) ?_
  refine r_callVi (rest := []) (T := TX9) (N := 14) X hM hS (ct_X9_isJumper hst a0 a1) hP mV_X9_142 rfl rfl rfl hl.1 (Nat.le_of_ble_eq_true rfl) ⟨⟨by decide, by decide⟩, ⟨by decide, by decide⟩⟩ dX9_ofJumper_7 (fun r1 M H locs hM hS hP => ?_)
  refine lv_if_ne (tgt := 19) hx hb dX9_ofJumper_10 (by decide) (fun hc => ?_) (fun hc => ?_)
  · have hP := mIf_f hP hc
    refine lv_iload_n hx hb dX9_ofJumper_19 rfl (lv_at hl 2 rfl) ?_
    refine lv_iconst (v := 0) hx hb dX9_ofJumper_20 (by decide) ?_
    refine lv_bipush (v := 8) hx hb dX9_ofJumper_21 (by decide) ?_
    refine r_callSi (rest := []) X hM hS (ct_X9_in hst a2 0 8) hP mS_X9_39 rfl rfl hl.1 (Nat.le_of_ble_eq_true rfl) ⟨⟨by decide, by decide⟩, ⟨by decide, by decide⟩⟩ dX9_ofJumper_23 (fun r2 M H locs hM hS hP => ?_)
    refine lv_if_ne (tgt := 35) hx hb dX9_ofJumper_26 (by decide) (fun hc => ?_) (fun hc => ?_)
    · have hP := mIf_f hP hc
      refine lv_aload_n hx hb dX9_ofJumper_35 rfl (lv_at hl 0 rfl) ?_
      refine lv_iload_n hx hb dX9_ofJumper_36 rfl (lv_at hl 1 rfl) ?_
      refine lv_iload_n hx hb dX9_ofJumper_37 rfl (lv_at hl 2 rfl) ?_
      refine r_callVi (rest := []) (T := TX9) (N := 14) X hM hS (ct_X9_jumperNow hst a0 a1 a2) hP mV_X9_249 rfl rfl rfl hl.1 (Nat.le_of_ble_eq_true rfl) ⟨⟨by decide, by decide⟩, ⟨by decide, by decide⟩⟩ dX9_ofJumper_38 (fun r3 M H locs hM hS hP => ?_)
      exact e_iret X hM hS (hk _ _ hP) hr hlocks (by decide) (by decide) dX9_ofJumper_41
    · have hP := mIf_t hP hc
      refine lv_aload_n hx hb dX9_ofJumper_29 rfl (lv_at hl 0 rfl) ?_
      refine lv_iconst (v := 2) hx hb dX9_ofJumper_30 (by decide) ?_
      refine r_callVi (rest := []) (T := TX9) (N := 14) X hM hS (ct_X9_no hst a0 2) hP mV_X9_126 rfl rfl rfl hl.1 (Nat.le_of_ble_eq_true rfl) ⟨⟨by decide, by decide⟩, ⟨by decide, by decide⟩⟩ dX9_ofJumper_31 (fun r4 M H locs hM hS hP => ?_)
      exact e_iret X hM hS (hk _ _ hP) hr hlocks (by decide) (by decide) dX9_ofJumper_34
  · have hP := mIf_t hP hc
    refine lv_aload_n hx hb dX9_ofJumper_13 rfl (lv_at hl 0 rfl) ?_
    refine lv_iconst (v := 1) hx hb dX9_ofJumper_14 (by decide) ?_
    refine r_callVi (rest := []) (T := TX9) (N := 14) X hM hS (ct_X9_no hst a0 1) hP mV_X9_126 rfl rfl rfl hl.1 (Nat.le_of_ble_eq_true rfl) ⟨⟨by decide, by decide⟩, ⟨by decide, by decide⟩⟩ dX9_ofJumper_15 (fun r5 M H locs hM hS hP => ?_)
    exact e_iret X hM hS (hk _ _ hP) hr hlocks (by decide) (by decide) dX9_ofJumper_18
def f_X9_loading__ (K : Cfg) (a0 : Nat) (a1 : Int32) (k : UInt64 → Mem → Prop) : Mem → Prop :=
 mPut a0 10 0 (.int 0) <|
 mRecv a0 10 <|
 f_X9_isJumper K a0 a1 (fun r1 =>
 mIf (r1 = 0)
 (mRecv a0 10 <|
 f_X9_no K a0 1 (fun r5 =>
 k (FP.i2d r5)))
 (mGetR a0 10 1 fun x2 =>
 mRecv x2 0 <|
 f_Jx4a65c_get_915e3 K x2 a1 (fun r3 =>
 mRecv r3 8 <|
 mRecv a0 10 <|
 f_X9_loading_ K a0 r3 (fun r4 =>
 mAs (vf_n64 (FP.f2d r4)) <|
 k (FP.f2d r4)))))
abbrev rm_X9_loading__ : Room := { frames := 4, cells := 0, slots := 0, locals := 85 }
set_option maxHeartbeats 4000000 in
set_option maxRecDepth 100000 in
theorem ct_X9_loading__ {K : Cfg} {l : Launch} (hst : l.stackTraces = false) (a0 : Nat) (a1 : Int32) : mPd K l yX9_loading__ cX9_loading__ 2 (some .double) rm_X9_loading__ [.ref a0, .int a1] (f_X9_loading__ K a0 a1) := by
  refine mPd.of hst (by decide +kernel) (Nat.le_of_ble_eq_true rfl) ?_
  intro M k Q hk hP p e s m below meth c X hr hlocks hname hM ls hl
  have hx := X.1.1
  have hb := X.1.2.1
  have X : Cx K p l s m ([.ref a0, .int a1] : List Value).toArray c cX9_loading__ 2 RX9 := X
  have hS : va_S (mFA K) s.heap s.heap [] := va_S.rf
  have hl : lv_has ls 2 [(0, .ref a0), (1, .int a1)] := hl
  unfold f_X9_loading__ at hP
  refine lv_aload_n hx hb dX9_loading___0 rfl (lv_at hl 0 rfl) ?_
  refine lv_iconst (v := 0) hx hb dX9_loading___1 (by decide) ?_
  refine r_put X hM hS hP fl_X9_30 ft_X9 rfl (tyX9_ok 0 (Nat.le_of_ble_eq_true rfl)) rfl rfl dX9_loading___2 (fun M H locs hM hS hP => ?_)
  refine lv_aload_n hx hb dX9_loading___5 rfl (lv_at hl 0 rfl) ?_
  refine lv_iload_n hx hb dX9_loading___6 rfl (lv_at hl 1 rfl) ?_
  refine r_callVi (rest := []) (T := TX9) (N := 14) X hM hS (ct_X9_isJumper hst a0 a1) hP mV_X9_142 rfl rfl rfl hl.1 (Nat.le_of_ble_eq_true rfl) ⟨⟨by decide, by decide⟩, ⟨by decide, by decide⟩⟩ dX9_loading___7 (fun r1 M H locs hM hS hP => ?_)
  refine lv_if_ne (tgt := 20) hx hb dX9_loading___10 (by decide) (fun hc => ?_) (fun hc => ?_)
  · have hP := mIf_f hP hc
    refine lv_aload_n hx hb dX9_loading___20 rfl (lv_at hl 0 rfl) ?_
    refine lv_aload_n hx hb dX9_loading___21 rfl (lv_at hl 0 rfl) ?_
    refine r_getr X hM hP fl_X9_10 dX9_loading___22 (fun x2 hP => ?_)
    refine lv_iload_n hx hb dX9_loading___25 rfl (lv_at hl 1 rfl) ?_
    refine r_callFr (rest := [.ref a0]) X hM hS (ct_Jx4a65c_get_915e3 hst x2 a1) hP mF_X9_57 rfl rfl hl.1 (Nat.le_of_ble_eq_true rfl) ⟨⟨by decide, by decide⟩, ⟨by decide, by decide⟩⟩ dX9_loading___26 (fun r3 M H locs hM hS hP => ?_)
    refine r_cast (C := RX7) (T := TX7) (N := 12) X hM hP rfl al_X9_44 dX9_loading___31 (fun hP => ?_)
    refine r_callVf (rest := []) (T := TX9) (N := 14) X hM hS (ct_X9_loading_ hst a0 r3) hP mV_X9_77 rfl rfl rfl hl.1 (Nat.le_of_ble_eq_true rfl) ⟨⟨by decide, by decide⟩, ⟨by decide, by decide⟩⟩ dX9_loading___34 (fun r4 M H locs hM hS hP => ?_)
    obtain ⟨h9, hP⟩ := hP
    refine lv_f2d hx hb dX9_loading___37 h9 ?_
    exact e_dret X hM hS (hk _ _ hP) hr hlocks (by decide) (by decide) dX9_loading___38
  · have hP := mIf_t hP hc
    refine lv_aload_n hx hb dX9_loading___13 rfl (lv_at hl 0 rfl) ?_
    refine lv_iconst (v := 1) hx hb dX9_loading___14 (by decide) ?_
    refine r_callVi (rest := []) (T := TX9) (N := 14) X hM hS (ct_X9_no hst a0 1) hP mV_X9_126 rfl rfl rfl hl.1 (Nat.le_of_ble_eq_true rfl) ⟨⟨by decide, by decide⟩, ⟨by decide, by decide⟩⟩ dX9_loading___15 (fun r5 M H locs hM hS hP => ?_)
    refine lv_i2d hx hb dX9_loading___18 ?_
    exact e_dret X hM hS (hk _ _ hP) hr hlocks (by decide) (by decide) dX9_loading___19
def f_X9_landed_b59 (K : Cfg) (k : UInt64 → Mem → Prop) (t0 : UInt64) : Mem → Prop :=
 k t0
def f_X9_landed (K : Cfg) (a0 : Nat) (a1 : Int32) (a2 : Int32) (k : UInt64 → Mem → Prop) : Mem → Prop :=
 mPut a0 10 0 (.int 0) <|
 mRecv a0 10 <|
 f_X9_isJumper K a0 a1 (fun r1 =>
 mIf (r1 = 0)
 (mRecv a0 10 <|
 f_X9_no K a0 1 (fun r8 =>
 k (FP.i2d r8)))
 (mIf (a2 = 0)
 (mGetR a0 10 1 fun x2 =>
 mRecv x2 0 <|
 f_Jx4a65c_get_915e3 K x2 a1 (fun r3 =>
 mRecv r3 8 <|
 mGetD r3 8 8 fun x4 =>
 f_X9_landed_b59 K k x4))
 (mGetR a0 10 1 fun x5 =>
 mRecv x5 0 <|
 f_Jx4a65c_get_915e3 K x5 a1 (fun r6 =>
 mRecv r6 8 <|
 mGetD r6 8 9 fun x7 =>
 f_X9_landed_b59 K k x7))))
abbrev rm_X9_landed : Room := { frames := 3, cells := 0, slots := 0, locals := 64 }
set_option maxHeartbeats 4000000 in
set_option maxRecDepth 100000 in
theorem ct_X9_landed {K : Cfg} {l : Launch} (hst : l.stackTraces = false) (a0 : Nat) (a1 : Int32) (a2 : Int32) : mPd K l yX9_landed cX9_landed 3 (some .double) rm_X9_landed [.ref a0, .int a1, .int a2] (f_X9_landed K a0 a1 a2) := by
  refine mPd.of hst (by decide +kernel) (Nat.le_of_ble_eq_true rfl) ?_
  intro M k Q hk hP p e s m below meth c X hr hlocks hname hM ls hl
  have hx := X.1.1
  have hb := X.1.2.1
  have X : Cx K p l s m ([.ref a0, .int a1, .int a2] : List Value).toArray c cX9_landed 3 RX9 := X
  have hS : va_S (mFA K) s.heap s.heap [] := va_S.rf
  have hl : lv_has ls 3 [(0, .ref a0), (1, .int a1), (2, .int a2)] := hl
  have hb59 : ∀ (t0 : UInt64) (M : Mem) (H : Heap) (locs : List Loc) (ls : Array Slot), mh K M H → va_S (mFA K) s.heap H locs → lv_has ls 3 [] → f_X9_landed_b59 K k t0 M → W p l e rm_X9_landed s m ([.ref a0, .int a1, .int a2] : List Value).toArray below meth c H locs 0 0 (MQ below (mQ K Q) ([.ref a0, .int a1, .int a2] : List Value).toArray s rm_X9_landed.cells rm_X9_landed.slots (mFA K)) (F0 m 59 ls [.double t0]) := by
    intro t0 M H locs ls hM hS hl hP
    unfold f_X9_landed_b59 at hP
    exact e_dret X hM hS (hk _ _ hP) hr hlocks (by decide) (by decide) dX9_landed_59
  unfold f_X9_landed at hP
  refine lv_aload_n hx hb dX9_landed_0 rfl (lv_at hl 0 rfl) ?_
  refine lv_iconst (v := 0) hx hb dX9_landed_1 (by decide) ?_
  refine r_put X hM hS hP fl_X9_30 ft_X9 rfl (tyX9_ok 0 (Nat.le_of_ble_eq_true rfl)) rfl rfl dX9_landed_2 (fun M H locs hM hS hP => ?_)
  refine lv_aload_n hx hb dX9_landed_5 rfl (lv_at hl 0 rfl) ?_
  refine lv_iload_n hx hb dX9_landed_6 rfl (lv_at hl 1 rfl) ?_
  refine r_callVi (rest := []) (T := TX9) (N := 14) X hM hS (ct_X9_isJumper hst a0 a1) hP mV_X9_142 rfl rfl rfl hl.1 (Nat.le_of_ble_eq_true rfl) ⟨⟨by decide, by decide⟩, ⟨by decide, by decide⟩⟩ dX9_landed_7 (fun r1 M H locs hM hS hP => ?_)
  refine lv_if_ne (tgt := 20) hx hb dX9_landed_10 (by decide) (fun hc => ?_) (fun hc => ?_)
  · have hP := mIf_f hP hc
    refine lv_iload_n hx hb dX9_landed_20 rfl (lv_at hl 2 rfl) ?_
    refine lv_if_eq (tgt := 43) hx hb dX9_landed_21 (by decide) (fun hc => ?_) (fun hc => ?_)
    · have hP := mIf_t hP hc
      refine lv_aload_n hx hb dX9_landed_43 rfl (lv_at hl 0 rfl) ?_
      refine r_getr X hM hP fl_X9_10 dX9_landed_44 (fun x2 hP => ?_)
      refine lv_iload_n hx hb dX9_landed_47 rfl (lv_at hl 1 rfl) ?_
      refine r_callFr (rest := []) X hM hS (ct_Jx4a65c_get_915e3 hst x2 a1) hP mF_X9_57 rfl rfl hl.1 (Nat.le_of_ble_eq_true rfl) ⟨⟨by decide, by decide⟩, ⟨by decide, by decide⟩⟩ dX9_landed_48 (fun r3 M H locs hM hS hP => ?_)
      refine r_cast (C := RX7) (T := TX7) (N := 12) X hM hP rfl al_X9_44 dX9_landed_53 (fun hP => ?_)
      refine r_getd X hM hP fl_X9_241 dX9_landed_56 (fun x4 hP => ?_)
      exact hb59 x4 _ _ _ _ hM hS (lv_sub hl [] rfl) hP
    · have hP := mIf_f hP hc
      refine lv_aload_n hx hb dX9_landed_24 rfl (lv_at hl 0 rfl) ?_
      refine r_getr X hM hP fl_X9_10 dX9_landed_25 (fun x5 hP => ?_)
      refine lv_iload_n hx hb dX9_landed_28 rfl (lv_at hl 1 rfl) ?_
      refine r_callFr (rest := []) X hM hS (ct_Jx4a65c_get_915e3 hst x5 a1) hP mF_X9_57 rfl rfl hl.1 (Nat.le_of_ble_eq_true rfl) ⟨⟨by decide, by decide⟩, ⟨by decide, by decide⟩⟩ dX9_landed_29 (fun r6 M H locs hM hS hP => ?_)
      refine r_cast (C := RX7) (T := TX7) (N := 12) X hM hP rfl al_X9_44 dX9_landed_34 (fun hP => ?_)
      refine r_getd X hM hP fl_X9_245 dX9_landed_37 (fun x7 hP => ?_)
      refine lv_goto (tgt := 59) hx hb dX9_landed_40 (by decide) ?_
      exact hb59 x7 _ _ _ _ hM hS (lv_sub hl [] rfl) hP
  · have hP := mIf_t hP hc
    refine lv_aload_n hx hb dX9_landed_13 rfl (lv_at hl 0 rfl) ?_
    refine lv_iconst (v := 1) hx hb dX9_landed_14 (by decide) ?_
    refine r_callVi (rest := []) (T := TX9) (N := 14) X hM hS (ct_X9_no hst a0 1) hP mV_X9_126 rfl rfl rfl hl.1 (Nat.le_of_ble_eq_true rfl) ⟨⟨by decide, by decide⟩, ⟨by decide, by decide⟩⟩ dX9_landed_15 (fun r8 M H locs hM hS hP => ?_)
    refine lv_i2d hx hb dX9_landed_18 ?_
    exact e_dret X hM hS (hk _ _ hP) hr hlocks (by decide) (by decide) dX9_landed_19
def f_X9_refuses (K : Cfg) (a0 : Nat) (a1 : Int32) (k : Int32 → Mem → Prop) : Mem → Prop :=
 mPut a0 10 0 (.int 0) <|
 mRecv a0 10 <|
 f_X9_isJumper K a0 a1 (fun r1 =>
 mIf (r1 = 0)
 (mRecv a0 10 <|
 f_X9_no K a0 1 (fun r5 =>
 k r5))
 (mGetR a0 10 1 fun x2 =>
 mRecv x2 0 <|
 f_Jx4a65c_get_915e3 K x2 a1 (fun r3 =>
 mRecv r3 8 <|
 mRecv a0 10 <|
 f_X9_why K a0 r3 (fun r4 =>
 k r4))))
abbrev rm_X9_refuses : Room := { frames := 5, cells := 0, slots := 0, locals := 107 }
set_option maxHeartbeats 4000000 in
set_option maxRecDepth 100000 in
theorem ct_X9_refuses {K : Cfg} {l : Launch} (hst : l.stackTraces = false) (a0 : Nat) (a1 : Int32) : mPi K l yX9_refuses cX9_refuses 2 (some .int) rm_X9_refuses [.ref a0, .int a1] (f_X9_refuses K a0 a1) := by
  refine mPi.of hst (by decide +kernel) (Nat.le_of_ble_eq_true rfl) ?_
  intro M k Q hk hP p e s m below meth c X hr hlocks hname hM ls hl
  have hx := X.1.1
  have hb := X.1.2.1
  have X : Cx K p l s m ([.ref a0, .int a1] : List Value).toArray c cX9_refuses 2 RX9 := X
  have hS : va_S (mFA K) s.heap s.heap [] := va_S.rf
  have hl : lv_has ls 2 [(0, .ref a0), (1, .int a1)] := hl
  unfold f_X9_refuses at hP
  refine lv_aload_n hx hb dX9_refuses_0 rfl (lv_at hl 0 rfl) ?_
  refine lv_iconst (v := 0) hx hb dX9_refuses_1 (by decide) ?_
  refine r_put X hM hS hP fl_X9_30 ft_X9 rfl (tyX9_ok 0 (Nat.le_of_ble_eq_true rfl)) rfl rfl dX9_refuses_2 (fun M H locs hM hS hP => ?_)
  refine lv_aload_n hx hb dX9_refuses_5 rfl (lv_at hl 0 rfl) ?_
  refine lv_iload_n hx hb dX9_refuses_6 rfl (lv_at hl 1 rfl) ?_
  refine r_callVi (rest := []) (T := TX9) (N := 14) X hM hS (ct_X9_isJumper hst a0 a1) hP mV_X9_142 rfl rfl rfl hl.1 (Nat.le_of_ble_eq_true rfl) ⟨⟨by decide, by decide⟩, ⟨by decide, by decide⟩⟩ dX9_refuses_7 (fun r1 M H locs hM hS hP => ?_)
  refine lv_if_ne (tgt := 19) hx hb dX9_refuses_10 (by decide) (fun hc => ?_) (fun hc => ?_)
  · have hP := mIf_f hP hc
    refine lv_aload_n hx hb dX9_refuses_19 rfl (lv_at hl 0 rfl) ?_
    refine lv_aload_n hx hb dX9_refuses_20 rfl (lv_at hl 0 rfl) ?_
    refine r_getr X hM hP fl_X9_10 dX9_refuses_21 (fun x2 hP => ?_)
    refine lv_iload_n hx hb dX9_refuses_24 rfl (lv_at hl 1 rfl) ?_
    refine r_callFr (rest := [.ref a0]) X hM hS (ct_Jx4a65c_get_915e3 hst x2 a1) hP mF_X9_57 rfl rfl hl.1 (Nat.le_of_ble_eq_true rfl) ⟨⟨by decide, by decide⟩, ⟨by decide, by decide⟩⟩ dX9_refuses_25 (fun r3 M H locs hM hS hP => ?_)
    refine r_cast (C := RX7) (T := TX7) (N := 12) X hM hP rfl al_X9_44 dX9_refuses_30 (fun hP => ?_)
    refine r_callVi (rest := []) (T := TX9) (N := 14) X hM hS (ct_X9_why hst a0 r3) hP mV_X9_181 rfl rfl rfl hl.1 (Nat.le_of_ble_eq_true rfl) ⟨⟨by decide, by decide⟩, ⟨by decide, by decide⟩⟩ dX9_refuses_33 (fun r4 M H locs hM hS hP => ?_)
    exact e_iret X hM hS (hk _ _ hP) hr hlocks (by decide) (by decide) dX9_refuses_36
  · have hP := mIf_t hP hc
    refine lv_aload_n hx hb dX9_refuses_13 rfl (lv_at hl 0 rfl) ?_
    refine lv_iconst (v := 1) hx hb dX9_refuses_14 (by decide) ?_
    refine r_callVi (rest := []) (T := TX9) (N := 14) X hM hS (ct_X9_no hst a0 1) hP mV_X9_126 rfl rfl rfl hl.1 (Nat.le_of_ble_eq_true rfl) ⟨⟨by decide, by decide⟩, ⟨by decide, by decide⟩⟩ dX9_refuses_15 (fun r5 M H locs hM hS hP => ?_)
    exact e_iret X hM hS (hk _ _ hP) hr hlocks (by decide) (by decide) dX9_refuses_18
def f_X9_rigNow_b52 (K : Cfg) (k : Int32 → Mem → Prop) (v0 : Nat) (v1 : Int32) (v2 : Int32) (t0 : Nat) (t1 : Nat) (t2 : Int32) (t3 : Int32) : Mem → Prop :=
 mStI K t1 t2 t3 <|
 mRecv v0 10 <|
 f_X9_holder K v0 v1 (fun r1 =>
 mStI K t0 4 r1 <|
 mLdI K t0 v2 fun x2 =>
 k x2)
def f_X9_rigNow (K : Cfg) (a0 : Nat) (a1 : Int32) (a2 : Int32) (k : Int32 → Mem → Prop) : Mem → Prop :=
 mGetR a0 10 2 fun x1 =>
 mRecv x1 0 <|
 f_Jx4a65c_get_915e3 K x1 a1 (fun r2 =>
 mRecv r2 9 <|
 mNewA K 0 (5, .inl (fun _ => 0)) fun x3 =>
 mGetI r2 9 0 fun x4 =>
 mStI K x3 0 x4 <|
 mGetI r2 9 1 fun x5 =>
 mStI K x3 1 x5 <|
 mGetI r2 9 2 fun x6 =>
 mStI K x3 2 x6 <|
 mGetI r2 9 3 fun x7 =>
 mIf (x7 = 0)
 (f_X9_rigNow_b52 K k a0 a1 a2 x3 x3 3 0)
 (f_X9_rigNow_b52 K k a0 a1 a2 x3 x3 3 1))
abbrev rm_X9_rigNow : Room := { frames := 4, cells := 1, slots := 5, locals := 86 }
set_option maxHeartbeats 4000000 in
set_option maxRecDepth 100000 in
theorem ct_X9_rigNow {K : Cfg} {l : Launch} (hst : l.stackTraces = false) (a0 : Nat) (a1 : Int32) (a2 : Int32) : mPi K l yX9_rigNow cX9_rigNow 5 (some .int) rm_X9_rigNow [.ref a0, .int a1, .int a2] (f_X9_rigNow K a0 a1 a2) := by
  refine mPi.of hst (by decide +kernel) (Nat.le_of_ble_eq_true rfl) ?_
  intro M k Q hk hP p e s m below meth c X hr hlocks hname hM ls hl
  have hx := X.1.1
  have hb := X.1.2.1
  have X : Cx K p l s m ([.ref a0, .int a1, .int a2] : List Value).toArray c cX9_rigNow 5 RX9 := X
  have hS : va_S (mFA K) s.heap s.heap [] := va_S.rf
  have hl : lv_has ls 5 [(0, .ref a0), (1, .int a1), (2, .int a2)] := hl
  have hb52 : ∀ (v0 : Nat) (v1 : Int32) (v2 : Int32) (t0 : Nat) (t1 : Nat) (t2 : Int32) (t3 : Int32) (M : Mem) (H : Heap) (locs : List Loc) (ls : Array Slot), mh K M H → va_S (mFA K) s.heap H locs → lv_has ls 5 [(0, .ref v0), (1, .int v1), (2, .int v2)] → f_X9_rigNow_b52 K k v0 v1 v2 t0 t1 t2 t3 M → W p l e rm_X9_rigNow s m ([.ref a0, .int a1, .int a2] : List Value).toArray below meth c H locs 1 5 (MQ below (mQ K Q) ([.ref a0, .int a1, .int a2] : List Value).toArray s rm_X9_rigNow.cells rm_X9_rigNow.slots (mFA K)) (F0 m 52 ls [.int t3, .int t2, .ref t1, .ref t0]) := by
    intro v0 v1 v2 t0 t1 t2 t3 M H locs ls hM hS hl hP
    unfold f_X9_rigNow_b52 at hP
    refine r_sti X hM hS hP dX9_rigNow_52 (fun M H locs hM hS hP => ?_)
    refine lv_dup hx hb dX9_rigNow_53 rfl ?_
    refine lv_iconst (v := 4) hx hb dX9_rigNow_54 (by decide) ?_
    refine lv_aload_n hx hb dX9_rigNow_55 rfl (lv_at hl 0 rfl) ?_
    refine lv_iload_n hx hb dX9_rigNow_56 rfl (lv_at hl 1 rfl) ?_
    refine r_callVi (rest := [.int 4, .ref t0, .ref t0]) (T := TX9) (N := 14) X hM hS (ct_X9_holder hst v0 v1) hP mV_X9_145 rfl rfl rfl hl.1 (Nat.le_of_ble_eq_true rfl) ⟨⟨by decide, by decide⟩, ⟨by decide, by decide⟩⟩ dX9_rigNow_57 (fun r1 M H locs hM hS hP => ?_)
    refine r_sti X hM hS hP dX9_rigNow_60 (fun M H locs hM hS hP => ?_)
    refine lv_astore (lv' := [(4, .ref t0), (0, .ref v0), (1, .int v1), (2, .int v2)]) hx hb dX9_rigNow_61 hl (by decide) rfl (fun ls hl => ?_)
    refine lv_aload hx hb dX9_rigNow_63 (lv_at hl 0 rfl) ?_
    refine lv_iload_n hx hb dX9_rigNow_65 rfl (lv_at hl 3 rfl) ?_
    refine r_ldi X hM hP dX9_rigNow_66 (fun x2 hP => ?_)
    exact e_iret X hM hS (hk _ _ hP) hr hlocks (by decide) (by decide) dX9_rigNow_67
  unfold f_X9_rigNow at hP
  refine lv_aload_n hx hb dX9_rigNow_0 rfl (lv_at hl 0 rfl) ?_
  refine r_getr X hM hP fl_X9_16 dX9_rigNow_1 (fun x1 hP => ?_)
  refine lv_iload_n hx hb dX9_rigNow_4 rfl (lv_at hl 1 rfl) ?_
  refine r_callFr (rest := []) X hM hS (ct_Jx4a65c_get_915e3 hst x1 a1) hP mF_X9_57 rfl rfl hl.1 (Nat.le_of_ble_eq_true rfl) ⟨⟨by decide, by decide⟩, ⟨by decide, by decide⟩⟩ dX9_rigNow_5 (fun r2 M H locs hM hS hP => ?_)
  refine r_cast (C := RX8) (T := TX8) (N := 5) X hM hP rfl al_X9_50 dX9_rigNow_10 (fun hP => ?_)
  refine lv_astore_n (lv' := [(3, .ref r2), (0, .ref a0), (1, .int a1), (2, .int a2)]) hx hb dX9_rigNow_13 rfl hl (by decide) rfl (fun ls hl => ?_)
  refine lv_iconst (v := 5) hx hb dX9_rigNow_14 (by decide) ?_
  refine r_newa (t := 0) (atype := .int) (fun _ => rfl) (fun _ _ h => h) X hM hS ac_int hP (fun _ => rfl) (by decide) (by decide) (by decide) ⟨by decide, by decide⟩ dX9_rigNow_15 (fun x3 M H hM hS hP => ?_)
  refine lv_dup hx hb dX9_rigNow_17 rfl ?_
  refine lv_iconst (v := 0) hx hb dX9_rigNow_18 (by decide) ?_
  refine lv_aload_n hx hb dX9_rigNow_19 rfl (lv_at hl 0 rfl) ?_
  refine r_geti X hM hP fl_X9_49 dX9_rigNow_20 (fun x4 hP => ?_)
  refine r_sti X hM hS hP dX9_rigNow_23 (fun M H locs hM hS hP => ?_)
  refine lv_dup hx hb dX9_rigNow_24 rfl ?_
  refine lv_iconst (v := 1) hx hb dX9_rigNow_25 (by decide) ?_
  refine lv_aload_n hx hb dX9_rigNow_26 rfl (lv_at hl 0 rfl) ?_
  refine r_geti X hM hP fl_X9_162 dX9_rigNow_27 (fun x5 hP => ?_)
  refine r_sti X hM hS hP dX9_rigNow_30 (fun M H locs hM hS hP => ?_)
  refine lv_dup hx hb dX9_rigNow_31 rfl ?_
  refine lv_iconst (v := 2) hx hb dX9_rigNow_32 (by decide) ?_
  refine lv_aload_n hx hb dX9_rigNow_33 rfl (lv_at hl 0 rfl) ?_
  refine r_geti X hM hP fl_X9_159 dX9_rigNow_34 (fun x6 hP => ?_)
  refine r_sti X hM hS hP dX9_rigNow_37 (fun M H locs hM hS hP => ?_)
  refine lv_dup hx hb dX9_rigNow_38 rfl ?_
  refine lv_iconst (v := 3) hx hb dX9_rigNow_39 (by decide) ?_
  refine lv_aload_n hx hb dX9_rigNow_40 rfl (lv_at hl 0 rfl) ?_
  refine r_geti X hM hP fl_X9_148 dX9_rigNow_41 (fun x7 hP => ?_)
  refine lv_if_eq (tgt := 51) hx hb dX9_rigNow_44 (by decide) (fun hc => ?_) (fun hc => ?_)
  · have hP := mIf_t hP hc
    refine lv_iconst (v := 0) hx hb dX9_rigNow_51 (by decide) ?_
    exact hb52 a0 a1 a2 x3 x3 3 0 _ _ _ _ hM hS (lv_sub hl [1, 2, 3] rfl) hP
  · have hP := mIf_f hP hc
    refine lv_iconst (v := 1) hx hb dX9_rigNow_47 (by decide) ?_
    refine lv_goto (tgt := 52) hx hb dX9_rigNow_48 (by decide) ?_
    exact hb52 a0 a1 a2 x3 x3 3 1 _ _ _ _ hM hS (lv_sub hl [1, 2, 3] rfl) hP
def f_X9_ofRig (K : Cfg) (a0 : Nat) (a1 : Int32) (a2 : Int32) (k : Int32 → Mem → Prop) : Mem → Prop :=
 mPut a0 10 0 (.int 0) <|
 mRecv a0 10 <|
 f_X9_isRig K a0 a1 (fun r1 =>
 mIf (r1 = 0)
 (mRecv a0 10 <|
 f_X9_no K a0 1 (fun r5 =>
 k r5))
 (f_X9_in K a2 0 4 (fun r2 =>
 mIf (r2 = 0)
 (mRecv a0 10 <|
 f_X9_no K a0 2 (fun r4 =>
 k r4))
 (mRecv a0 10 <|
 f_X9_rigNow K a0 a1 a2 (fun r3 =>
 k r3)))))
abbrev rm_X9_ofRig : Room := { frames := 5, cells := 1, slots := 5, locals := 110 }
set_option maxHeartbeats 4000000 in
set_option maxRecDepth 100000 in
theorem ct_X9_ofRig {K : Cfg} {l : Launch} (hst : l.stackTraces = false) (a0 : Nat) (a1 : Int32) (a2 : Int32) : mPi K l yX9_ofRig cX9_ofRig 3 (some .int) rm_X9_ofRig [.ref a0, .int a1, .int a2] (f_X9_ofRig K a0 a1 a2) := by
  refine mPi.of hst (by decide +kernel) (Nat.le_of_ble_eq_true rfl) ?_
  intro M k Q hk hP p e s m below meth c X hr hlocks hname hM ls hl
  have hx := X.1.1
  have hb := X.1.2.1
  have X : Cx K p l s m ([.ref a0, .int a1, .int a2] : List Value).toArray c cX9_ofRig 3 RX9 := X
  have hS : va_S (mFA K) s.heap s.heap [] := va_S.rf
  have hl : lv_has ls 3 [(0, .ref a0), (1, .int a1), (2, .int a2)] := hl
  unfold f_X9_ofRig at hP
  refine lv_aload_n hx hb dX9_ofRig_0 rfl (lv_at hl 0 rfl) ?_
  refine lv_iconst (v := 0) hx hb dX9_ofRig_1 (by decide) ?_
  refine r_put X hM hS hP fl_X9_30 ft_X9 rfl (tyX9_ok 0 (Nat.le_of_ble_eq_true rfl)) rfl rfl dX9_ofRig_2 (fun M H locs hM hS hP => ?_)
  refine lv_aload_n hx hb dX9_ofRig_5 rfl (lv_at hl 0 rfl) ?_
  refine lv_iload_n hx hb dX9_ofRig_6 rfl (lv_at hl 1 rfl) ?_
  refine r_callVi (rest := []) (T := TX9) (N := 14) X hM hS (ct_X9_isRig hst a0 a1) hP mV_X9_138 rfl rfl rfl hl.1 (Nat.le_of_ble_eq_true rfl) ⟨⟨by decide, by decide⟩, ⟨by decide, by decide⟩⟩ dX9_ofRig_7 (fun r1 M H locs hM hS hP => ?_)
  refine lv_if_ne (tgt := 19) hx hb dX9_ofRig_10 (by decide) (fun hc => ?_) (fun hc => ?_)
  · have hP := mIf_f hP hc
    refine lv_iload_n hx hb dX9_ofRig_19 rfl (lv_at hl 2 rfl) ?_
    refine lv_iconst (v := 0) hx hb dX9_ofRig_20 (by decide) ?_
    refine lv_iconst (v := 4) hx hb dX9_ofRig_21 (by decide) ?_
    refine r_callSi (rest := []) X hM hS (ct_X9_in hst a2 0 4) hP mS_X9_39 rfl rfl hl.1 (Nat.le_of_ble_eq_true rfl) ⟨⟨by decide, by decide⟩, ⟨by decide, by decide⟩⟩ dX9_ofRig_22 (fun r2 M H locs hM hS hP => ?_)
    refine lv_if_ne (tgt := 34) hx hb dX9_ofRig_25 (by decide) (fun hc => ?_) (fun hc => ?_)
    · have hP := mIf_f hP hc
      refine lv_aload_n hx hb dX9_ofRig_34 rfl (lv_at hl 0 rfl) ?_
      refine lv_iload_n hx hb dX9_ofRig_35 rfl (lv_at hl 1 rfl) ?_
      refine lv_iload_n hx hb dX9_ofRig_36 rfl (lv_at hl 2 rfl) ?_
      refine r_callVi (rest := []) (T := TX9) (N := 14) X hM hS (ct_X9_rigNow hst a0 a1 a2) hP mV_X9_252 rfl rfl rfl hl.1 (Nat.le_of_ble_eq_true rfl) ⟨⟨by decide, by decide⟩, ⟨by decide, by decide⟩⟩ dX9_ofRig_37 (fun r3 M H locs hM hS hP => ?_)
      exact e_iret X hM hS (hk _ _ hP) hr hlocks (by decide) (by decide) dX9_ofRig_40
    · have hP := mIf_t hP hc
      refine lv_aload_n hx hb dX9_ofRig_28 rfl (lv_at hl 0 rfl) ?_
      refine lv_iconst (v := 2) hx hb dX9_ofRig_29 (by decide) ?_
      refine r_callVi (rest := []) (T := TX9) (N := 14) X hM hS (ct_X9_no hst a0 2) hP mV_X9_126 rfl rfl rfl hl.1 (Nat.le_of_ble_eq_true rfl) ⟨⟨by decide, by decide⟩, ⟨by decide, by decide⟩⟩ dX9_ofRig_30 (fun r4 M H locs hM hS hP => ?_)
      exact e_iret X hM hS (hk _ _ hP) hr hlocks (by decide) (by decide) dX9_ofRig_33
  · have hP := mIf_t hP hc
    refine lv_aload_n hx hb dX9_ofRig_13 rfl (lv_at hl 0 rfl) ?_
    refine lv_iconst (v := 1) hx hb dX9_ofRig_14 (by decide) ?_
    refine r_callVi (rest := []) (T := TX9) (N := 14) X hM hS (ct_X9_no hst a0 1) hP mV_X9_126 rfl rfl rfl hl.1 (Nat.le_of_ble_eq_true rfl) ⟨⟨by decide, by decide⟩, ⟨by decide, by decide⟩⟩ dX9_ofRig_15 (fun r5 M H locs hM hS hP => ?_)
    exact e_iret X hM hS (hk _ _ hP) hr hlocks (by decide) (by decide) dX9_ofRig_18
def f_X9_wear (K : Cfg) (a0 : Nat) (a1 : Int32) (k : UInt64 → Mem → Prop) : Mem → Prop :=
 mPut a0 10 0 (.int 0) <|
 mRecv a0 10 <|
 f_X9_isRig K a0 a1 (fun r1 =>
 mIf (r1 = 0)
 (mRecv a0 10 <|
 f_X9_no K a0 1 (fun r5 =>
 k (FP.i2d r5)))
 (mGetR a0 10 2 fun x2 =>
 mRecv x2 0 <|
 f_Jx4a65c_get_915e3 K x2 a1 (fun r3 =>
 mRecv r3 9 <|
 mGetF r3 9 4 fun x4 =>
 mAs (vf_n64 (FP.f2d x4)) <|
 k (FP.f2d x4))))
abbrev rm_X9_wear : Room := { frames := 3, cells := 0, slots := 0, locals := 64 }
set_option maxHeartbeats 4000000 in
set_option maxRecDepth 100000 in
theorem ct_X9_wear {K : Cfg} {l : Launch} (hst : l.stackTraces = false) (a0 : Nat) (a1 : Int32) : mPd K l yX9_wear cX9_wear 2 (some .double) rm_X9_wear [.ref a0, .int a1] (f_X9_wear K a0 a1) := by
  refine mPd.of hst (by decide +kernel) (Nat.le_of_ble_eq_true rfl) ?_
  intro M k Q hk hP p e s m below meth c X hr hlocks hname hM ls hl
  have hx := X.1.1
  have hb := X.1.2.1
  have X : Cx K p l s m ([.ref a0, .int a1] : List Value).toArray c cX9_wear 2 RX9 := X
  have hS : va_S (mFA K) s.heap s.heap [] := va_S.rf
  have hl : lv_has ls 2 [(0, .ref a0), (1, .int a1)] := hl
  unfold f_X9_wear at hP
  refine lv_aload_n hx hb dX9_wear_0 rfl (lv_at hl 0 rfl) ?_
  refine lv_iconst (v := 0) hx hb dX9_wear_1 (by decide) ?_
  refine r_put X hM hS hP fl_X9_30 ft_X9 rfl (tyX9_ok 0 (Nat.le_of_ble_eq_true rfl)) rfl rfl dX9_wear_2 (fun M H locs hM hS hP => ?_)
  refine lv_aload_n hx hb dX9_wear_5 rfl (lv_at hl 0 rfl) ?_
  refine lv_iload_n hx hb dX9_wear_6 rfl (lv_at hl 1 rfl) ?_
  refine r_callVi (rest := []) (T := TX9) (N := 14) X hM hS (ct_X9_isRig hst a0 a1) hP mV_X9_138 rfl rfl rfl hl.1 (Nat.le_of_ble_eq_true rfl) ⟨⟨by decide, by decide⟩, ⟨by decide, by decide⟩⟩ dX9_wear_7 (fun r1 M H locs hM hS hP => ?_)
  refine lv_if_ne (tgt := 20) hx hb dX9_wear_10 (by decide) (fun hc => ?_) (fun hc => ?_)
  · have hP := mIf_f hP hc
    refine lv_aload_n hx hb dX9_wear_20 rfl (lv_at hl 0 rfl) ?_
    refine r_getr X hM hP fl_X9_16 dX9_wear_21 (fun x2 hP => ?_)
    refine lv_iload_n hx hb dX9_wear_24 rfl (lv_at hl 1 rfl) ?_
    refine r_callFr (rest := []) X hM hS (ct_Jx4a65c_get_915e3 hst x2 a1) hP mF_X9_57 rfl rfl hl.1 (Nat.le_of_ble_eq_true rfl) ⟨⟨by decide, by decide⟩, ⟨by decide, by decide⟩⟩ dX9_wear_25 (fun r3 M H locs hM hS hP => ?_)
    refine r_cast (C := RX8) (T := TX8) (N := 5) X hM hP rfl al_X9_50 dX9_wear_30 (fun hP => ?_)
    refine r_getf X hM hP fl_X9_193 dX9_wear_33 (fun x4 hP => ?_)
    obtain ⟨h9, hP⟩ := hP
    refine lv_f2d hx hb dX9_wear_36 h9 ?_
    exact e_dret X hM hS (hk _ _ hP) hr hlocks (by decide) (by decide) dX9_wear_37
  · have hP := mIf_t hP hc
    refine lv_aload_n hx hb dX9_wear_13 rfl (lv_at hl 0 rfl) ?_
    refine lv_iconst (v := 1) hx hb dX9_wear_14 (by decide) ?_
    refine r_callVi (rest := []) (T := TX9) (N := 14) X hM hS (ct_X9_no hst a0 1) hP mV_X9_126 rfl rfl rfl hl.1 (Nat.le_of_ble_eq_true rfl) ⟨⟨by decide, by decide⟩, ⟨by decide, by decide⟩⟩ dX9_wear_15 (fun r5 M H locs hM hS hP => ?_)
    refine lv_i2d hx hb dX9_wear_18 ?_
    exact e_dret X hM hS (hk _ _ hP) hr hlocks (by decide) (by decide) dX9_wear_19
def f_X9_ofWind_b40 (K : Cfg) (k : Int32 → Mem → Prop) (t0 : Int32) : Mem → Prop :=
 k t0
def f_X9_ofWind (K : Cfg) (a0 : Nat) (a1 : Int32) (a2 : Int32) (k : Int32 → Mem → Prop) : Mem → Prop :=
 mPut a0 10 0 (.int 0) <|
 f_X9_in K a1 0 9 (fun r1 =>
 mIf (r1 = 0)
 (mRecv a0 10 <|
 f_X9_no K a0 1 (fun r6 =>
 k r6))
 (mIf (a2 = 0)
 (mGetR a0 10 3 fun x2 =>
 mLdI K x2 a1 fun x3 =>
 f_X9_ofWind_b40 K k x3)
 (mGetR a0 10 4 fun x4 =>
 mLdI K x4 a1 fun x5 =>
 f_X9_ofWind_b40 K k x5)))
abbrev rm_X9_ofWind : Room := { frames := 1, cells := 0, slots := 0, locals := 22 }
set_option maxHeartbeats 4000000 in
set_option maxRecDepth 100000 in
theorem ct_X9_ofWind {K : Cfg} {l : Launch} (hst : l.stackTraces = false) (a0 : Nat) (a1 : Int32) (a2 : Int32) : mPi K l yX9_ofWind cX9_ofWind 3 (some .int) rm_X9_ofWind [.ref a0, .int a1, .int a2] (f_X9_ofWind K a0 a1 a2) := by
  refine mPi.of hst (by decide +kernel) (Nat.le_of_ble_eq_true rfl) ?_
  intro M k Q hk hP p e s m below meth c X hr hlocks hname hM ls hl
  have hx := X.1.1
  have hb := X.1.2.1
  have X : Cx K p l s m ([.ref a0, .int a1, .int a2] : List Value).toArray c cX9_ofWind 3 RX9 := X
  have hS : va_S (mFA K) s.heap s.heap [] := va_S.rf
  have hl : lv_has ls 3 [(0, .ref a0), (1, .int a1), (2, .int a2)] := hl
  have hb40 : ∀ (t0 : Int32) (M : Mem) (H : Heap) (locs : List Loc) (ls : Array Slot), mh K M H → va_S (mFA K) s.heap H locs → lv_has ls 3 [] → f_X9_ofWind_b40 K k t0 M → W p l e rm_X9_ofWind s m ([.ref a0, .int a1, .int a2] : List Value).toArray below meth c H locs 0 0 (MQ below (mQ K Q) ([.ref a0, .int a1, .int a2] : List Value).toArray s rm_X9_ofWind.cells rm_X9_ofWind.slots (mFA K)) (F0 m 40 ls [.int t0]) := by
    intro t0 M H locs ls hM hS hl hP
    unfold f_X9_ofWind_b40 at hP
    exact e_iret X hM hS (hk _ _ hP) hr hlocks (by decide) (by decide) dX9_ofWind_40
  unfold f_X9_ofWind at hP
  refine lv_aload_n hx hb dX9_ofWind_0 rfl (lv_at hl 0 rfl) ?_
  refine lv_iconst (v := 0) hx hb dX9_ofWind_1 (by decide) ?_
  refine r_put X hM hS hP fl_X9_30 ft_X9 rfl (tyX9_ok 0 (Nat.le_of_ble_eq_true rfl)) rfl rfl dX9_ofWind_2 (fun M H locs hM hS hP => ?_)
  refine lv_iload_n hx hb dX9_ofWind_5 rfl (lv_at hl 1 rfl) ?_
  refine lv_iconst (v := 0) hx hb dX9_ofWind_6 (by decide) ?_
  refine lv_bipush (v := 9) hx hb dX9_ofWind_7 (by decide) ?_
  refine r_callSi (rest := []) X hM hS (ct_X9_in hst a1 0 9) hP mS_X9_39 rfl rfl hl.1 (Nat.le_of_ble_eq_true rfl) ⟨⟨by decide, by decide⟩, ⟨by decide, by decide⟩⟩ dX9_ofWind_9 (fun r1 M H locs hM hS hP => ?_)
  refine lv_if_ne (tgt := 21) hx hb dX9_ofWind_12 (by decide) (fun hc => ?_) (fun hc => ?_)
  · have hP := mIf_f hP hc
    refine lv_iload_n hx hb dX9_ofWind_21 rfl (lv_at hl 2 rfl) ?_
    refine lv_if_eq (tgt := 34) hx hb dX9_ofWind_22 (by decide) (fun hc => ?_) (fun hc => ?_)
    · have hP := mIf_t hP hc
      refine lv_aload_n hx hb dX9_ofWind_34 rfl (lv_at hl 0 rfl) ?_
      refine r_getr X hM hP fl_X9_19 dX9_ofWind_35 (fun x2 hP => ?_)
      refine lv_iload_n hx hb dX9_ofWind_38 rfl (lv_at hl 1 rfl) ?_
      refine r_ldi X hM hP dX9_ofWind_39 (fun x3 hP => ?_)
      exact hb40 x3 _ _ _ _ hM hS (lv_sub hl [] rfl) hP
    · have hP := mIf_f hP hc
      refine lv_aload_n hx hb dX9_ofWind_25 rfl (lv_at hl 0 rfl) ?_
      refine r_getr X hM hP fl_X9_23 dX9_ofWind_26 (fun x4 hP => ?_)
      refine lv_iload_n hx hb dX9_ofWind_29 rfl (lv_at hl 1 rfl) ?_
      refine r_ldi X hM hP dX9_ofWind_30 (fun x5 hP => ?_)
      refine lv_goto (tgt := 40) hx hb dX9_ofWind_31 (by decide) ?_
      exact hb40 x5 _ _ _ _ hM hS (lv_sub hl [] rfl) hP
  · have hP := mIf_t hP hc
    refine lv_aload_n hx hb dX9_ofWind_15 rfl (lv_at hl 0 rfl) ?_
    refine lv_iconst (v := 1) hx hb dX9_ofWind_16 (by decide) ?_
    refine r_callVi (rest := []) (T := TX9) (N := 14) X hM hS (ct_X9_no hst a0 1) hP mV_X9_126 rfl rfl rfl hl.1 (Nat.le_of_ble_eq_true rfl) ⟨⟨by decide, by decide⟩, ⟨by decide, by decide⟩⟩ dX9_ofWind_17 (fun r6 M H locs hM hS hP => ?_)
    exact e_iret X hM hS (hk _ _ hP) hr hlocks (by decide) (by decide) dX9_ofWind_20
def f_X9_manyNow_b111 (K : Cfg) (k : Int32 → Mem → Prop) (v0 : Nat) (v1 : Int32) (t0 : Nat) (t1 : Nat) (t2 : Int32) (t3 : Int32) : Mem → Prop :=
 mStI K t1 t2 t3 <|
 mGetI v0 10 13 fun x1 =>
 mStI K t0 12 x1 <|
 mLdI K t0 v1 fun x2 =>
 k x2
def f_X9_manyNow (K : Cfg) (a0 : Nat) (a1 : Int32) (k : Int32 → Mem → Prop) : Mem → Prop :=
 mNewA K 0 (13, .inl (fun _ => 0)) fun x1 =>
 mGetI a0 10 5 fun x2 =>
 mStI K x1 0 x2 <|
 mGetR a0 10 1 fun x3 =>
 mRecv x3 0 <|
 f_Jx4a65c_size_8abf5 K x3 (fun r4 =>
 mStI K x1 1 r4 <|
 mGetR a0 10 2 fun x5 =>
 mRecv x5 0 <|
 f_Jx4a65c_size_8abf5 K x5 (fun r6 =>
 mStI K x1 2 r6 <|
 mRecv a0 10 <|
 f_X9_ground K a0 (fun r7 =>
 mStI K x1 3 r7 <|
 mRecv a0 10 <|
 f_X9_aboard K a0 (fun r8 =>
 mStI K x1 4 r8 <|
 mGetI a0 10 6 fun x9 =>
 mStI K x1 5 x9 <|
 mGetI a0 10 7 fun x10 =>
 mStI K x1 6 x10 <|
 mGetI a0 10 8 fun x11 =>
 mStI K x1 7 x11 <|
 mGetI a0 10 9 fun x12 =>
 mStI K x1 8 x12 <|
 mGetI a0 10 10 fun x13 =>
 mStI K x1 9 x13 <|
 mGetI a0 10 11 fun x14 =>
 mStI K x1 10 x14 <|
 mGetI a0 10 12 fun x15 =>
 mIf (x15 = 0)
 (f_X9_manyNow_b111 K k a0 a1 x1 x1 11 0)
 (f_X9_manyNow_b111 K k a0 a1 x1 x1 11 1)))))
abbrev rm_X9_manyNow : Room := { frames := 4, cells := 1, slots := 13, locals := 86 }
set_option maxHeartbeats 4000000 in
set_option maxRecDepth 100000 in
theorem ct_X9_manyNow {K : Cfg} {l : Launch} (hst : l.stackTraces = false) (a0 : Nat) (a1 : Int32) : mPi K l yX9_manyNow cX9_manyNow 3 (some .int) rm_X9_manyNow [.ref a0, .int a1] (f_X9_manyNow K a0 a1) := by
  refine mPi.of hst (by decide +kernel) (Nat.le_of_ble_eq_true rfl) ?_
  intro M k Q hk hP p e s m below meth c X hr hlocks hname hM ls hl
  have hx := X.1.1
  have hb := X.1.2.1
  have X : Cx K p l s m ([.ref a0, .int a1] : List Value).toArray c cX9_manyNow 3 RX9 := X
  have hS : va_S (mFA K) s.heap s.heap [] := va_S.rf
  have hl : lv_has ls 3 [(0, .ref a0), (1, .int a1)] := hl
  have hb111 : ∀ (v0 : Nat) (v1 : Int32) (t0 : Nat) (t1 : Nat) (t2 : Int32) (t3 : Int32) (M : Mem) (H : Heap) (locs : List Loc) (ls : Array Slot), mh K M H → va_S (mFA K) s.heap H locs → lv_has ls 3 [(0, .ref v0), (1, .int v1)] → f_X9_manyNow_b111 K k v0 v1 t0 t1 t2 t3 M → W p l e rm_X9_manyNow s m ([.ref a0, .int a1] : List Value).toArray below meth c H locs 1 13 (MQ below (mQ K Q) ([.ref a0, .int a1] : List Value).toArray s rm_X9_manyNow.cells rm_X9_manyNow.slots (mFA K)) (F0 m 111 ls [.int t3, .int t2, .ref t1, .ref t0]) := by
    intro v0 v1 t0 t1 t2 t3 M H locs ls hM hS hl hP
    unfold f_X9_manyNow_b111 at hP
    refine r_sti X hM hS hP dX9_manyNow_111 (fun M H locs hM hS hP => ?_)
    refine lv_dup hx hb dX9_manyNow_112 rfl ?_
    refine lv_bipush (v := 12) hx hb dX9_manyNow_113 (by decide) ?_
    refine lv_aload_n hx hb dX9_manyNow_115 rfl (lv_at hl 0 rfl) ?_
    refine r_geti X hM hP fl_X9_246 dX9_manyNow_116 (fun x1 hP => ?_)
    refine r_sti X hM hS hP dX9_manyNow_119 (fun M H locs hM hS hP => ?_)
    refine lv_astore_n (lv' := [(2, .ref t0), (0, .ref v0), (1, .int v1)]) hx hb dX9_manyNow_120 rfl hl (by decide) rfl (fun ls hl => ?_)
    refine lv_aload_n hx hb dX9_manyNow_121 rfl (lv_at hl 0 rfl) ?_
    refine lv_iload_n hx hb dX9_manyNow_122 rfl (lv_at hl 2 rfl) ?_
    refine r_ldi X hM hP dX9_manyNow_123 (fun x2 hP => ?_)
    exact e_iret X hM hS (hk _ _ hP) hr hlocks (by decide) (by decide) dX9_manyNow_124
  unfold f_X9_manyNow at hP
  refine lv_bipush (v := 13) hx hb dX9_manyNow_0 (by decide) ?_
  refine r_newa (t := 0) (atype := .int) (fun _ => rfl) (fun _ _ h => h) X hM hS ac_int hP (fun _ => rfl) (by decide) (by decide) (by decide) ⟨by decide, by decide⟩ dX9_manyNow_2 (fun x1 M H hM hS hP => ?_)
  refine lv_dup hx hb dX9_manyNow_4 rfl ?_
  refine lv_iconst (v := 0) hx hb dX9_manyNow_5 (by decide) ?_
  refine lv_aload_n hx hb dX9_manyNow_6 rfl (lv_at hl 0 rfl) ?_
  refine r_geti X hM hP fl_X9_129 dX9_manyNow_7 (fun x2 hP => ?_)
  refine r_sti X hM hS hP dX9_manyNow_10 (fun M H locs hM hS hP => ?_)
  refine lv_dup hx hb dX9_manyNow_11 rfl ?_
  refine lv_iconst (v := 1) hx hb dX9_manyNow_12 (by decide) ?_
  refine lv_aload_n hx hb dX9_manyNow_13 rfl (lv_at hl 0 rfl) ?_
  refine r_getr X hM hP fl_X9_10 dX9_manyNow_14 (fun x3 hP => ?_)
  refine r_callFi (rest := [.int 1, .ref x1, .ref x1]) X hM hS (ct_Jx4a65c_size_8abf5 hst x3) hP mF_X9_33 rfl rfl hl.1 (Nat.le_of_ble_eq_true rfl) ⟨⟨by decide, by decide⟩, ⟨by decide, by decide⟩⟩ dX9_manyNow_17 (fun r4 M H locs hM hS hP => ?_)
  refine r_sti X hM hS hP dX9_manyNow_22 (fun M H locs hM hS hP => ?_)
  refine lv_dup hx hb dX9_manyNow_23 rfl ?_
  refine lv_iconst (v := 2) hx hb dX9_manyNow_24 (by decide) ?_
  refine lv_aload_n hx hb dX9_manyNow_25 rfl (lv_at hl 0 rfl) ?_
  refine r_getr X hM hP fl_X9_16 dX9_manyNow_26 (fun x5 hP => ?_)
  refine r_callFi (rest := [.int 2, .ref x1, .ref x1]) X hM hS (ct_Jx4a65c_size_8abf5 hst x5) hP mF_X9_33 rfl rfl hl.1 (Nat.le_of_ble_eq_true rfl) ⟨⟨by decide, by decide⟩, ⟨by decide, by decide⟩⟩ dX9_manyNow_29 (fun r6 M H locs hM hS hP => ?_)
  refine r_sti X hM hS hP dX9_manyNow_34 (fun M H locs hM hS hP => ?_)
  refine lv_dup hx hb dX9_manyNow_35 rfl ?_
  refine lv_iconst (v := 3) hx hb dX9_manyNow_36 (by decide) ?_
  refine lv_aload_n hx hb dX9_manyNow_37 rfl (lv_at hl 0 rfl) ?_
  refine r_callVi (rest := [.int 3, .ref x1, .ref x1]) (T := TX9) (N := 14) X hM hS (ct_X9_ground hst a0) hP mV_X9_165 rfl rfl rfl hl.1 (Nat.le_of_ble_eq_true rfl) ⟨⟨by decide, by decide⟩, ⟨by decide, by decide⟩⟩ dX9_manyNow_38 (fun r7 M H locs hM hS hP => ?_)
  refine r_sti X hM hS hP dX9_manyNow_41 (fun M H locs hM hS hP => ?_)
  refine lv_dup hx hb dX9_manyNow_42 rfl ?_
  refine lv_iconst (v := 4) hx hb dX9_manyNow_43 (by decide) ?_
  refine lv_aload_n hx hb dX9_manyNow_44 rfl (lv_at hl 0 rfl) ?_
  refine r_callVi (rest := [.int 4, .ref x1, .ref x1]) (T := TX9) (N := 14) X hM hS (ct_X9_aboard hst a0) hP mV_X9_87 rfl rfl rfl hl.1 (Nat.le_of_ble_eq_true rfl) ⟨⟨by decide, by decide⟩, ⟨by decide, by decide⟩⟩ dX9_manyNow_45 (fun r8 M H locs hM hS hP => ?_)
  refine r_sti X hM hS hP dX9_manyNow_48 (fun M H locs hM hS hP => ?_)
  refine lv_dup hx hb dX9_manyNow_49 rfl ?_
  refine lv_iconst (v := 5) hx hb dX9_manyNow_50 (by decide) ?_
  refine lv_aload_n hx hb dX9_manyNow_51 rfl (lv_at hl 0 rfl) ?_
  refine r_geti X hM hP fl_X9_26 dX9_manyNow_52 (fun x9 hP => ?_)
  refine r_sti X hM hS hP dX9_manyNow_55 (fun M H locs hM hS hP => ?_)
  refine lv_dup hx hb dX9_manyNow_56 rfl ?_
  refine lv_bipush (v := 6) hx hb dX9_manyNow_57 (by decide) ?_
  refine lv_aload_n hx hb dX9_manyNow_59 rfl (lv_at hl 0 rfl) ?_
  refine r_geti X hM hP fl_X9_211 dX9_manyNow_60 (fun x10 hP => ?_)
  refine r_sti X hM hS hP dX9_manyNow_63 (fun M H locs hM hS hP => ?_)
  refine lv_dup hx hb dX9_manyNow_64 rfl ?_
  refine lv_bipush (v := 7) hx hb dX9_manyNow_65 (by decide) ?_
  refine lv_aload_n hx hb dX9_manyNow_67 rfl (lv_at hl 0 rfl) ?_
  refine r_geti X hM hP fl_X9_234 dX9_manyNow_68 (fun x11 hP => ?_)
  refine r_sti X hM hS hP dX9_manyNow_71 (fun M H locs hM hS hP => ?_)
  refine lv_dup hx hb dX9_manyNow_72 rfl ?_
  refine lv_bipush (v := 8) hx hb dX9_manyNow_73 (by decide) ?_
  refine lv_aload_n hx hb dX9_manyNow_75 rfl (lv_at hl 0 rfl) ?_
  refine r_geti X hM hP fl_X9_221 dX9_manyNow_76 (fun x12 hP => ?_)
  refine r_sti X hM hS hP dX9_manyNow_79 (fun M H locs hM hS hP => ?_)
  refine lv_dup hx hb dX9_manyNow_80 rfl ?_
  refine lv_bipush (v := 9) hx hb dX9_manyNow_81 (by decide) ?_
  refine lv_aload_n hx hb dX9_manyNow_83 rfl (lv_at hl 0 rfl) ?_
  refine r_geti X hM hP fl_X9_222 dX9_manyNow_84 (fun x13 hP => ?_)
  refine r_sti X hM hS hP dX9_manyNow_87 (fun M H locs hM hS hP => ?_)
  refine lv_dup hx hb dX9_manyNow_88 rfl ?_
  refine lv_bipush (v := 10) hx hb dX9_manyNow_89 (by decide) ?_
  refine lv_aload_n hx hb dX9_manyNow_91 rfl (lv_at hl 0 rfl) ?_
  refine r_geti X hM hP fl_X9_200 dX9_manyNow_92 (fun x14 hP => ?_)
  refine r_sti X hM hS hP dX9_manyNow_95 (fun M H locs hM hS hP => ?_)
  refine lv_dup hx hb dX9_manyNow_96 rfl ?_
  refine lv_bipush (v := 11) hx hb dX9_manyNow_97 (by decide) ?_
  refine lv_aload_n hx hb dX9_manyNow_99 rfl (lv_at hl 0 rfl) ?_
  refine r_geti X hM hP fl_X9_178 dX9_manyNow_100 (fun x15 hP => ?_)
  refine lv_if_eq (tgt := 110) hx hb dX9_manyNow_103 (by decide) (fun hc => ?_) (fun hc => ?_)
  · have hP := mIf_t hP hc
    refine lv_iconst (v := 0) hx hb dX9_manyNow_110 (by decide) ?_
    exact hb111 a0 a1 x1 x1 11 0 _ _ _ _ hM hS (lv_sub hl [0, 1] rfl) hP
  · have hP := mIf_f hP hc
    refine lv_iconst (v := 1) hx hb dX9_manyNow_106 (by decide) ?_
    refine lv_goto (tgt := 111) hx hb dX9_manyNow_107 (by decide) ?_
    exact hb111 a0 a1 x1 x1 11 1 _ _ _ _ hM hS (lv_sub hl [0, 1] rfl) hP
def f_X9_many (K : Cfg) (a0 : Nat) (a1 : Int32) (k : Int32 → Mem → Prop) : Mem → Prop :=
 mPut a0 10 0 (.int 0) <|
 f_X9_in K a1 0 12 (fun r1 =>
 mIf (r1 = 0)
 (mRecv a0 10 <|
 f_X9_no K a0 1 (fun r3 =>
 k r3))
 (mRecv a0 10 <|
 f_X9_manyNow K a0 a1 (fun r2 =>
 k r2)))
abbrev rm_X9_many : Room := { frames := 5, cells := 1, slots := 13, locals := 108 }
set_option maxHeartbeats 4000000 in
set_option maxRecDepth 100000 in
theorem ct_X9_many {K : Cfg} {l : Launch} (hst : l.stackTraces = false) (a0 : Nat) (a1 : Int32) : mPi K l yX9_many cX9_many 2 (some .int) rm_X9_many [.ref a0, .int a1] (f_X9_many K a0 a1) := by
  refine mPi.of hst (by decide +kernel) (Nat.le_of_ble_eq_true rfl) ?_
  intro M k Q hk hP p e s m below meth c X hr hlocks hname hM ls hl
  have hx := X.1.1
  have hb := X.1.2.1
  have X : Cx K p l s m ([.ref a0, .int a1] : List Value).toArray c cX9_many 2 RX9 := X
  have hS : va_S (mFA K) s.heap s.heap [] := va_S.rf
  have hl : lv_has ls 2 [(0, .ref a0), (1, .int a1)] := hl
  unfold f_X9_many at hP
  refine lv_aload_n hx hb dX9_many_0 rfl (lv_at hl 0 rfl) ?_
  refine lv_iconst (v := 0) hx hb dX9_many_1 (by decide) ?_
  refine r_put X hM hS hP fl_X9_30 ft_X9 rfl (tyX9_ok 0 (Nat.le_of_ble_eq_true rfl)) rfl rfl dX9_many_2 (fun M H locs hM hS hP => ?_)
  refine lv_iload_n hx hb dX9_many_5 rfl (lv_at hl 1 rfl) ?_
  refine lv_iconst (v := 0) hx hb dX9_many_6 (by decide) ?_
  refine lv_bipush (v := 12) hx hb dX9_many_7 (by decide) ?_
  refine r_callSi (rest := []) X hM hS (ct_X9_in hst a1 0 12) hP mS_X9_39 rfl rfl hl.1 (Nat.le_of_ble_eq_true rfl) ⟨⟨by decide, by decide⟩, ⟨by decide, by decide⟩⟩ dX9_many_9 (fun r1 M H locs hM hS hP => ?_)
  refine lv_if_ne (tgt := 21) hx hb dX9_many_12 (by decide) (fun hc => ?_) (fun hc => ?_)
  · have hP := mIf_f hP hc
    refine lv_aload_n hx hb dX9_many_21 rfl (lv_at hl 0 rfl) ?_
    refine lv_iload_n hx hb dX9_many_22 rfl (lv_at hl 1 rfl) ?_
    refine r_callVi (rest := []) (T := TX9) (N := 14) X hM hS (ct_X9_manyNow hst a0 a1) hP mV_X9_255 rfl rfl rfl hl.1 (Nat.le_of_ble_eq_true rfl) ⟨⟨by decide, by decide⟩, ⟨by decide, by decide⟩⟩ dX9_many_23 (fun r2 M H locs hM hS hP => ?_)
    exact e_iret X hM hS (hk _ _ hP) hr hlocks (by decide) (by decide) dX9_many_26
  · have hP := mIf_t hP hc
    refine lv_aload_n hx hb dX9_many_15 rfl (lv_at hl 0 rfl) ?_
    refine lv_iconst (v := 1) hx hb dX9_many_16 (by decide) ?_
    refine r_callVi (rest := []) (T := TX9) (N := 14) X hM hS (ct_X9_no hst a0 1) hP mV_X9_126 rfl rfl rfl hl.1 (Nat.le_of_ble_eq_true rfl) ⟨⟨by decide, by decide⟩, ⟨by decide, by decide⟩⟩ dX9_many_17 (fun r3 M H locs hM hS hP => ?_)
    exact e_iret X hM hS (hk _ _ hP) hr hlocks (by decide) (by decide) dX9_many_20
def f_X9_order (K : Cfg) (a0 : Nat) (a1 : Int32) (k : Int32 → Mem → Prop) : Mem → Prop :=
 mPut a0 10 0 (.int 0) <|
 mRecv a0 10 <|
 f_X9_aboard K a0 (fun r1 =>
 f_X9_in K a1 0 (r1 - 1) (fun r2 =>
 mIf (r2 = 0)
 (mRecv a0 10 <|
 f_X9_no K a0 1 (fun r4 =>
 k r4))
 (mRecv a0 10 <|
 f_X9_at K a0 a1 (fun r3 =>
 k r3))))
abbrev rm_X9_order : Room := { frames := 7, cells := 0, slots := 0, locals := 154 }
set_option maxHeartbeats 4000000 in
set_option maxRecDepth 100000 in
theorem ct_X9_order {K : Cfg} {l : Launch} (hst : l.stackTraces = false) (a0 : Nat) (a1 : Int32) : mPi K l yX9_order cX9_order 2 (some .int) rm_X9_order [.ref a0, .int a1] (f_X9_order K a0 a1) := by
  refine mPi.of hst (by decide +kernel) (Nat.le_of_ble_eq_true rfl) ?_
  intro M k Q hk hP p e s m below meth c X hr hlocks hname hM ls hl
  have hx := X.1.1
  have hb := X.1.2.1
  have X : Cx K p l s m ([.ref a0, .int a1] : List Value).toArray c cX9_order 2 RX9 := X
  have hS : va_S (mFA K) s.heap s.heap [] := va_S.rf
  have hl : lv_has ls 2 [(0, .ref a0), (1, .int a1)] := hl
  unfold f_X9_order at hP
  refine lv_aload_n hx hb dX9_order_0 rfl (lv_at hl 0 rfl) ?_
  refine lv_iconst (v := 0) hx hb dX9_order_1 (by decide) ?_
  refine r_put X hM hS hP fl_X9_30 ft_X9 rfl (tyX9_ok 0 (Nat.le_of_ble_eq_true rfl)) rfl rfl dX9_order_2 (fun M H locs hM hS hP => ?_)
  refine lv_iload_n hx hb dX9_order_5 rfl (lv_at hl 1 rfl) ?_
  refine lv_iconst (v := 0) hx hb dX9_order_6 (by decide) ?_
  refine lv_aload_n hx hb dX9_order_7 rfl (lv_at hl 0 rfl) ?_
  refine r_callVi (rest := [.int 0, .int a1]) (T := TX9) (N := 14) X hM hS (ct_X9_aboard hst a0) hP mV_X9_87 rfl rfl rfl hl.1 (Nat.le_of_ble_eq_true rfl) ⟨⟨by decide, by decide⟩, ⟨by decide, by decide⟩⟩ dX9_order_8 (fun r1 M H locs hM hS hP => ?_)
  refine lv_iconst (v := 1) hx hb dX9_order_11 (by decide) ?_
  refine lv_isub hx hb dX9_order_12 ?_
  refine r_callSi (rest := []) X hM hS (ct_X9_in hst a1 0 (r1 - 1)) hP mS_X9_39 rfl rfl hl.1 (Nat.le_of_ble_eq_true rfl) ⟨⟨by decide, by decide⟩, ⟨by decide, by decide⟩⟩ dX9_order_13 (fun r2 M H locs hM hS hP => ?_)
  refine lv_if_ne (tgt := 25) hx hb dX9_order_16 (by decide) (fun hc => ?_) (fun hc => ?_)
  · have hP := mIf_f hP hc
    refine lv_aload_n hx hb dX9_order_25 rfl (lv_at hl 0 rfl) ?_
    refine lv_iload_n hx hb dX9_order_26 rfl (lv_at hl 1 rfl) ?_
    refine r_callVi (rest := []) (T := TX9) (N := 14) X hM hS (ct_X9_at hst a0 a1) hP mV_X9_90 rfl rfl rfl hl.1 (Nat.le_of_ble_eq_true rfl) ⟨⟨by decide, by decide⟩, ⟨by decide, by decide⟩⟩ dX9_order_27 (fun r3 M H locs hM hS hP => ?_)
    exact e_iret X hM hS (hk _ _ hP) hr hlocks (by decide) (by decide) dX9_order_30
  · have hP := mIf_t hP hc
    refine lv_aload_n hx hb dX9_order_19 rfl (lv_at hl 0 rfl) ?_
    refine lv_iconst (v := 1) hx hb dX9_order_20 (by decide) ?_
    refine r_callVi (rest := []) (T := TX9) (N := 14) X hM hS (ct_X9_no hst a0 1) hP mV_X9_126 rfl rfl rfl hl.1 (Nat.le_of_ble_eq_true rfl) ⟨⟨by decide, by decide⟩, ⟨by decide, by decide⟩⟩ dX9_order_21 (fun r4 M H locs hM hS hP => ?_)
    exact e_iret X hM hS (hk _ _ hP) hr hlocks (by decide) (by decide) dX9_order_24
def f_X9_refusal_b70 (K : Cfg) (k : Int32 → Mem → Prop) (t0 : Int32) : Mem → Prop :=
 k t0
def f_X9_refusal_b43 (K : Cfg) (k : Int32 → Mem → Prop) : Mem → Prop :=
 k 2
def f_X9_refusal (K : Cfg) (a0 : Nat) (a1 : Int32) (a2 : Int32) (a3 : Int32) (a4 : Int32) (k : Int32 → Mem → Prop) : Mem → Prop :=
 mRecv a0 10 <|
 f_X9_isJumper K a0 a1 (fun r1 =>
 mIf (r1 = 0)
 (k 1)
 (f_X9_in K a2 0 1 (fun r2 =>
 mIf (r2 = 0)
 (f_X9_refusal_b43 K k)
 (f_X9_in K a3 2 6 (fun r3 =>
 mIf (r3 = 0)
 (f_X9_refusal_b43 K k)
 (f_X9_in K a4 (-200) 200 (fun r4 =>
 mIf (r4 = 0)
 (f_X9_refusal_b43 K k)
 (mGetR a0 10 1 fun x5 =>
 mRecv x5 0 <|
 f_Jx4a65c_get_915e3 K x5 a1 (fun r6 =>
 mRecv r6 8 <|
 mGetI r6 8 2 fun x7 =>
 mIf (x7 = (-1))
 (f_X9_refusal_b70 K k 3)
 (f_X9_refusal_b70 K k 0))))))))))
abbrev rm_X9_refusal : Room := { frames := 3, cells := 0, slots := 0, locals := 64 }
set_option maxHeartbeats 4000000 in
set_option maxRecDepth 100000 in
theorem ct_X9_refusal {K : Cfg} {l : Launch} (hst : l.stackTraces = false) (a0 : Nat) (a1 : Int32) (a2 : Int32) (a3 : Int32) (a4 : Int32) : mPi K l yX9_refusal cX9_refusal 5 (some .int) rm_X9_refusal [.ref a0, .int a1, .int a2, .int a3, .int a4] (f_X9_refusal K a0 a1 a2 a3 a4) := by
  refine mPi.of hst (by decide +kernel) (Nat.le_of_ble_eq_true rfl) ?_
  intro M k Q hk hP p e s m below meth c X hr hlocks hname hM ls hl
  have hx := X.1.1
  have hb := X.1.2.1
  have X : Cx K p l s m ([.ref a0, .int a1, .int a2, .int a3, .int a4] : List Value).toArray c cX9_refusal 5 RX9 := X
  have hS : va_S (mFA K) s.heap s.heap [] := va_S.rf
  have hl : lv_has ls 5 [(0, .ref a0), (1, .int a1), (2, .int a2), (3, .int a3), (4, .int a4)] := hl
  have hb70 : ∀ (t0 : Int32) (M : Mem) (H : Heap) (locs : List Loc) (ls : Array Slot), mh K M H → va_S (mFA K) s.heap H locs → lv_has ls 5 [] → f_X9_refusal_b70 K k t0 M → W p l e rm_X9_refusal s m ([.ref a0, .int a1, .int a2, .int a3, .int a4] : List Value).toArray below meth c H locs 0 0 (MQ below (mQ K Q) ([.ref a0, .int a1, .int a2, .int a3, .int a4] : List Value).toArray s rm_X9_refusal.cells rm_X9_refusal.slots (mFA K)) (F0 m 70 ls [.int t0]) := by
    intro t0 M H locs ls hM hS hl hP
    unfold f_X9_refusal_b70 at hP
    exact e_iret X hM hS (hk _ _ hP) hr hlocks (by decide) (by decide) dX9_refusal_70
  have hb43 : ∀ (M : Mem) (H : Heap) (locs : List Loc) (ls : Array Slot), mh K M H → va_S (mFA K) s.heap H locs → lv_has ls 5 [] → f_X9_refusal_b43 K k M → W p l e rm_X9_refusal s m ([.ref a0, .int a1, .int a2, .int a3, .int a4] : List Value).toArray below meth c H locs 0 0 (MQ below (mQ K Q) ([.ref a0, .int a1, .int a2, .int a3, .int a4] : List Value).toArray s rm_X9_refusal.cells rm_X9_refusal.slots (mFA K)) (F0 m 43 ls []) := by
    intro M H locs ls hM hS hl hP
    unfold f_X9_refusal_b43 at hP
    refine lv_iconst (v := 2) hx hb dX9_refusal_43 (by decide) ?_
    exact e_iret X hM hS (hk _ _ hP) hr hlocks (by decide) (by decide) dX9_refusal_44
  unfold f_X9_refusal at hP
  refine lv_aload_n hx hb dX9_refusal_0 rfl (lv_at hl 0 rfl) ?_
  refine lv_iload_n hx hb dX9_refusal_1 rfl (lv_at hl 1 rfl) ?_
  refine r_callVi (rest := []) (T := TX9) (N := 14) X hM hS (ct_X9_isJumper hst a0 a1) hP mV_X9_142 rfl rfl rfl hl.1 (Nat.le_of_ble_eq_true rfl) ⟨⟨by decide, by decide⟩, ⟨by decide, by decide⟩⟩ dX9_refusal_2 (fun r1 M H locs hM hS hP => ?_)
  refine lv_if_ne (tgt := 10) hx hb dX9_refusal_5 (by decide) (fun hc => ?_) (fun hc => ?_)
  · have hP := mIf_f hP hc
    refine lv_iload_n hx hb dX9_refusal_10 rfl (lv_at hl 2 rfl) ?_
    refine lv_iconst (v := 0) hx hb dX9_refusal_11 (by decide) ?_
    refine lv_iconst (v := 1) hx hb dX9_refusal_12 (by decide) ?_
    refine r_callSi (rest := []) X hM hS (ct_X9_in hst a2 0 1) hP mS_X9_39 rfl rfl hl.1 (Nat.le_of_ble_eq_true rfl) ⟨⟨by decide, by decide⟩, ⟨by decide, by decide⟩⟩ dX9_refusal_13 (fun r2 M H locs hM hS hP => ?_)
    refine lv_if_eq (tgt := 43) hx hb dX9_refusal_16 (by decide) (fun hc => ?_) (fun hc => ?_)
    · have hP := mIf_t hP hc
      exact hb43 _ _ _ _ hM hS (lv_sub hl [] rfl) hP
    · have hP := mIf_f hP hc
      refine lv_iload_n hx hb dX9_refusal_19 rfl (lv_at hl 3 rfl) ?_
      refine lv_iconst (v := 2) hx hb dX9_refusal_20 (by decide) ?_
      refine lv_bipush (v := 6) hx hb dX9_refusal_21 (by decide) ?_
      refine r_callSi (rest := []) X hM hS (ct_X9_in hst a3 2 6) hP mS_X9_39 rfl rfl hl.1 (Nat.le_of_ble_eq_true rfl) ⟨⟨by decide, by decide⟩, ⟨by decide, by decide⟩⟩ dX9_refusal_23 (fun r3 M H locs hM hS hP => ?_)
      refine lv_if_eq (tgt := 43) hx hb dX9_refusal_26 (by decide) (fun hc => ?_) (fun hc => ?_)
      · have hP := mIf_t hP hc
        exact hb43 _ _ _ _ hM hS (lv_sub hl [] rfl) hP
      · have hP := mIf_f hP hc
        refine lv_iload hx hb dX9_refusal_29 (lv_at hl 4 rfl) ?_
        refine lv_sipush (v := (-200)) hx hb dX9_refusal_31 (by decide) ?_
        refine lv_sipush (v := 200) hx hb dX9_refusal_34 (by decide) ?_
        refine r_callSi (rest := []) X hM hS (ct_X9_in hst a4 (-200) 200) hP mS_X9_39 rfl rfl hl.1 (Nat.le_of_ble_eq_true rfl) ⟨⟨by decide, by decide⟩, ⟨by decide, by decide⟩⟩ dX9_refusal_37 (fun r4 M H locs hM hS hP => ?_)
        refine lv_if_ne (tgt := 45) hx hb dX9_refusal_40 (by decide) (fun hc => ?_) (fun hc => ?_)
        · have hP := mIf_f hP hc
          refine lv_aload_n hx hb dX9_refusal_45 rfl (lv_at hl 0 rfl) ?_
          refine r_getr X hM hP fl_X9_10 dX9_refusal_46 (fun x5 hP => ?_)
          refine lv_iload_n hx hb dX9_refusal_49 rfl (lv_at hl 1 rfl) ?_
          refine r_callFr (rest := []) X hM hS (ct_Jx4a65c_get_915e3 hst x5 a1) hP mF_X9_57 rfl rfl hl.1 (Nat.le_of_ble_eq_true rfl) ⟨⟨by decide, by decide⟩, ⟨by decide, by decide⟩⟩ dX9_refusal_50 (fun r6 M H locs hM hS hP => ?_)
          refine r_cast (C := RX7) (T := TX7) (N := 12) X hM hP rfl al_X9_44 dX9_refusal_55 (fun hP => ?_)
          refine r_geti X hM hP fl_X9_54 dX9_refusal_58 (fun x7 hP => ?_)
          refine lv_iconst (v := (-1)) hx hb dX9_refusal_61 (by decide) ?_
          refine lv_icmp_ne (tgt := 69) hx hb dX9_refusal_62 (by decide) (fun hc => ?_) (fun hc => ?_)
          · have hP := mIf_f hP hc
            refine lv_iconst (v := 0) hx hb dX9_refusal_69 (by decide) ?_
            exact hb70 0 _ _ _ _ hM hS (lv_sub hl [] rfl) hP
          · have hP := mIf_t hP hc
            refine lv_iconst (v := 3) hx hb dX9_refusal_65 (by decide) ?_
            refine lv_goto (tgt := 70) hx hb dX9_refusal_66 (by decide) ?_
            exact hb70 3 _ _ _ _ hM hS (lv_sub hl [] rfl) hP
        · have hP := mIf_t hP hc
          exact hb43 _ _ _ _ hM hS (lv_sub hl [] rfl) hP
  · have hP := mIf_t hP hc
    refine lv_iconst (v := 1) hx hb dX9_refusal_8 (by decide) ?_
    exact e_iret X hM hS (hk _ _ hP) hr hlocks (by decide) (by decide) dX9_refusal_9
def f_X9_wouldLand_b85 (K : Cfg) (k : UInt64 → Mem → Prop) (t0 : UInt64) : Mem → Prop :=
 k t0
def f_X9_wouldLand_b51_body (K : Cfg) (k : UInt64 → Mem → Prop) (lp51 : Int32 → Nat → Mem → Prop) (v5 : Int32) (v6 : Nat) : Mem → Prop :=
 mRecv v6 7 <|
 f_X6_isDown K v6 (fun r1 =>
 mIf (r1 = 0)
 (mRecv v6 7 <|
 f_X6_tick K v6 (
 lp51 v5 v6))
 (mIf (v5 = 0)
 (mGetD v6 7 4 fun x2 =>
 f_X9_wouldLand_b85 K k x2)
 (mGetD v6 7 5 fun x3 =>
 f_X9_wouldLand_b85 K k x3)))
def f_X9_wouldLand_b51 (K : Cfg) (k : UInt64 → Mem → Prop) : Nat → Int32 → Nat → Mem → Prop
  | 0 => fun _ _ _ => False
  | n + 1 => f_X9_wouldLand_b51_body K k (f_X9_wouldLand_b51 K k n)
def f_X9_wouldLand (K : Cfg) (a0 : Nat) (a1 : Int32) (a2 : Int32) (a3 : Int32) (a4 : Int32) (a5 : Int32) (k : UInt64 → Mem → Prop) : Mem → Prop :=
 mRecv a0 10 <|
 f_X9_refusal K a0 a1 a2 a3 a4 (fun r1 =>
 mPut a0 10 0 (.int r1) <|
 mGetI a0 10 0 fun x2 =>
 mIf (x2 ≤ 0)
 (mNew K 7 [.null, .int 0, .int 0, .float 0, .double 0, .double 0, .int 0, .int 0, .int 0, .int 0, .int 0, .int 0, .null] fun x3 =>
 mGetR a0 10 1 fun x4 =>
 mRecv x4 0 <|
 f_Jx4a65c_get_915e3 K x4 a1 (fun r5 =>
 mRecv r5 8 <|
 f_X6_init K x3 a0 r5 a2 a3 0 (FP.i2d a4) (
 f_X9_wouldLand_b51 K k mFuel a5 x3)))
 (k FP.dconst0))
abbrev rm_X9_wouldLand : Room := { frames := 5, cells := 1, slots := 13, locals := 112 }
set_option maxHeartbeats 4000000 in
set_option maxRecDepth 100000 in
theorem ct_X9_wouldLand {K : Cfg} {l : Launch} (hst : l.stackTraces = false) (a0 : Nat) (a1 : Int32) (a2 : Int32) (a3 : Int32) (a4 : Int32) (a5 : Int32) : mPd K l yX9_wouldLand cX9_wouldLand 7 (some .double) rm_X9_wouldLand [.ref a0, .int a1, .int a2, .int a3, .int a4, .int a5] (f_X9_wouldLand K a0 a1 a2 a3 a4 a5) := by
  refine mPd.of hst (by decide +kernel) (Nat.le_of_ble_eq_true rfl) ?_
  intro M k Q hk hP p e s m below meth c X hr hlocks hname hM ls hl
  have hx := X.1.1
  have hb := X.1.2.1
  have X : Cx K p l s m ([.ref a0, .int a1, .int a2, .int a3, .int a4, .int a5] : List Value).toArray c cX9_wouldLand 7 RX9 := X
  have hS : va_S (mFA K) s.heap s.heap [] := va_S.rf
  have hl : lv_has ls 7 [(0, .ref a0), (1, .int a1), (2, .int a2), (3, .int a3), (4, .int a4), (5, .int a5)] := hl
  have hb85 : ∀ (t0 : UInt64) (M : Mem) (H : Heap) (locs : List Loc) (ls : Array Slot), mh K M H → va_S (mFA K) s.heap H locs → lv_has ls 7 [] → f_X9_wouldLand_b85 K k t0 M → W p l e rm_X9_wouldLand s m ([.ref a0, .int a1, .int a2, .int a3, .int a4, .int a5] : List Value).toArray below meth c H locs 1 13 (MQ below (mQ K Q) ([.ref a0, .int a1, .int a2, .int a3, .int a4, .int a5] : List Value).toArray s rm_X9_wouldLand.cells rm_X9_wouldLand.slots (mFA K)) (F0 m 85 ls [.double t0]) := by
    intro t0 M H locs ls hM hS hl hP
    unfold f_X9_wouldLand_b85 at hP
    exact e_dret X hM hS (hk _ _ hP) hr hlocks (by decide) (by decide) dX9_wouldLand_85
  have hb51 : ∀ (n51 : Nat) (v5 : Int32) (v6 : Nat) (M : Mem) (H : Heap) (locs : List Loc) (ls : Array Slot), mh K M H → va_S (mFA K) s.heap H locs → lv_has ls 7 [(5, .int v5), (6, .ref v6)] → f_X9_wouldLand_b51 K k n51 v5 v6 M → W p l e rm_X9_wouldLand s m ([.ref a0, .int a1, .int a2, .int a3, .int a4, .int a5] : List Value).toArray below meth c H locs 1 13 (MQ below (mQ K Q) ([.ref a0, .int a1, .int a2, .int a3, .int a4, .int a5] : List Value).toArray s rm_X9_wouldLand.cells rm_X9_wouldLand.slots (mFA K)) (F0 m 51 ls []) := by
    intro n51
    induction n51 with
    | zero =>
      intro v5 v6 M H locs ls hM hS hl hP
      exact hP.elim
    | succ n51 ih51 =>
      intro v5 v6 M H locs ls hM hS hl hP
      have hP : f_X9_wouldLand_b51_body K k (f_X9_wouldLand_b51 K k n51) v5 v6 M := hP
      unfold f_X9_wouldLand_b51_body at hP
      refine lv_aload hx hb dX9_wouldLand_51 (lv_at hl 1 rfl) ?_
      refine r_callVi (rest := []) (T := TX6) (N := 13) X hM hS (ct_X6_isDown hst v6) hP mV_X9_112 rfl rfl rfl hl.1 (Nat.le_of_ble_eq_true rfl) ⟨⟨by decide, by decide⟩, ⟨by decide, by decide⟩⟩ dX9_wouldLand_53 (fun r1 M H locs hM hS hP => ?_)
      refine lv_if_ne (tgt := 67) hx hb dX9_wouldLand_56 (by decide) (fun hc => ?_) (fun hc => ?_)
      · have hP := mIf_f hP hc
        refine lv_iload hx hb dX9_wouldLand_67 (lv_at hl 0 rfl) ?_
        refine lv_if_eq (tgt := 80) hx hb dX9_wouldLand_69 (by decide) (fun hc => ?_) (fun hc => ?_)
        · have hP := mIf_t hP hc
          refine lv_aload hx hb dX9_wouldLand_80 (lv_at hl 1 rfl) ?_
          refine r_getd X hM hP fl_X9_237 dX9_wouldLand_82 (fun x2 hP => ?_)
          exact hb85 x2 _ _ _ _ hM hS (lv_sub hl [] rfl) hP
        · have hP := mIf_f hP hc
          refine lv_aload hx hb dX9_wouldLand_72 (lv_at hl 1 rfl) ?_
          refine r_getd X hM hP fl_X9_242 dX9_wouldLand_74 (fun x3 hP => ?_)
          refine lv_goto (tgt := 85) hx hb dX9_wouldLand_77 (by decide) ?_
          exact hb85 x3 _ _ _ _ hM hS (lv_sub hl [] rfl) hP
      · have hP := mIf_t hP hc
        refine lv_aload hx hb dX9_wouldLand_59 (lv_at hl 1 rfl) ?_
        refine r_callVv (rest := []) (T := TX6) (N := 13) X hM hS (ct_X6_tick hst v6) hP mV_X9_116 rfl rfl rfl hl.1 (Nat.le_of_ble_eq_true rfl) ⟨⟨by decide, by decide⟩, ⟨by decide, by decide⟩⟩ dX9_wouldLand_61 (fun M H locs hM hS hP => ?_)
        refine lv_goto (tgt := 51) hx hb dX9_wouldLand_64 (by decide) ?_
        exact ih51 v5 v6 _ _ _ _ hM hS (lv_sub hl [0, 1] rfl) hP
  unfold f_X9_wouldLand at hP
  refine lv_aload_n hx hb dX9_wouldLand_0 rfl (lv_at hl 0 rfl) ?_
  refine lv_aload_n hx hb dX9_wouldLand_1 rfl (lv_at hl 0 rfl) ?_
  refine lv_iload_n hx hb dX9_wouldLand_2 rfl (lv_at hl 1 rfl) ?_
  refine lv_iload_n hx hb dX9_wouldLand_3 rfl (lv_at hl 2 rfl) ?_
  refine lv_iload_n hx hb dX9_wouldLand_4 rfl (lv_at hl 3 rfl) ?_
  refine lv_iload hx hb dX9_wouldLand_5 (lv_at hl 4 rfl) ?_
  refine r_callVi (rest := [.ref a0]) (T := TX9) (N := 14) X hM hS (ct_X9_refusal hst a0 a1 a2 a3 a4) hP mV_X9_258 rfl rfl rfl hl.1 (Nat.le_of_ble_eq_true rfl) ⟨⟨by decide, by decide⟩, ⟨by decide, by decide⟩⟩ dX9_wouldLand_7 (fun r1 M H locs hM hS hP => ?_)
  refine r_put X hM hS hP fl_X9_30 ft_X9 rfl (tyX9_ok 0 (Nat.le_of_ble_eq_true rfl)) rfl rfl dX9_wouldLand_10 (fun M H locs hM hS hP => ?_)
  refine lv_aload_n hx hb dX9_wouldLand_13 rfl (lv_at hl 0 rfl) ?_
  refine r_geti X hM hP fl_X9_30 dX9_wouldLand_14 (fun x2 hP => ?_)
  refine lv_if_le (tgt := 22) hx hb dX9_wouldLand_17 (by decide) (fun hc => ?_) (fun hc => ?_)
  · have hP := mIf_t hP hc
    refine r_new X hM hS hP nl_X9_93 ft_X6 df_X6 ⟨by decide, by decide⟩ dX9_wouldLand_22 (fun x3 M H hM hS hP => ?_)
    refine lv_dup hx hb dX9_wouldLand_25 rfl ?_
    refine lv_aload_n hx hb dX9_wouldLand_26 rfl (lv_at hl 0 rfl) ?_
    refine lv_aload_n hx hb dX9_wouldLand_27 rfl (lv_at hl 0 rfl) ?_
    refine r_getr X hM hP fl_X9_10 dX9_wouldLand_28 (fun x4 hP => ?_)
    refine lv_iload_n hx hb dX9_wouldLand_31 rfl (lv_at hl 1 rfl) ?_
    refine r_callFr (rest := [.ref a0, .ref x3, .ref x3]) X hM hS (ct_Jx4a65c_get_915e3 hst x4 a1) hP mF_X9_57 rfl rfl hl.1 (Nat.le_of_ble_eq_true rfl) ⟨⟨by decide, by decide⟩, ⟨by decide, by decide⟩⟩ dX9_wouldLand_32 (fun r5 M H locs hM hS hP => ?_)
    refine r_cast (C := RX7) (T := TX7) (N := 12) X hM hP rfl al_X9_44 dX9_wouldLand_37 (fun hP => ?_)
    refine lv_iload_n hx hb dX9_wouldLand_40 rfl (lv_at hl 2 rfl) ?_
    refine lv_iload_n hx hb dX9_wouldLand_41 rfl (lv_at hl 3 rfl) ?_
    refine lv_iconst (v := 0) hx hb dX9_wouldLand_42 (by decide) ?_
    refine lv_iload hx hb dX9_wouldLand_43 (lv_at hl 4 rfl) ?_
    refine lv_i2d hx hb dX9_wouldLand_45 ?_
    refine r_callIv (rest := [.ref x3]) X hM hS (ct_X6_init hst x3 a0 r5 a2 a3 0 (FP.i2d a4)) hP mI_X9_100 rfl rfl hl.1 (Nat.le_of_ble_eq_true rfl) ⟨⟨by decide, by decide⟩, ⟨by decide, by decide⟩⟩ dX9_wouldLand_46 (fun M H locs hM hS hP => ?_)
    refine lv_astore (lv' := [(6, .ref x3), (0, .ref a0), (1, .int a1), (2, .int a2), (3, .int a3), (4, .int a4), (5, .int a5)]) hx hb dX9_wouldLand_49 hl (by decide) rfl (fun ls hl => ?_)
    exact hb51 mFuel a5 x3 _ _ _ _ hM hS (lv_sub hl [6, 0] rfl) hP
  · have hP := mIf_f hP hc
    refine lv_dconst0 hx hb dX9_wouldLand_20 ?_
    exact e_dret X hM hS (hk _ _ hP) hr hlocks (by decide) (by decide) dX9_wouldLand_21
def f_X9_takes_b51_body (K : Cfg) (k : Int32 → Mem → Prop) (lp51 : Nat → Int32 → Mem → Prop) (v4 : Nat) (v5 : Int32) : Mem → Prop :=
 mRecv v4 7 <|
 f_X6_isDown K v4 (fun r1 =>
 mIf (r1 = 0)
 (mRecv v4 7 <|
 f_X6_tick K v4 (
 lp51 v4 (v5 + 1)))
 (k v5))
def f_X9_takes_b51 (K : Cfg) (k : Int32 → Mem → Prop) : Nat → Nat → Int32 → Mem → Prop
  | 0 => fun _ _ _ => False
  | n + 1 => f_X9_takes_b51_body K k (f_X9_takes_b51 K k n)
def f_X9_takes (K : Cfg) (a0 : Nat) (a1 : Int32) (a2 : Int32) (a3 : Int32) (k : Int32 → Mem → Prop) : Mem → Prop :=
 mRecv a0 10 <|
 f_X9_refusal K a0 a1 a2 a3 0 (fun r1 =>
 mPut a0 10 0 (.int r1) <|
 mGetI a0 10 0 fun x2 =>
 mIf (x2 ≤ 0)
 (mNew K 7 [.null, .int 0, .int 0, .float 0, .double 0, .double 0, .int 0, .int 0, .int 0, .int 0, .int 0, .int 0, .null] fun x3 =>
 mGetR a0 10 1 fun x4 =>
 mRecv x4 0 <|
 f_Jx4a65c_get_915e3 K x4 a1 (fun r5 =>
 mRecv r5 8 <|
 f_X6_init K x3 a0 r5 a2 a3 0 FP.dconst0 (
 f_X9_takes_b51 K k mFuel x3 0)))
 (k 0))
abbrev rm_X9_takes : Room := { frames := 5, cells := 1, slots := 13, locals := 112 }
set_option maxHeartbeats 4000000 in
set_option maxRecDepth 100000 in
theorem ct_X9_takes {K : Cfg} {l : Launch} (hst : l.stackTraces = false) (a0 : Nat) (a1 : Int32) (a2 : Int32) (a3 : Int32) : mPi K l yX9_takes cX9_takes 6 (some .int) rm_X9_takes [.ref a0, .int a1, .int a2, .int a3] (f_X9_takes K a0 a1 a2 a3) := by
  refine mPi.of hst (by decide +kernel) (Nat.le_of_ble_eq_true rfl) ?_
  intro M k Q hk hP p e s m below meth c X hr hlocks hname hM ls hl
  have hx := X.1.1
  have hb := X.1.2.1
  have X : Cx K p l s m ([.ref a0, .int a1, .int a2, .int a3] : List Value).toArray c cX9_takes 6 RX9 := X
  have hS : va_S (mFA K) s.heap s.heap [] := va_S.rf
  have hl : lv_has ls 6 [(0, .ref a0), (1, .int a1), (2, .int a2), (3, .int a3)] := hl
  have hb51 : ∀ (n51 : Nat) (v4 : Nat) (v5 : Int32) (M : Mem) (H : Heap) (locs : List Loc) (ls : Array Slot), mh K M H → va_S (mFA K) s.heap H locs → lv_has ls 6 [(4, .ref v4), (5, .int v5)] → f_X9_takes_b51 K k n51 v4 v5 M → W p l e rm_X9_takes s m ([.ref a0, .int a1, .int a2, .int a3] : List Value).toArray below meth c H locs 1 13 (MQ below (mQ K Q) ([.ref a0, .int a1, .int a2, .int a3] : List Value).toArray s rm_X9_takes.cells rm_X9_takes.slots (mFA K)) (F0 m 51 ls []) := by
    intro n51
    induction n51 with
    | zero =>
      intro v4 v5 M H locs ls hM hS hl hP
      exact hP.elim
    | succ n51 ih51 =>
      intro v4 v5 M H locs ls hM hS hl hP
      have hP : f_X9_takes_b51_body K k (f_X9_takes_b51 K k n51) v4 v5 M := hP
      unfold f_X9_takes_b51_body at hP
      refine lv_aload hx hb dX9_takes_51 (lv_at hl 0 rfl) ?_
      refine r_callVi (rest := []) (T := TX6) (N := 13) X hM hS (ct_X6_isDown hst v4) hP mV_X9_112 rfl rfl rfl hl.1 (Nat.le_of_ble_eq_true rfl) ⟨⟨by decide, by decide⟩, ⟨by decide, by decide⟩⟩ dX9_takes_53 (fun r1 M H locs hM hS hP => ?_)
      refine lv_if_ne (tgt := 70) hx hb dX9_takes_56 (by decide) (fun hc => ?_) (fun hc => ?_)
      · have hP := mIf_f hP hc
        refine lv_iload hx hb dX9_takes_70 (lv_at hl 1 rfl) ?_
        exact e_iret X hM hS (hk _ _ hP) hr hlocks (by decide) (by decide) dX9_takes_72
      · have hP := mIf_t hP hc
        refine lv_aload hx hb dX9_takes_59 (lv_at hl 0 rfl) ?_
        refine r_callVv (rest := []) (T := TX6) (N := 13) X hM hS (ct_X6_tick hst v4) hP mV_X9_116 rfl rfl rfl hl.1 (Nat.le_of_ble_eq_true rfl) ⟨⟨by decide, by decide⟩, ⟨by decide, by decide⟩⟩ dX9_takes_61 (fun M H locs hM hS hP => ?_)
        refine lv_iinc (v := v5 + 1) (lv' := [(5, .int (v5 + 1)), (4, .ref v4)]) hx hb dX9_takes_64 hl (k := 1) rfl rfl (by decide) rfl (fun ls hl => ?_)
        refine lv_goto (tgt := 51) hx hb dX9_takes_67 (by decide) ?_
        exact ih51 v4 (v5 + 1) _ _ _ _ hM hS (lv_sub hl [1, 0] rfl) hP
  unfold f_X9_takes at hP
  refine lv_aload_n hx hb dX9_takes_0 rfl (lv_at hl 0 rfl) ?_
  refine lv_aload_n hx hb dX9_takes_1 rfl (lv_at hl 0 rfl) ?_
  refine lv_iload_n hx hb dX9_takes_2 rfl (lv_at hl 1 rfl) ?_
  refine lv_iload_n hx hb dX9_takes_3 rfl (lv_at hl 2 rfl) ?_
  refine lv_iload_n hx hb dX9_takes_4 rfl (lv_at hl 3 rfl) ?_
  refine lv_iconst (v := 0) hx hb dX9_takes_5 (by decide) ?_
  refine r_callVi (rest := [.ref a0]) (T := TX9) (N := 14) X hM hS (ct_X9_refusal hst a0 a1 a2 a3 0) hP mV_X9_258 rfl rfl rfl hl.1 (Nat.le_of_ble_eq_true rfl) ⟨⟨by decide, by decide⟩, ⟨by decide, by decide⟩⟩ dX9_takes_6 (fun r1 M H locs hM hS hP => ?_)
  refine r_put X hM hS hP fl_X9_30 ft_X9 rfl (tyX9_ok 0 (Nat.le_of_ble_eq_true rfl)) rfl rfl dX9_takes_9 (fun M H locs hM hS hP => ?_)
  refine lv_aload_n hx hb dX9_takes_12 rfl (lv_at hl 0 rfl) ?_
  refine r_geti X hM hP fl_X9_30 dX9_takes_13 (fun x2 hP => ?_)
  refine lv_if_le (tgt := 21) hx hb dX9_takes_16 (by decide) (fun hc => ?_) (fun hc => ?_)
  · have hP := mIf_t hP hc
    refine r_new X hM hS hP nl_X9_93 ft_X6 df_X6 ⟨by decide, by decide⟩ dX9_takes_21 (fun x3 M H hM hS hP => ?_)
    refine lv_dup hx hb dX9_takes_24 rfl ?_
    refine lv_aload_n hx hb dX9_takes_25 rfl (lv_at hl 0 rfl) ?_
    refine lv_aload_n hx hb dX9_takes_26 rfl (lv_at hl 0 rfl) ?_
    refine r_getr X hM hP fl_X9_10 dX9_takes_27 (fun x4 hP => ?_)
    refine lv_iload_n hx hb dX9_takes_30 rfl (lv_at hl 1 rfl) ?_
    refine r_callFr (rest := [.ref a0, .ref x3, .ref x3]) X hM hS (ct_Jx4a65c_get_915e3 hst x4 a1) hP mF_X9_57 rfl rfl hl.1 (Nat.le_of_ble_eq_true rfl) ⟨⟨by decide, by decide⟩, ⟨by decide, by decide⟩⟩ dX9_takes_31 (fun r5 M H locs hM hS hP => ?_)
    refine r_cast (C := RX7) (T := TX7) (N := 12) X hM hP rfl al_X9_44 dX9_takes_36 (fun hP => ?_)
    refine lv_iload_n hx hb dX9_takes_39 rfl (lv_at hl 2 rfl) ?_
    refine lv_iload_n hx hb dX9_takes_40 rfl (lv_at hl 3 rfl) ?_
    refine lv_iconst (v := 0) hx hb dX9_takes_41 (by decide) ?_
    refine lv_dconst0 hx hb dX9_takes_42 ?_
    refine r_callIv (rest := [.ref x3]) X hM hS (ct_X6_init hst x3 a0 r5 a2 a3 0 FP.dconst0) hP mI_X9_100 rfl rfl hl.1 (Nat.le_of_ble_eq_true rfl) ⟨⟨by decide, by decide⟩, ⟨by decide, by decide⟩⟩ dX9_takes_43 (fun M H locs hM hS hP => ?_)
    refine lv_astore (lv' := [(4, .ref x3), (0, .ref a0), (1, .int a1), (2, .int a2), (3, .int a3)]) hx hb dX9_takes_46 hl (by decide) rfl (fun ls hl => ?_)
    refine lv_iconst (v := 0) hx hb dX9_takes_48 (by decide) ?_
    refine lv_istore (lv' := [(5, .int 0), (4, .ref x3), (0, .ref a0), (1, .int a1), (2, .int a2), (3, .int a3)]) hx hb dX9_takes_49 hl (by decide) rfl (fun ls hl => ?_)
    exact hb51 mFuel x3 0 _ _ _ _ hM hS (lv_sub hl [1, 0] rfl) hP
  · have hP := mIf_f hP hc
    refine lv_iconst (v := 0) hx hb dX9_takes_19 (by decide) ?_
    exact e_iret X hM hS (hk _ _ hP) hr hlocks (by decide) (by decide) dX9_takes_20
def f_X9_spotNow_b75 (K : Cfg) (k : Int32 → Mem → Prop) (lp16 : Nat → Nat → Nat → Int32 → Int32 → Int32 → Int32 → Mem → Prop) (lp27 : Nat → Nat → Nat → Int32 → Int32 → Int32 → Int32 → Int32 → Mem → Prop) (u w : Nat) (v0 : Nat) (v1 : Int32) (v2 : Int32) (v3 : Int32) (v4 : Int32) (v5 : Int32) : Mem → Prop :=
 lp27 u w v0 v1 v2 v3 v4 (v5 + 2)
def f_X9_spotNow_b27_body (K : Cfg) (k : Int32 → Mem → Prop) (lp16 : Nat → Nat → Nat → Int32 → Int32 → Int32 → Int32 → Mem → Prop) (lp27 : Nat → Nat → Nat → Int32 → Int32 → Int32 → Int32 → Int32 → Mem → Prop) (u w : Nat) (v0 : Nat) (v1 : Int32) (v2 : Int32) (v3 : Int32) (v4 : Int32) (v5 : Int32) : Mem → Prop :=
 mIf (2 ≤ v5)
 (lp16 u w v0 v1 v2 v3 (v4 + 20))
 (mAs (u + 13 ≤ 440 ∧ w + 141 ≤ 4026) <|
 mRecv v0 10 <|
 f_X9_flight K v0 (v5 * v4) v1 (fun r1 =>
 mAs (u + 13 + 7 ≤ 440 ∧ w + 141 + 42 ≤ 4026) <|
 f_X9_go K r1 (fun r2 =>
 mAs (u + 13 + 7 ≤ 440 ∧ w + 141 + 42 ≤ 4026) <|
 f_X9_points K r1 (fun r3 =>
 mIf (v3 < r3)
 (mAs (u + 13 + 7 ≤ 440 ∧ w + 141 + 42 ≤ 4026) <|
 f_X9_points K r1 (fun r4 =>
 f_X9_spotNow_b75 K k lp16 lp27 (u + 13 + 7) (w + 141 + 42) v0 v1 (v5 * v4) r4 v4 v5))
 (f_X9_spotNow_b75 K k lp16 lp27 (u + 13 + 7) (w + 141 + 42) v0 v1 v2 v3 v4 v5)))))
def f_X9_spotNow_b27 (K : Cfg) (k : Int32 → Mem → Prop) (lp16 : Nat → Nat → Nat → Int32 → Int32 → Int32 → Int32 → Mem → Prop) : Nat → Nat → Nat → Nat → Int32 → Int32 → Int32 → Int32 → Int32 → Mem → Prop
  | 0 => fun _ _ _ _ _ _ _ _ _ => False
  | n + 1 => f_X9_spotNow_b27_body K k lp16 (f_X9_spotNow_b27 K k lp16 n)
def f_X9_spotNow_b16_body (K : Cfg) (k : Int32 → Mem → Prop) (lp16 : Nat → Nat → Nat → Int32 → Int32 → Int32 → Int32 → Mem → Prop) (u w : Nat) (v0 : Nat) (v1 : Int32) (v2 : Int32) (v3 : Int32) (v4 : Int32) : Mem → Prop :=
 mIf (200 < v4)
 (mAs (u ≤ 440 ∧ w ≤ 4026) <|
 k v2)
 (f_X9_spotNow_b27 K k lp16 mFuel u w v0 v1 v2 v3 v4 (-1))
def f_X9_spotNow_b16 (K : Cfg) (k : Int32 → Mem → Prop) : Nat → Nat → Nat → Nat → Int32 → Int32 → Int32 → Int32 → Mem → Prop
  | 0 => fun _ _ _ _ _ _ _ _ => False
  | n + 1 => f_X9_spotNow_b16_body K k (f_X9_spotNow_b16 K k n)
def f_X9_spotNow (K : Cfg) (a0 : Nat) (a1 : Int32) (k : Int32 → Mem → Prop) : Mem → Prop :=
 mAs (0 ≤ 440 ∧ 0 ≤ 4026) <|
 mRecv a0 10 <|
 f_X9_aboard K a0 (fun r1 =>
 mIf (r1 = 0)
 (mAs (0 ≤ 440 ∧ 0 ≤ 4026) <|
 k 0)
 (f_X9_spotNow_b16 K k mFuel 0 0 a0 a1 0 (-1) 0))
abbrev rm_X9_spotNow : Room := { frames := 8, cells := 440, slots := 4026, locals := 179 }
set_option maxHeartbeats 4000000 in
set_option maxRecDepth 100000 in
theorem ct_X9_spotNow {K : Cfg} {l : Launch} (hst : l.stackTraces = false) (a0 : Nat) (a1 : Int32) : mPi K l yX9_spotNow cX9_spotNow 7 (some .int) rm_X9_spotNow [.ref a0, .int a1] (f_X9_spotNow K a0 a1) := by
  refine mPi.of hst (by decide +kernel) (Nat.le_of_ble_eq_true rfl) ?_
  intro M k Q hk hP p e s m below meth c X hr hlocks hname hM ls hl
  have hx := X.1.1
  have hb := X.1.2.1
  have X : Cx K p l s m ([.ref a0, .int a1] : List Value).toArray c cX9_spotNow 7 RX9 := X
  have hS : va_S (mFA K) s.heap s.heap [] := va_S.rf
  have hl : lv_has ls 7 [(0, .ref a0), (1, .int a1)] := hl
  have hb16 : ∀ (n16 : Nat) (u w : Nat) (v0 : Nat) (v1 : Int32) (v2 : Int32) (v3 : Int32) (v4 : Int32) (M : Mem) (H : Heap) (locs : List Loc) (ls : Array Slot), mh K M H → va_S (mFA K) s.heap H locs → lv_has ls 7 [(0, .ref v0), (1, .int v1), (2, .int v2), (3, .int v3), (4, .int v4)] → f_X9_spotNow_b16 K k n16 u w v0 v1 v2 v3 v4 M → W p l e rm_X9_spotNow s m ([.ref a0, .int a1] : List Value).toArray below meth c H locs u w (MQ below (mQ K Q) ([.ref a0, .int a1] : List Value).toArray s rm_X9_spotNow.cells rm_X9_spotNow.slots (mFA K)) (F0 m 16 ls []) := by
    intro n16
    induction n16 with
    | zero =>
      intro u w v0 v1 v2 v3 v4 M H locs ls hM hS hl hP
      exact hP.elim
    | succ n16 ih16 =>
      have hb27 : ∀ (n27 : Nat) (u w : Nat) (v0 : Nat) (v1 : Int32) (v2 : Int32) (v3 : Int32) (v4 : Int32) (v5 : Int32) (M : Mem) (H : Heap) (locs : List Loc) (ls : Array Slot), mh K M H → va_S (mFA K) s.heap H locs → lv_has ls 7 [(0, .ref v0), (1, .int v1), (2, .int v2), (3, .int v3), (4, .int v4), (5, .int v5)] → f_X9_spotNow_b27 K k (f_X9_spotNow_b16 K k n16) n27 u w v0 v1 v2 v3 v4 v5 M → W p l e rm_X9_spotNow s m ([.ref a0, .int a1] : List Value).toArray below meth c H locs u w (MQ below (mQ K Q) ([.ref a0, .int a1] : List Value).toArray s rm_X9_spotNow.cells rm_X9_spotNow.slots (mFA K)) (F0 m 27 ls []) := by
        intro n27
        induction n27 with
        | zero =>
          intro u w v0 v1 v2 v3 v4 v5 M H locs ls hM hS hl hP
          exact hP.elim
        | succ n27 ih27 =>
          have hb75 : ∀ (u w : Nat) (v0 : Nat) (v1 : Int32) (v2 : Int32) (v3 : Int32) (v4 : Int32) (v5 : Int32) (M : Mem) (H : Heap) (locs : List Loc) (ls : Array Slot), mh K M H → va_S (mFA K) s.heap H locs → lv_has ls 7 [(0, .ref v0), (1, .int v1), (2, .int v2), (3, .int v3), (4, .int v4), (5, .int v5)] → f_X9_spotNow_b75 K k (f_X9_spotNow_b16 K k n16) (f_X9_spotNow_b27 K k (f_X9_spotNow_b16 K k n16) n27) u w v0 v1 v2 v3 v4 v5 M → W p l e rm_X9_spotNow s m ([.ref a0, .int a1] : List Value).toArray below meth c H locs u w (MQ below (mQ K Q) ([.ref a0, .int a1] : List Value).toArray s rm_X9_spotNow.cells rm_X9_spotNow.slots (mFA K)) (F0 m 75 ls []) := by
            intro u w v0 v1 v2 v3 v4 v5 M H locs ls hM hS hl hP
            unfold f_X9_spotNow_b75 at hP
            refine lv_iinc (v := v5 + 2) (lv' := [(5, .int (v5 + 2)), (0, .ref v0), (1, .int v1), (2, .int v2), (3, .int v3), (4, .int v4)]) hx hb dX9_spotNow_75 hl (k := 5) rfl rfl (by decide) rfl (fun ls hl => ?_)
            refine lv_goto (tgt := 27) hx hb dX9_spotNow_78 (by decide) ?_
            exact ih27 u w v0 v1 v2 v3 v4 (v5 + 2) _ _ _ _ hM hS (lv_sub hl [1, 2, 3, 4, 5, 0] rfl) hP
          intro u w v0 v1 v2 v3 v4 v5 M H locs ls hM hS hl hP
          have hP : f_X9_spotNow_b27_body K k (f_X9_spotNow_b16 K k n16) (f_X9_spotNow_b27 K k (f_X9_spotNow_b16 K k n16) n27) u w v0 v1 v2 v3 v4 v5 M := hP
          unfold f_X9_spotNow_b27_body at hP
          refine lv_iload hx hb dX9_spotNow_27 (lv_at hl 5 rfl) ?_
          refine lv_iconst (v := 2) hx hb dX9_spotNow_29 (by decide) ?_
          refine lv_icmp_ge (tgt := 81) hx hb dX9_spotNow_30 (by decide) (fun hc => ?_) (fun hc => ?_)
          · have hP := mIf_t hP hc
            refine lv_iinc (v := v4 + 20) (lv' := [(4, .int (v4 + 20)), (0, .ref v0), (1, .int v1), (2, .int v2), (3, .int v3), (5, .int v5)]) hx hb dX9_spotNow_81 hl (k := 4) rfl rfl (by decide) rfl (fun ls hl => ?_)
            refine lv_goto (tgt := 16) hx hb dX9_spotNow_84 (by decide) ?_
            exact ih16 u w v0 v1 v2 v3 (v4 + 20) _ _ _ _ hM hS (lv_sub hl [1, 2, 3, 4, 0] rfl) hP
          · have hP := mIf_f hP hc
            refine lv_aload_n hx hb dX9_spotNow_33 rfl (lv_at hl 0 rfl) ?_
            refine lv_iload hx hb dX9_spotNow_34 (lv_at hl 5 rfl) ?_
            refine lv_iload hx hb dX9_spotNow_36 (lv_at hl 4 rfl) ?_
            refine lv_imul hx hb dX9_spotNow_38 ?_
            refine lv_iload_n hx hb dX9_spotNow_39 rfl (lv_at hl 1 rfl) ?_
            obtain ⟨hcs, hP⟩ := hP
            refine r_callVr (rest := []) (T := TX9) (N := 14) X hM hS (ct_X9_flight hst v0 (v5 * v4) v1) hP mV_X9_185 rfl rfl rfl hl.1 (Nat.le_of_ble_eq_true rfl) ⟨⟨by decide, by decide⟩, hcs⟩ dX9_spotNow_40 (fun r1 M H locs hM hS hP => ?_)
            refine lv_astore (lv' := [(6, .ref r1), (0, .ref v0), (1, .int v1), (2, .int v2), (3, .int v3), (4, .int v4), (5, .int v5)]) hx hb dX9_spotNow_43 hl (by decide) rfl (fun ls hl => ?_)
            refine lv_aload hx hb dX9_spotNow_45 (lv_at hl 0 rfl) ?_
            obtain ⟨hcs, hP⟩ := hP
            refine r_callSi (rest := []) X hM hS (ct_X9_go hst r1) hP mS_X9_203 rfl rfl hl.1 (Nat.le_of_ble_eq_true rfl) ⟨⟨by decide, by decide⟩, hcs⟩ dX9_spotNow_47 (fun r2 M H locs hM hS hP => ?_)
            refine lv_pop hx hb dX9_spotNow_50 rfl ?_
            refine lv_aload hx hb dX9_spotNow_51 (lv_at hl 0 rfl) ?_
            obtain ⟨hcs, hP⟩ := hP
            refine r_callSi (rest := []) X hM hS (ct_X9_points hst r1) hP mS_X9_214 rfl rfl hl.1 (Nat.le_of_ble_eq_true rfl) ⟨⟨by decide, by decide⟩, hcs⟩ dX9_spotNow_53 (fun r3 M H locs hM hS hP => ?_)
            refine lv_iload_n hx hb dX9_spotNow_56 rfl (lv_at hl 4 rfl) ?_
            refine lv_icmp_gt (tgt := 63) hx hb dX9_spotNow_57 (by decide) (fun hc => ?_) (fun hc => ?_)
            · have hP := mIf_t hP hc
              refine lv_aload hx hb dX9_spotNow_63 (lv_at hl 0 rfl) ?_
              obtain ⟨hcs, hP⟩ := hP
              refine r_callSi (rest := []) X hM hS (ct_X9_points hst r1) hP mS_X9_214 rfl rfl hl.1 (Nat.le_of_ble_eq_true rfl) ⟨⟨by decide, by decide⟩, hcs⟩ dX9_spotNow_65 (fun r4 M H locs hM hS hP => ?_)
              refine lv_istore_n (lv' := [(3, .int r4), (6, .ref r1), (0, .ref v0), (1, .int v1), (2, .int v2), (4, .int v4), (5, .int v5)]) hx hb dX9_spotNow_68 rfl hl (by decide) rfl (fun ls hl => ?_)
              refine lv_iload hx hb dX9_spotNow_69 (lv_at hl 6 rfl) ?_
              refine lv_iload hx hb dX9_spotNow_71 (lv_at hl 5 rfl) ?_
              refine lv_imul hx hb dX9_spotNow_73 ?_
              refine lv_istore_n (lv' := [(2, .int (v5 * v4)), (3, .int r4), (6, .ref r1), (0, .ref v0), (1, .int v1), (4, .int v4), (5, .int v5)]) hx hb dX9_spotNow_74 rfl hl (by decide) rfl (fun ls hl => ?_)
              exact hb75 (u + 13 + 7) (w + 141 + 42) v0 v1 (v5 * v4) r4 v4 v5 _ _ _ _ hM hS (lv_sub hl [3, 4, 0, 1, 5, 6] rfl) hP
            · have hP := mIf_f hP hc
              refine lv_goto (tgt := 75) hx hb dX9_spotNow_60 (by decide) ?_
              exact hb75 (u + 13 + 7) (w + 141 + 42) v0 v1 v2 v3 v4 v5 _ _ _ _ hM hS (lv_sub hl [1, 2, 3, 4, 5, 6] rfl) hP
      intro u w v0 v1 v2 v3 v4 M H locs ls hM hS hl hP
      have hP : f_X9_spotNow_b16_body K k (f_X9_spotNow_b16 K k n16) u w v0 v1 v2 v3 v4 M := hP
      unfold f_X9_spotNow_b16_body at hP
      refine lv_iload hx hb dX9_spotNow_16 (lv_at hl 4 rfl) ?_
      refine lv_sipush (v := 200) hx hb dX9_spotNow_18 (by decide) ?_
      refine lv_icmp_gt (tgt := 87) hx hb dX9_spotNow_21 (by decide) (fun hc => ?_) (fun hc => ?_)
      · have hP := mIf_t hP hc
        refine lv_iload_n hx hb dX9_spotNow_87 rfl (lv_at hl 2 rfl) ?_
        obtain ⟨⟨h97, h98⟩, hP⟩ := hP
        exact e_iret X hM hS (hk _ _ hP) hr hlocks h97 h98 dX9_spotNow_88
      · have hP := mIf_f hP hc
        refine lv_iconst (v := (-1)) hx hb dX9_spotNow_24 (by decide) ?_
        refine lv_istore (lv' := [(5, .int (-1)), (0, .ref v0), (1, .int v1), (2, .int v2), (3, .int v3), (4, .int v4)]) hx hb dX9_spotNow_25 hl (by decide) rfl (fun ls hl => ?_)
        exact hb27 mFuel u w v0 v1 v2 v3 v4 (-1) _ _ _ _ hM hS (lv_sub hl [1, 2, 3, 4, 5, 0] rfl) hP
  unfold f_X9_spotNow at hP
  refine lv_aload_n hx hb dX9_spotNow_0 rfl (lv_at hl 0 rfl) ?_
  obtain ⟨hcs, hP⟩ := hP
  refine r_callVi (rest := []) (T := TX9) (N := 14) X hM hS (ct_X9_aboard hst a0) hP mV_X9_87 rfl rfl rfl hl.1 (Nat.le_of_ble_eq_true rfl) ⟨⟨by decide, by decide⟩, hcs⟩ dX9_spotNow_1 (fun r1 M H locs hM hS hP => ?_)
  refine lv_if_ne (tgt := 9) hx hb dX9_spotNow_4 (by decide) (fun hc => ?_) (fun hc => ?_)
  · have hP := mIf_f hP hc
    refine lv_iconst (v := 0) hx hb dX9_spotNow_9 (by decide) ?_
    refine lv_istore_n (lv' := [(2, .int 0), (0, .ref a0), (1, .int a1)]) hx hb dX9_spotNow_10 rfl hl (by decide) rfl (fun ls hl => ?_)
    refine lv_iconst (v := (-1)) hx hb dX9_spotNow_11 (by decide) ?_
    refine lv_istore_n (lv' := [(3, .int (-1)), (2, .int 0), (0, .ref a0), (1, .int a1)]) hx hb dX9_spotNow_12 rfl hl (by decide) rfl (fun ls hl => ?_)
    refine lv_iconst (v := 0) hx hb dX9_spotNow_13 (by decide) ?_
    refine lv_istore (lv' := [(4, .int 0), (3, .int (-1)), (2, .int 0), (0, .ref a0), (1, .int a1)]) hx hb dX9_spotNow_14 hl (by decide) rfl (fun ls hl => ?_)
    exact hb16 mFuel 0 0 a0 a1 0 (-1) 0 _ _ _ _ hM hS (lv_sub hl [3, 4, 2, 1, 0] rfl) hP
  · have hP := mIf_t hP hc
    refine lv_iconst (v := 0) hx hb dX9_spotNow_7 (by decide) ?_
    obtain ⟨⟨h97, h98⟩, hP⟩ := hP
    exact e_iret X hM hS (hk _ _ hP) hr hlocks h97 h98 dX9_spotNow_8
def f_X9_spot (K : Cfg) (a0 : Nat) (a1 : Int32) (k : Int32 → Mem → Prop) : Mem → Prop :=
 mPut a0 10 0 (.int 0) <|
 f_X9_in K a1 1 9 (fun r1 =>
 mIf (r1 = 0)
 (mRecv a0 10 <|
 f_X9_no K a0 1 (fun r3 =>
 k r3))
 (mRecv a0 10 <|
 f_X9_spotNow K a0 a1 (fun r2 =>
 k r2)))
abbrev rm_X9_spot : Room := { frames := 9, cells := 440, slots := 4026, locals := 205 }
set_option maxHeartbeats 4000000 in
set_option maxRecDepth 100000 in
theorem ct_X9_spot {K : Cfg} {l : Launch} (hst : l.stackTraces = false) (a0 : Nat) (a1 : Int32) : mPi K l yX9_spot cX9_spot 2 (some .int) rm_X9_spot [.ref a0, .int a1] (f_X9_spot K a0 a1) := by
  refine mPi.of hst (by decide +kernel) (Nat.le_of_ble_eq_true rfl) ?_
  intro M k Q hk hP p e s m below meth c X hr hlocks hname hM ls hl
  have hx := X.1.1
  have hb := X.1.2.1
  have X : Cx K p l s m ([.ref a0, .int a1] : List Value).toArray c cX9_spot 2 RX9 := X
  have hS : va_S (mFA K) s.heap s.heap [] := va_S.rf
  have hl : lv_has ls 2 [(0, .ref a0), (1, .int a1)] := hl
  unfold f_X9_spot at hP
  refine lv_aload_n hx hb dX9_spot_0 rfl (lv_at hl 0 rfl) ?_
  refine lv_iconst (v := 0) hx hb dX9_spot_1 (by decide) ?_
  refine r_put X hM hS hP fl_X9_30 ft_X9 rfl (tyX9_ok 0 (Nat.le_of_ble_eq_true rfl)) rfl rfl dX9_spot_2 (fun M H locs hM hS hP => ?_)
  refine lv_iload_n hx hb dX9_spot_5 rfl (lv_at hl 1 rfl) ?_
  refine lv_iconst (v := 1) hx hb dX9_spot_6 (by decide) ?_
  refine lv_bipush (v := 9) hx hb dX9_spot_7 (by decide) ?_
  refine r_callSi (rest := []) X hM hS (ct_X9_in hst a1 1 9) hP mS_X9_39 rfl rfl hl.1 (Nat.le_of_ble_eq_true rfl) ⟨⟨by decide, by decide⟩, ⟨by decide, by decide⟩⟩ dX9_spot_9 (fun r1 M H locs hM hS hP => ?_)
  refine lv_if_ne (tgt := 21) hx hb dX9_spot_12 (by decide) (fun hc => ?_) (fun hc => ?_)
  · have hP := mIf_f hP hc
    refine lv_aload_n hx hb dX9_spot_21 rfl (lv_at hl 0 rfl) ?_
    refine lv_iload_n hx hb dX9_spot_22 rfl (lv_at hl 1 rfl) ?_
    refine r_callVi (rest := []) (T := TX9) (N := 14) X hM hS (ct_X9_spotNow hst a0 a1) hP mV_X9_262 rfl rfl rfl hl.1 (Nat.le_of_ble_eq_true rfl) ⟨⟨by decide, by decide⟩, ⟨by decide, by decide⟩⟩ dX9_spot_23 (fun r2 M H locs hM hS hP => ?_)
    exact e_iret X hM hS (hk _ _ hP) hr hlocks (by decide) (by decide) dX9_spot_26
  · have hP := mIf_t hP hc
    refine lv_aload_n hx hb dX9_spot_15 rfl (lv_at hl 0 rfl) ?_
    refine lv_iconst (v := 1) hx hb dX9_spot_16 (by decide) ?_
    refine r_callVi (rest := []) (T := TX9) (N := 14) X hM hS (ct_X9_no hst a0 1) hP mV_X9_126 rfl rfl rfl hl.1 (Nat.le_of_ble_eq_true rfl) ⟨⟨by decide, by decide⟩, ⟨by decide, by decide⟩⟩ dX9_spot_17 (fun r3 M H locs hM hS hP => ?_)
    exact e_iret X hM hS (hk _ _ hP) hr hlocks (by decide) (by decide) dX9_spot_20
def f_X9_wouldMeet_b28 (K : Cfg) (k : Int32 → Mem → Prop) (v0 : Nat) : Mem → Prop :=
 mRecv v0 10 <|
 f_X9_no K v0 1 (fun r1 =>
 k r1)
def f_X9_wouldMeet (K : Cfg) (a0 : Nat) (a1 : Int32) (a2 : Int32) (k : Int32 → Mem → Prop) : Mem → Prop :=
 mPut a0 10 0 (.int 0) <|
 f_X9_in K a1 1 9 (fun r1 =>
 mIf (r1 = 0)
 (f_X9_wouldMeet_b28 K k a0)
 (f_X9_in K a2 (-200) 200 (fun r2 =>
 mIf (r2 = 0)
 (f_X9_wouldMeet_b28 K k a0)
 (mRecv a0 10 <|
 f_X9_flight K a0 a2 a1 (fun r3 =>
 f_X9_go K r3 (fun r4 =>
 k r4))))))
abbrev rm_X9_wouldMeet : Room := { frames := 8, cells := 20, slots := 183, locals := 179 }
set_option maxHeartbeats 4000000 in
set_option maxRecDepth 100000 in
theorem ct_X9_wouldMeet {K : Cfg} {l : Launch} (hst : l.stackTraces = false) (a0 : Nat) (a1 : Int32) (a2 : Int32) : mPi K l yX9_wouldMeet cX9_wouldMeet 3 (some .int) rm_X9_wouldMeet [.ref a0, .int a1, .int a2] (f_X9_wouldMeet K a0 a1 a2) := by
  refine mPi.of hst (by decide +kernel) (Nat.le_of_ble_eq_true rfl) ?_
  intro M k Q hk hP p e s m below meth c X hr hlocks hname hM ls hl
  have hx := X.1.1
  have hb := X.1.2.1
  have X : Cx K p l s m ([.ref a0, .int a1, .int a2] : List Value).toArray c cX9_wouldMeet 3 RX9 := X
  have hS : va_S (mFA K) s.heap s.heap [] := va_S.rf
  have hl : lv_has ls 3 [(0, .ref a0), (1, .int a1), (2, .int a2)] := hl
  have hb28 : ∀ (v0 : Nat) (M : Mem) (H : Heap) (locs : List Loc) (ls : Array Slot), mh K M H → va_S (mFA K) s.heap H locs → lv_has ls 3 [(0, .ref v0)] → f_X9_wouldMeet_b28 K k v0 M → W p l e rm_X9_wouldMeet s m ([.ref a0, .int a1, .int a2] : List Value).toArray below meth c H locs 0 0 (MQ below (mQ K Q) ([.ref a0, .int a1, .int a2] : List Value).toArray s rm_X9_wouldMeet.cells rm_X9_wouldMeet.slots (mFA K)) (F0 m 28 ls []) := by
    intro v0 M H locs ls hM hS hl hP
    unfold f_X9_wouldMeet_b28 at hP
    refine lv_aload_n hx hb dX9_wouldMeet_28 rfl (lv_at hl 0 rfl) ?_
    refine lv_iconst (v := 1) hx hb dX9_wouldMeet_29 (by decide) ?_
    refine r_callVi (rest := []) (T := TX9) (N := 14) X hM hS (ct_X9_no hst v0 1) hP mV_X9_126 rfl rfl rfl hl.1 (Nat.le_of_ble_eq_true rfl) ⟨⟨by decide, by decide⟩, ⟨by decide, by decide⟩⟩ dX9_wouldMeet_30 (fun r1 M H locs hM hS hP => ?_)
    exact e_iret X hM hS (hk _ _ hP) hr hlocks (by decide) (by decide) dX9_wouldMeet_33
  unfold f_X9_wouldMeet at hP
  refine lv_aload_n hx hb dX9_wouldMeet_0 rfl (lv_at hl 0 rfl) ?_
  refine lv_iconst (v := 0) hx hb dX9_wouldMeet_1 (by decide) ?_
  refine r_put X hM hS hP fl_X9_30 ft_X9 rfl (tyX9_ok 0 (Nat.le_of_ble_eq_true rfl)) rfl rfl dX9_wouldMeet_2 (fun M H locs hM hS hP => ?_)
  refine lv_iload_n hx hb dX9_wouldMeet_5 rfl (lv_at hl 1 rfl) ?_
  refine lv_iconst (v := 1) hx hb dX9_wouldMeet_6 (by decide) ?_
  refine lv_bipush (v := 9) hx hb dX9_wouldMeet_7 (by decide) ?_
  refine r_callSi (rest := []) X hM hS (ct_X9_in hst a1 1 9) hP mS_X9_39 rfl rfl hl.1 (Nat.le_of_ble_eq_true rfl) ⟨⟨by decide, by decide⟩, ⟨by decide, by decide⟩⟩ dX9_wouldMeet_9 (fun r1 M H locs hM hS hP => ?_)
  refine lv_if_eq (tgt := 28) hx hb dX9_wouldMeet_12 (by decide) (fun hc => ?_) (fun hc => ?_)
  · have hP := mIf_t hP hc
    exact hb28 a0 _ _ _ _ hM hS (lv_sub hl [0] rfl) hP
  · have hP := mIf_f hP hc
    refine lv_iload_n hx hb dX9_wouldMeet_15 rfl (lv_at hl 2 rfl) ?_
    refine lv_sipush (v := (-200)) hx hb dX9_wouldMeet_16 (by decide) ?_
    refine lv_sipush (v := 200) hx hb dX9_wouldMeet_19 (by decide) ?_
    refine r_callSi (rest := []) X hM hS (ct_X9_in hst a2 (-200) 200) hP mS_X9_39 rfl rfl hl.1 (Nat.le_of_ble_eq_true rfl) ⟨⟨by decide, by decide⟩, ⟨by decide, by decide⟩⟩ dX9_wouldMeet_22 (fun r2 M H locs hM hS hP => ?_)
    refine lv_if_ne (tgt := 34) hx hb dX9_wouldMeet_25 (by decide) (fun hc => ?_) (fun hc => ?_)
    · have hP := mIf_f hP hc
      refine lv_aload_n hx hb dX9_wouldMeet_34 rfl (lv_at hl 0 rfl) ?_
      refine lv_iload_n hx hb dX9_wouldMeet_35 rfl (lv_at hl 2 rfl) ?_
      refine lv_iload_n hx hb dX9_wouldMeet_36 rfl (lv_at hl 1 rfl) ?_
      refine r_callVr (rest := []) (T := TX9) (N := 14) X hM hS (ct_X9_flight hst a0 a2 a1) hP mV_X9_185 rfl rfl rfl hl.1 (Nat.le_of_ble_eq_true rfl) ⟨⟨by decide, by decide⟩, ⟨by decide, by decide⟩⟩ dX9_wouldMeet_37 (fun r3 M H locs hM hS hP => ?_)
      refine r_callSi (rest := []) X hM hS (ct_X9_go hst r3) hP mS_X9_203 rfl rfl hl.1 (Nat.le_of_ble_eq_true rfl) ⟨⟨by decide, by decide⟩, ⟨by decide, by decide⟩⟩ dX9_wouldMeet_40 (fun r4 M H locs hM hS hP => ?_)
      exact e_iret X hM hS (hk _ _ hP) hr hlocks (by decide) (by decide) dX9_wouldMeet_43
    · have hP := mIf_t hP hc
      exact hb28 a0 _ _ _ _ hM hS (lv_sub hl [0] rfl) hP
def f_X9_bestNow_b130 (K : Cfg) (k : Int32 → Mem → Prop) (lp19 : Nat → Int32 → Nat → Int32 → Int32 → Mem → Prop) (v0 : Nat) (v1 : Int32) (v2 : Nat) (v3 : Int32) (v4 : Int32) : Mem → Prop :=
 lp19 v0 v1 v2 v3 (v4 + 1)
def f_X9_bestNow_b127 (K : Cfg) (k : Int32 → Mem → Prop) (lp19 : Nat → Int32 → Nat → Int32 → Int32 → Mem → Prop) (v0 : Nat) (v1 : Int32) (v2 : Nat) (v4 : Int32) : Mem → Prop :=
 f_X9_bestNow_b130 K k lp19 v0 v1 v2 v4 v4
def f_X9_bestNow_b53 (K : Cfg) (k : Int32 → Mem → Prop) (lp19 : Nat → Int32 → Nat → Int32 → Int32 → Mem → Prop) (v0 : Nat) (v1 : Int32) (v2 : Nat) (v3 : Int32) (v4 : Int32) : Mem → Prop :=
 mGetR v0 10 2 fun x1 =>
 mRecv x1 0 <|
 f_Jx4a65c_get_915e3 K x1 v4 (fun r2 =>
 mRecv r2 9 <|
 f_X9_loading K v2 r2 (fun r3 =>
 mRecv v0 10 <|
 f_X9_most K v0 v2 (fun r4 =>
 mIf ((Op.cmpValue (FP.fcmp r3 r4) .l) ≤ 0)
 (mIf (v3 = (-1))
 (f_X9_bestNow_b127 K k lp19 v0 v1 v2 v4)
 (mGetR v0 10 2 fun x5 =>
 mRecv x5 0 <|
 f_Jx4a65c_get_915e3 K x5 v4 (fun r6 =>
 mRecv r6 9 <|
 f_X9_loading K v2 r6 (fun r7 =>
 mGetR v0 10 2 fun x8 =>
 mRecv x8 0 <|
 f_Jx4a65c_get_915e3 K x8 v3 (fun r9 =>
 mRecv r9 9 <|
 f_X9_loading K v2 r9 (fun r10 =>
 mIf ((Op.cmpValue (FP.fcmp r7 r10) .l) ≤ 0)
 (f_X9_bestNow_b130 K k lp19 v0 v1 v2 v3 v4)
 (f_X9_bestNow_b127 K k lp19 v0 v1 v2 v4)))))))
 (f_X9_bestNow_b130 K k lp19 v0 v1 v2 v3 v4))))
def f_X9_bestNow_b19_body (K : Cfg) (k : Int32 → Mem → Prop) (lp19 : Nat → Int32 → Nat → Int32 → Int32 → Mem → Prop) (v0 : Nat) (v1 : Int32) (v2 : Nat) (v3 : Int32) (v4 : Int32) : Mem → Prop :=
 mGetR v0 10 2 fun x1 =>
 mRecv x1 0 <|
 f_Jx4a65c_size_8abf5 K x1 (fun r2 =>
 mIf (r2 ≤ v4)
 (k v3)
 (mRecv v0 10 <|
 f_X9_holder K v0 v4 (fun r3 =>
 mIf (r3 = (-1))
 (f_X9_bestNow_b53 K k lp19 v0 v1 v2 v3 v4)
 (mRecv v0 10 <|
 f_X9_holder K v0 v4 (fun r4 =>
 mIf (r4 = v1)
 (f_X9_bestNow_b53 K k lp19 v0 v1 v2 v3 v4)
 (f_X9_bestNow_b130 K k lp19 v0 v1 v2 v3 v4))))))
def f_X9_bestNow_b19 (K : Cfg) (k : Int32 → Mem → Prop) : Nat → Nat → Int32 → Nat → Int32 → Int32 → Mem → Prop
  | 0 => fun _ _ _ _ _ _ => False
  | n + 1 => f_X9_bestNow_b19_body K k (f_X9_bestNow_b19 K k n)
def f_X9_bestNow (K : Cfg) (a0 : Nat) (a1 : Int32) (k : Int32 → Mem → Prop) : Mem → Prop :=
 mGetR a0 10 1 fun x1 =>
 mRecv x1 0 <|
 f_Jx4a65c_get_915e3 K x1 a1 (fun r2 =>
 mRecv r2 8 <|
 f_X9_bestNow_b19 K k mFuel a0 a1 r2 (-1) 0)
abbrev rm_X9_bestNow : Room := { frames := 4, cells := 0, slots := 0, locals := 86 }
set_option maxHeartbeats 4000000 in
set_option maxRecDepth 100000 in
theorem ct_X9_bestNow {K : Cfg} {l : Launch} (hst : l.stackTraces = false) (a0 : Nat) (a1 : Int32) : mPi K l yX9_bestNow cX9_bestNow 5 (some .int) rm_X9_bestNow [.ref a0, .int a1] (f_X9_bestNow K a0 a1) := by
  refine mPi.of hst (by decide +kernel) (Nat.le_of_ble_eq_true rfl) ?_
  intro M k Q hk hP p e s m below meth c X hr hlocks hname hM ls hl
  have hx := X.1.1
  have hb := X.1.2.1
  have X : Cx K p l s m ([.ref a0, .int a1] : List Value).toArray c cX9_bestNow 5 RX9 := X
  have hS : va_S (mFA K) s.heap s.heap [] := va_S.rf
  have hl : lv_has ls 5 [(0, .ref a0), (1, .int a1)] := hl
  have hb19 : ∀ (n19 : Nat) (v0 : Nat) (v1 : Int32) (v2 : Nat) (v3 : Int32) (v4 : Int32) (M : Mem) (H : Heap) (locs : List Loc) (ls : Array Slot), mh K M H → va_S (mFA K) s.heap H locs → lv_has ls 5 [(0, .ref v0), (1, .int v1), (2, .ref v2), (3, .int v3), (4, .int v4)] → f_X9_bestNow_b19 K k n19 v0 v1 v2 v3 v4 M → W p l e rm_X9_bestNow s m ([.ref a0, .int a1] : List Value).toArray below meth c H locs 0 0 (MQ below (mQ K Q) ([.ref a0, .int a1] : List Value).toArray s rm_X9_bestNow.cells rm_X9_bestNow.slots (mFA K)) (F0 m 19 ls []) := by
    intro n19
    induction n19 with
    | zero =>
      intro v0 v1 v2 v3 v4 M H locs ls hM hS hl hP
      exact hP.elim
    | succ n19 ih19 =>
      have hb130 : ∀ (v0 : Nat) (v1 : Int32) (v2 : Nat) (v3 : Int32) (v4 : Int32) (M : Mem) (H : Heap) (locs : List Loc) (ls : Array Slot), mh K M H → va_S (mFA K) s.heap H locs → lv_has ls 5 [(0, .ref v0), (1, .int v1), (2, .ref v2), (3, .int v3), (4, .int v4)] → f_X9_bestNow_b130 K k (f_X9_bestNow_b19 K k n19) v0 v1 v2 v3 v4 M → W p l e rm_X9_bestNow s m ([.ref a0, .int a1] : List Value).toArray below meth c H locs 0 0 (MQ below (mQ K Q) ([.ref a0, .int a1] : List Value).toArray s rm_X9_bestNow.cells rm_X9_bestNow.slots (mFA K)) (F0 m 130 ls []) := by
        intro v0 v1 v2 v3 v4 M H locs ls hM hS hl hP
        unfold f_X9_bestNow_b130 at hP
        refine lv_iinc (v := v4 + 1) (lv' := [(4, .int (v4 + 1)), (0, .ref v0), (1, .int v1), (2, .ref v2), (3, .int v3)]) hx hb dX9_bestNow_130 hl (k := 4) rfl rfl (by decide) rfl (fun ls hl => ?_)
        refine lv_goto (tgt := 19) hx hb dX9_bestNow_133 (by decide) ?_
        exact ih19 v0 v1 v2 v3 (v4 + 1) _ _ _ _ hM hS (lv_sub hl [1, 2, 3, 4, 0] rfl) hP
      have hb127 : ∀ (v0 : Nat) (v1 : Int32) (v2 : Nat) (v4 : Int32) (M : Mem) (H : Heap) (locs : List Loc) (ls : Array Slot), mh K M H → va_S (mFA K) s.heap H locs → lv_has ls 5 [(0, .ref v0), (1, .int v1), (2, .ref v2), (4, .int v4)] → f_X9_bestNow_b127 K k (f_X9_bestNow_b19 K k n19) v0 v1 v2 v4 M → W p l e rm_X9_bestNow s m ([.ref a0, .int a1] : List Value).toArray below meth c H locs 0 0 (MQ below (mQ K Q) ([.ref a0, .int a1] : List Value).toArray s rm_X9_bestNow.cells rm_X9_bestNow.slots (mFA K)) (F0 m 127 ls []) := by
        intro v0 v1 v2 v4 M H locs ls hM hS hl hP
        unfold f_X9_bestNow_b127 at hP
        refine lv_iload hx hb dX9_bestNow_127 (lv_at hl 3 rfl) ?_
        refine lv_istore_n (lv' := [(3, .int v4), (0, .ref v0), (1, .int v1), (2, .ref v2), (4, .int v4)]) hx hb dX9_bestNow_129 rfl hl (by decide) rfl (fun ls hl => ?_)
        exact hb130 v0 v1 v2 v4 v4 _ _ _ _ hM hS (lv_sub hl [1, 2, 3, 0, 4] rfl) hP
      have hb53 : ∀ (v0 : Nat) (v1 : Int32) (v2 : Nat) (v3 : Int32) (v4 : Int32) (M : Mem) (H : Heap) (locs : List Loc) (ls : Array Slot), mh K M H → va_S (mFA K) s.heap H locs → lv_has ls 5 [(0, .ref v0), (1, .int v1), (2, .ref v2), (3, .int v3), (4, .int v4)] → f_X9_bestNow_b53 K k (f_X9_bestNow_b19 K k n19) v0 v1 v2 v3 v4 M → W p l e rm_X9_bestNow s m ([.ref a0, .int a1] : List Value).toArray below meth c H locs 0 0 (MQ below (mQ K Q) ([.ref a0, .int a1] : List Value).toArray s rm_X9_bestNow.cells rm_X9_bestNow.slots (mFA K)) (F0 m 53 ls []) := by
        intro v0 v1 v2 v3 v4 M H locs ls hM hS hl hP
        unfold f_X9_bestNow_b53 at hP
        refine lv_aload_n hx hb dX9_bestNow_53 rfl (lv_at hl 2 rfl) ?_
        refine lv_aload_n hx hb dX9_bestNow_54 rfl (lv_at hl 0 rfl) ?_
        refine r_getr X hM hP fl_X9_16 dX9_bestNow_55 (fun x1 hP => ?_)
        refine lv_iload hx hb dX9_bestNow_58 (lv_at hl 4 rfl) ?_
        refine r_callFr (rest := [.ref v2]) X hM hS (ct_Jx4a65c_get_915e3 hst x1 v4) hP mF_X9_57 rfl rfl hl.1 (Nat.le_of_ble_eq_true rfl) ⟨⟨by decide, by decide⟩, ⟨by decide, by decide⟩⟩ dX9_bestNow_60 (fun r2 M H locs hM hS hP => ?_)
        refine r_cast (C := RX8) (T := TX8) (N := 5) X hM hP rfl al_X9_50 dX9_bestNow_65 (fun hP => ?_)
        refine r_callSf (rest := []) X hM hS (ct_X9_loading hst v2 r2) hP mS_X9_61 rfl rfl hl.1 (Nat.le_of_ble_eq_true rfl) ⟨⟨by decide, by decide⟩, ⟨by decide, by decide⟩⟩ dX9_bestNow_68 (fun r3 M H locs hM hS hP => ?_)
        refine lv_aload_n hx hb dX9_bestNow_71 rfl (lv_at hl 0 rfl) ?_
        refine lv_aload_n hx hb dX9_bestNow_72 rfl (lv_at hl 2 rfl) ?_
        refine r_callVf (rest := [.float r3]) (T := TX9) (N := 14) X hM hS (ct_X9_most hst v0 v2) hP mV_X9_175 rfl rfl rfl hl.1 (Nat.le_of_ble_eq_true rfl) ⟨⟨by decide, by decide⟩, ⟨by decide, by decide⟩⟩ dX9_bestNow_73 (fun r4 M H locs hM hS hP => ?_)
        refine lv_fcmp hx hb dX9_bestNow_76 ?_
        refine lv_if_le (tgt := 83) hx hb dX9_bestNow_77 (by decide) (fun hc => ?_) (fun hc => ?_)
        · have hP := mIf_t hP hc
          refine lv_iload_n hx hb dX9_bestNow_83 rfl (lv_at hl 3 rfl) ?_
          refine lv_iconst (v := (-1)) hx hb dX9_bestNow_84 (by decide) ?_
          refine lv_icmp_eq (tgt := 127) hx hb dX9_bestNow_85 (by decide) (fun hc => ?_) (fun hc => ?_)
          · have hP := mIf_t hP hc
            exact hb127 v0 v1 v2 v4 _ _ _ _ hM hS (lv_sub hl [0, 1, 2, 4] rfl) hP
          · have hP := mIf_f hP hc
            refine lv_aload_n hx hb dX9_bestNow_88 rfl (lv_at hl 2 rfl) ?_
            refine lv_aload_n hx hb dX9_bestNow_89 rfl (lv_at hl 0 rfl) ?_
            refine r_getr X hM hP fl_X9_16 dX9_bestNow_90 (fun x5 hP => ?_)
            refine lv_iload hx hb dX9_bestNow_93 (lv_at hl 4 rfl) ?_
            refine r_callFr (rest := [.ref v2]) X hM hS (ct_Jx4a65c_get_915e3 hst x5 v4) hP mF_X9_57 rfl rfl hl.1 (Nat.le_of_ble_eq_true rfl) ⟨⟨by decide, by decide⟩, ⟨by decide, by decide⟩⟩ dX9_bestNow_95 (fun r6 M H locs hM hS hP => ?_)
            refine r_cast (C := RX8) (T := TX8) (N := 5) X hM hP rfl al_X9_50 dX9_bestNow_100 (fun hP => ?_)
            refine r_callSf (rest := []) X hM hS (ct_X9_loading hst v2 r6) hP mS_X9_61 rfl rfl hl.1 (Nat.le_of_ble_eq_true rfl) ⟨⟨by decide, by decide⟩, ⟨by decide, by decide⟩⟩ dX9_bestNow_103 (fun r7 M H locs hM hS hP => ?_)
            refine lv_aload_n hx hb dX9_bestNow_106 rfl (lv_at hl 2 rfl) ?_
            refine lv_aload_n hx hb dX9_bestNow_107 rfl (lv_at hl 0 rfl) ?_
            refine r_getr X hM hP fl_X9_16 dX9_bestNow_108 (fun x8 hP => ?_)
            refine lv_iload_n hx hb dX9_bestNow_111 rfl (lv_at hl 3 rfl) ?_
            refine r_callFr (rest := [.ref v2, .float r7]) X hM hS (ct_Jx4a65c_get_915e3 hst x8 v3) hP mF_X9_57 rfl rfl hl.1 (Nat.le_of_ble_eq_true rfl) ⟨⟨by decide, by decide⟩, ⟨by decide, by decide⟩⟩ dX9_bestNow_112 (fun r9 M H locs hM hS hP => ?_)
            refine r_cast (C := RX8) (T := TX8) (N := 5) X hM hP rfl al_X9_50 dX9_bestNow_117 (fun hP => ?_)
            refine r_callSf (rest := [.float r7]) X hM hS (ct_X9_loading hst v2 r9) hP mS_X9_61 rfl rfl hl.1 (Nat.le_of_ble_eq_true rfl) ⟨⟨by decide, by decide⟩, ⟨by decide, by decide⟩⟩ dX9_bestNow_120 (fun r10 M H locs hM hS hP => ?_)
            refine lv_fcmp hx hb dX9_bestNow_123 ?_
            refine lv_if_le (tgt := 130) hx hb dX9_bestNow_124 (by decide) (fun hc => ?_) (fun hc => ?_)
            · have hP := mIf_t hP hc
              exact hb130 v0 v1 v2 v3 v4 _ _ _ _ hM hS (lv_sub hl [0, 1, 2, 3, 4] rfl) hP
            · have hP := mIf_f hP hc
              exact hb127 v0 v1 v2 v4 _ _ _ _ hM hS (lv_sub hl [0, 1, 2, 4] rfl) hP
        · have hP := mIf_f hP hc
          refine lv_goto (tgt := 130) hx hb dX9_bestNow_80 (by decide) ?_
          exact hb130 v0 v1 v2 v3 v4 _ _ _ _ hM hS (lv_sub hl [0, 1, 2, 3, 4] rfl) hP
      intro v0 v1 v2 v3 v4 M H locs ls hM hS hl hP
      have hP : f_X9_bestNow_b19_body K k (f_X9_bestNow_b19 K k n19) v0 v1 v2 v3 v4 M := hP
      unfold f_X9_bestNow_b19_body at hP
      refine lv_iload hx hb dX9_bestNow_19 (lv_at hl 4 rfl) ?_
      refine lv_aload_n hx hb dX9_bestNow_21 rfl (lv_at hl 0 rfl) ?_
      refine r_getr X hM hP fl_X9_16 dX9_bestNow_22 (fun x1 hP => ?_)
      refine r_callFi (rest := [.int v4]) X hM hS (ct_Jx4a65c_size_8abf5 hst x1) hP mF_X9_33 rfl rfl hl.1 (Nat.le_of_ble_eq_true rfl) ⟨⟨by decide, by decide⟩, ⟨by decide, by decide⟩⟩ dX9_bestNow_25 (fun r2 M H locs hM hS hP => ?_)
      refine lv_icmp_ge (tgt := 136) hx hb dX9_bestNow_30 (by decide) (fun hc => ?_) (fun hc => ?_)
      · have hP := mIf_t hP hc
        refine lv_iload_n hx hb dX9_bestNow_136 rfl (lv_at hl 3 rfl) ?_
        exact e_iret X hM hS (hk _ _ hP) hr hlocks (by decide) (by decide) dX9_bestNow_137
      · have hP := mIf_f hP hc
        refine lv_aload_n hx hb dX9_bestNow_33 rfl (lv_at hl 0 rfl) ?_
        refine lv_iload hx hb dX9_bestNow_34 (lv_at hl 4 rfl) ?_
        refine r_callVi (rest := []) (T := TX9) (N := 14) X hM hS (ct_X9_holder hst v0 v4) hP mV_X9_145 rfl rfl rfl hl.1 (Nat.le_of_ble_eq_true rfl) ⟨⟨by decide, by decide⟩, ⟨by decide, by decide⟩⟩ dX9_bestNow_36 (fun r3 M H locs hM hS hP => ?_)
        refine lv_iconst (v := (-1)) hx hb dX9_bestNow_39 (by decide) ?_
        refine lv_icmp_eq (tgt := 53) hx hb dX9_bestNow_40 (by decide) (fun hc => ?_) (fun hc => ?_)
        · have hP := mIf_t hP hc
          exact hb53 v0 v1 v2 v3 v4 _ _ _ _ hM hS (lv_sub hl [0, 1, 2, 3, 4] rfl) hP
        · have hP := mIf_f hP hc
          refine lv_aload_n hx hb dX9_bestNow_43 rfl (lv_at hl 0 rfl) ?_
          refine lv_iload hx hb dX9_bestNow_44 (lv_at hl 4 rfl) ?_
          refine r_callVi (rest := []) (T := TX9) (N := 14) X hM hS (ct_X9_holder hst v0 v4) hP mV_X9_145 rfl rfl rfl hl.1 (Nat.le_of_ble_eq_true rfl) ⟨⟨by decide, by decide⟩, ⟨by decide, by decide⟩⟩ dX9_bestNow_46 (fun r4 M H locs hM hS hP => ?_)
          refine lv_iload_n hx hb dX9_bestNow_49 rfl (lv_at hl 1 rfl) ?_
          refine lv_icmp_ne (tgt := 130) hx hb dX9_bestNow_50 (by decide) (fun hc => ?_) (fun hc => ?_)
          · have hP := mIf_f hP hc
            exact hb130 v0 v1 v2 v3 v4 _ _ _ _ hM hS (lv_sub hl [0, 1, 2, 3, 4] rfl) hP
          · have hP := mIf_t hP hc
            exact hb53 v0 v1 v2 v3 v4 _ _ _ _ hM hS (lv_sub hl [0, 1, 2, 3, 4] rfl) hP
  unfold f_X9_bestNow at hP
  refine lv_aload_n hx hb dX9_bestNow_0 rfl (lv_at hl 0 rfl) ?_
  refine r_getr X hM hP fl_X9_10 dX9_bestNow_1 (fun x1 hP => ?_)
  refine lv_iload_n hx hb dX9_bestNow_4 rfl (lv_at hl 1 rfl) ?_
  refine r_callFr (rest := []) X hM hS (ct_Jx4a65c_get_915e3 hst x1 a1) hP mF_X9_57 rfl rfl hl.1 (Nat.le_of_ble_eq_true rfl) ⟨⟨by decide, by decide⟩, ⟨by decide, by decide⟩⟩ dX9_bestNow_5 (fun r2 M H locs hM hS hP => ?_)
  refine r_cast (C := RX7) (T := TX7) (N := 12) X hM hP rfl al_X9_44 dX9_bestNow_10 (fun hP => ?_)
  refine lv_astore_n (lv' := [(2, .ref r2), (0, .ref a0), (1, .int a1)]) hx hb dX9_bestNow_13 rfl hl (by decide) rfl (fun ls hl => ?_)
  refine lv_iconst (v := (-1)) hx hb dX9_bestNow_14 (by decide) ?_
  refine lv_istore_n (lv' := [(3, .int (-1)), (2, .ref r2), (0, .ref a0), (1, .int a1)]) hx hb dX9_bestNow_15 rfl hl (by decide) rfl (fun ls hl => ?_)
  refine lv_iconst (v := 0) hx hb dX9_bestNow_16 (by decide) ?_
  refine lv_istore (lv' := [(4, .int 0), (3, .int (-1)), (2, .ref r2), (0, .ref a0), (1, .int a1)]) hx hb dX9_bestNow_17 hl (by decide) rfl (fun ls hl => ?_)
  exact hb19 mFuel a0 a1 r2 (-1) 0 _ _ _ _ hM hS (lv_sub hl [3, 4, 2, 1, 0] rfl) hP
def f_X9_best (K : Cfg) (a0 : Nat) (a1 : Int32) (k : Int32 → Mem → Prop) : Mem → Prop :=
 mPut a0 10 0 (.int 0) <|
 mRecv a0 10 <|
 f_X9_isJumper K a0 a1 (fun r1 =>
 mIf (r1 = 0)
 (mRecv a0 10 <|
 f_X9_no K a0 1 (fun r3 =>
 k r3))
 (mRecv a0 10 <|
 f_X9_bestNow K a0 a1 (fun r2 =>
 k r2)))
abbrev rm_X9_best : Room := { frames := 5, cells := 0, slots := 0, locals := 110 }
set_option maxHeartbeats 4000000 in
set_option maxRecDepth 100000 in
theorem ct_X9_best {K : Cfg} {l : Launch} (hst : l.stackTraces = false) (a0 : Nat) (a1 : Int32) : mPi K l yX9_best cX9_best 2 (some .int) rm_X9_best [.ref a0, .int a1] (f_X9_best K a0 a1) := by
  refine mPi.of hst (by decide +kernel) (Nat.le_of_ble_eq_true rfl) ?_
  intro M k Q hk hP p e s m below meth c X hr hlocks hname hM ls hl
  have hx := X.1.1
  have hb := X.1.2.1
  have X : Cx K p l s m ([.ref a0, .int a1] : List Value).toArray c cX9_best 2 RX9 := X
  have hS : va_S (mFA K) s.heap s.heap [] := va_S.rf
  have hl : lv_has ls 2 [(0, .ref a0), (1, .int a1)] := hl
  unfold f_X9_best at hP
  refine lv_aload_n hx hb dX9_best_0 rfl (lv_at hl 0 rfl) ?_
  refine lv_iconst (v := 0) hx hb dX9_best_1 (by decide) ?_
  refine r_put X hM hS hP fl_X9_30 ft_X9 rfl (tyX9_ok 0 (Nat.le_of_ble_eq_true rfl)) rfl rfl dX9_best_2 (fun M H locs hM hS hP => ?_)
  refine lv_aload_n hx hb dX9_best_5 rfl (lv_at hl 0 rfl) ?_
  refine lv_iload_n hx hb dX9_best_6 rfl (lv_at hl 1 rfl) ?_
  refine r_callVi (rest := []) (T := TX9) (N := 14) X hM hS (ct_X9_isJumper hst a0 a1) hP mV_X9_142 rfl rfl rfl hl.1 (Nat.le_of_ble_eq_true rfl) ⟨⟨by decide, by decide⟩, ⟨by decide, by decide⟩⟩ dX9_best_7 (fun r1 M H locs hM hS hP => ?_)
  refine lv_if_ne (tgt := 19) hx hb dX9_best_10 (by decide) (fun hc => ?_) (fun hc => ?_)
  · have hP := mIf_f hP hc
    refine lv_aload_n hx hb dX9_best_19 rfl (lv_at hl 0 rfl) ?_
    refine lv_iload_n hx hb dX9_best_20 rfl (lv_at hl 1 rfl) ?_
    refine r_callVi (rest := []) (T := TX9) (N := 14) X hM hS (ct_X9_bestNow hst a0 a1) hP mV_X9_265 rfl rfl rfl hl.1 (Nat.le_of_ble_eq_true rfl) ⟨⟨by decide, by decide⟩, ⟨by decide, by decide⟩⟩ dX9_best_21 (fun r2 M H locs hM hS hP => ?_)
    exact e_iret X hM hS (hk _ _ hP) hr hlocks (by decide) (by decide) dX9_best_24
  · have hP := mIf_t hP hc
    refine lv_aload_n hx hb dX9_best_13 rfl (lv_at hl 0 rfl) ?_
    refine lv_iconst (v := 1) hx hb dX9_best_14 (by decide) ?_
    refine r_callVi (rest := []) (T := TX9) (N := 14) X hM hS (ct_X9_no hst a0 1) hP mV_X9_126 rfl rfl rfl hl.1 (Nat.le_of_ble_eq_true rfl) ⟨⟨by decide, by decide⟩, ⟨by decide, by decide⟩⟩ dX9_best_15 (fun r3 M H locs hM hS hP => ?_)
    exact e_iret X hM hS (hk _ _ hP) hr hlocks (by decide) (by decide) dX9_best_18
def f_X9_digest_b263_body (K : Cfg) (k : Int64 → Mem → Prop) (lp263 : Nat → Nat → Nat → Int64 → Int32 → Mem → Prop) (u w : Nat) (v0 : Nat) (v1 : Int64) (v3 : Int32) : Mem → Prop :=
 mIf (10 ≤ v3)
 (mAs (u + 440 ≤ 585 ∧ w + 4026 ≤ 5226) <|
 mRecv v0 10 <|
 f_X9_spotNow K v0 3 (fun r1 =>
 mAs (u + 440 + 13 ≤ 585 ∧ w + 4026 + 141 ≤ 5226) <|
 mRecv v0 10 <|
 f_X9_flight K v0 0 3 (fun r2 =>
 mAs (u + 440 + 13 + 7 ≤ 585 ∧ w + 4026 + 141 + 42 ≤ 5226) <|
 f_X9_go K r2 (fun r3 =>
 mAs (u + 440 + 13 + 7 ≤ 585 ∧ w + 4026 + 141 + 42 ≤ 5226) <|
 k ((((v1 * 31) + r1.toInt64) * 31) + r3.toInt64)))))
 (mGetR v0 10 3 fun x4 =>
 mLdI K x4 v3 fun x5 =>
 mGetR v0 10 4 fun x6 =>
 mLdI K x6 v3 fun x7 =>
 lp263 u w v0 ((((v1 * 31) + x5.toInt64) * 31) + x7.toInt64) (v3 + 1))
def f_X9_digest_b263 (K : Cfg) (k : Int64 → Mem → Prop) : Nat → Nat → Nat → Nat → Int64 → Int32 → Mem → Prop
  | 0 => fun _ _ _ _ _ _ => False
  | n + 1 => f_X9_digest_b263_body K k (f_X9_digest_b263 K k n)
def f_X9_digest_b200_body (K : Cfg) (k : Int64 → Mem → Prop) (lp184 : Nat → Nat → Nat → Int64 → Int32 → Mem → Prop) (lp200 : Nat → Nat → Nat → Int64 → Int32 → Int32 → Mem → Prop) (u w : Nat) (v0 : Nat) (v1 : Int64) (v3 : Int32) (v4 : Int32) : Mem → Prop :=
 mIf (4 < v4)
 (mGetR v0 10 2 fun x1 =>
 mAs (u ≤ 585 ∧ w ≤ 5226) <|
 mRecv x1 0 <|
 f_Jx4a65c_get_915e3 K x1 v3 (fun r2 =>
 mRecv r2 9 <|
 mGetF r2 9 4 fun x3 =>
 mAs (vf_n32 (FP.fmul 1115684864 x3)) <|
 lp184 u w v0 ((v1 * 31) + (FP.f2l (FP.fmul 1115684864 x3))) (v3 + 1)))
 (mAs (u + 1 ≤ 585 ∧ w + 5 ≤ 5226) <|
 mRecv v0 10 <|
 f_X9_rigNow K v0 v3 v4 (fun r4 =>
 lp200 (u + 1) (w + 5) v0 ((v1 * 31) + r4.toInt64) v3 (v4 + 1)))
def f_X9_digest_b200 (K : Cfg) (k : Int64 → Mem → Prop) (lp184 : Nat → Nat → Nat → Int64 → Int32 → Mem → Prop) : Nat → Nat → Nat → Nat → Int64 → Int32 → Int32 → Mem → Prop
  | 0 => fun _ _ _ _ _ _ _ => False
  | n + 1 => f_X9_digest_b200_body K k lp184 (f_X9_digest_b200 K k lp184 n)
def f_X9_digest_b184_body (K : Cfg) (k : Int64 → Mem → Prop) (lp184 : Nat → Nat → Nat → Int64 → Int32 → Mem → Prop) (u w : Nat) (v0 : Nat) (v1 : Int64) (v3 : Int32) : Mem → Prop :=
 mGetR v0 10 2 fun x1 =>
 mAs (u ≤ 585 ∧ w ≤ 5226) <|
 mRecv x1 0 <|
 f_Jx4a65c_size_8abf5 K x1 (fun r2 =>
 mIf (r2 ≤ v3)
 (f_X9_digest_b263 K k mFuel u w v0 v1 0)
 (f_X9_digest_b200 K k lp184 mFuel u w v0 v1 v3 0))
def f_X9_digest_b184 (K : Cfg) (k : Int64 → Mem → Prop) : Nat → Nat → Nat → Nat → Int64 → Int32 → Mem → Prop
  | 0 => fun _ _ _ _ _ _ => False
  | n + 1 => f_X9_digest_b184_body K k (f_X9_digest_b184 K k n)
def f_X9_digest_b54_body (K : Cfg) (k : Int64 → Mem → Prop) (lp38 : Nat → Nat → Nat → Int64 → Int32 → Mem → Prop) (lp54 : Nat → Nat → Nat → Int64 → Int32 → Int32 → Mem → Prop) (u w : Nat) (v0 : Nat) (v1 : Int64) (v3 : Int32) (v4 : Int32) : Mem → Prop :=
 mIf (8 < v4)
 (mGetR v0 10 1 fun x1 =>
 mAs (u ≤ 585 ∧ w ≤ 5226) <|
 mRecv x1 0 <|
 f_Jx4a65c_get_915e3 K x1 v3 (fun r2 =>
 mRecv r2 8 <|
 mGetD r2 8 8 fun x3 =>
 mAs (vf_n64 (FP.dmul 4652218415073722368 x3)) <|
 mGetR v0 10 1 fun x4 =>
 mAs (u ≤ 585 ∧ w ≤ 5226) <|
 mRecv x4 0 <|
 f_Jx4a65c_get_915e3 K x4 v3 (fun r5 =>
 mRecv r5 8 <|
 mGetD r5 8 9 fun x6 =>
 mAs (vf_n64 (FP.dmul 4652218415073722368 x6)) <|
 mGetR v0 10 1 fun x7 =>
 mAs (u ≤ 585 ∧ w ≤ 5226) <|
 mRecv x7 0 <|
 f_Jx4a65c_get_915e3 K x7 v3 (fun r8 =>
 mRecv r8 8 <|
 mAs (u ≤ 585 ∧ w ≤ 5226) <|
 mRecv v0 10 <|
 f_X9_why K v0 r8 (fun r9 =>
 mAs (u ≤ 585 ∧ w ≤ 5226) <|
 mRecv v0 10 <|
 f_X9_bestNow K v0 v3 (fun r10 =>
 lp38 u w v0 ((((((((v1 * 31) + (FP.d2l (FP.dmul 4652218415073722368 x3))) * 31) + (FP.d2l (FP.dmul 4652218415073722368 x6))) * 31) + r9.toInt64) * 31) + r10.toInt64) (v3 + 1)))))))
 (mAs (u + 1 ≤ 585 ∧ w + 9 ≤ 5226) <|
 mRecv v0 10 <|
 f_X9_jumperNow K v0 v3 v4 (fun r11 =>
 lp54 (u + 1) (w + 9) v0 ((v1 * 31) + r11.toInt64) v3 (v4 + 1)))
def f_X9_digest_b54 (K : Cfg) (k : Int64 → Mem → Prop) (lp38 : Nat → Nat → Nat → Int64 → Int32 → Mem → Prop) : Nat → Nat → Nat → Nat → Int64 → Int32 → Int32 → Mem → Prop
  | 0 => fun _ _ _ _ _ _ _ => False
  | n + 1 => f_X9_digest_b54_body K k lp38 (f_X9_digest_b54 K k lp38 n)
def f_X9_digest_b38_body (K : Cfg) (k : Int64 → Mem → Prop) (lp38 : Nat → Nat → Nat → Int64 → Int32 → Mem → Prop) (u w : Nat) (v0 : Nat) (v1 : Int64) (v3 : Int32) : Mem → Prop :=
 mGetR v0 10 1 fun x1 =>
 mAs (u ≤ 585 ∧ w ≤ 5226) <|
 mRecv x1 0 <|
 f_Jx4a65c_size_8abf5 K x1 (fun r2 =>
 mIf (r2 ≤ v3)
 (f_X9_digest_b184 K k mFuel u w v0 v1 0)
 (f_X9_digest_b54 K k lp38 mFuel u w v0 v1 v3 0))
def f_X9_digest_b38 (K : Cfg) (k : Int64 → Mem → Prop) : Nat → Nat → Nat → Nat → Int64 → Int32 → Mem → Prop
  | 0 => fun _ _ _ _ _ _ => False
  | n + 1 => f_X9_digest_b38_body K k (f_X9_digest_b38 K k n)
def f_X9_digest_b11_body (K : Cfg) (k : Int64 → Mem → Prop) (lp11 : Nat → Nat → Nat → Int64 → Int32 → Mem → Prop) (u w : Nat) (v0 : Nat) (v1 : Int64) (v3 : Int32) : Mem → Prop :=
 mIf (12 < v3)
 (f_X9_digest_b38 K k mFuel u w v0 v1 0)
 (mAs (u + 1 ≤ 585 ∧ w + 13 ≤ 5226) <|
 mRecv v0 10 <|
 f_X9_manyNow K v0 v3 (fun r1 =>
 lp11 (u + 1) (w + 13) v0 ((v1 * 31) + r1.toInt64) (v3 + 1)))
def f_X9_digest_b11 (K : Cfg) (k : Int64 → Mem → Prop) : Nat → Nat → Nat → Nat → Int64 → Int32 → Mem → Prop
  | 0 => fun _ _ _ _ _ _ => False
  | n + 1 => f_X9_digest_b11_body K k (f_X9_digest_b11 K k n)
def f_X9_digest (K : Cfg) (a0 : Nat) (k : Int64 → Mem → Prop) : Mem → Prop :=
 mPut a0 10 0 (.int 0) <|
 f_X9_digest_b11 K k mFuel 0 0 a0 58311 0
abbrev rm_X9_digest : Room := { frames := 9, cells := 585, slots := 5226, locals := 205 }
set_option maxHeartbeats 4000000 in
set_option maxRecDepth 100000 in
theorem ct_X9_digest {K : Cfg} {l : Launch} (hst : l.stackTraces = false) (a0 : Nat) : mPl K l yX9_digest cX9_digest 5 (some .long) rm_X9_digest [.ref a0] (f_X9_digest K a0) := by
  refine mPl.of hst (by decide +kernel) (Nat.le_of_ble_eq_true rfl) ?_
  intro M k Q hk hP p e s m below meth c X hr hlocks hname hM ls hl
  have hx := X.1.1
  have hb := X.1.2.1
  have X : Cx K p l s m ([.ref a0] : List Value).toArray c cX9_digest 5 RX9 := X
  have hS : va_S (mFA K) s.heap s.heap [] := va_S.rf
  have hl : lv_has ls 5 [(0, .ref a0)] := hl
  have hb263 : ∀ (n263 : Nat) (u w : Nat) (v0 : Nat) (v1 : Int64) (v3 : Int32) (M : Mem) (H : Heap) (locs : List Loc) (ls : Array Slot), mh K M H → va_S (mFA K) s.heap H locs → lv_has ls 5 [(0, .ref v0), (1, .long v1), (3, .int v3)] → f_X9_digest_b263 K k n263 u w v0 v1 v3 M → W p l e rm_X9_digest s m ([.ref a0] : List Value).toArray below meth c H locs u w (MQ below (mQ K Q) ([.ref a0] : List Value).toArray s rm_X9_digest.cells rm_X9_digest.slots (mFA K)) (F0 m 263 ls []) := by
    intro n263
    induction n263 with
    | zero =>
      intro u w v0 v1 v3 M H locs ls hM hS hl hP
      exact hP.elim
    | succ n263 ih263 =>
      intro u w v0 v1 v3 M H locs ls hM hS hl hP
      have hP : f_X9_digest_b263_body K k (f_X9_digest_b263 K k n263) u w v0 v1 v3 M := hP
      unfold f_X9_digest_b263_body at hP
      refine lv_iload_n hx hb dX9_digest_263 rfl (lv_at hl 2 rfl) ?_
      refine lv_bipush (v := 10) hx hb dX9_digest_264 (by decide) ?_
      refine lv_icmp_ge (tgt := 301) hx hb dX9_digest_266 (by decide) (fun hc => ?_) (fun hc => ?_)
      · have hP := mIf_t hP hc
        refine lv_lload_n hx hb dX9_digest_301 rfl (lv_at hl 1 rfl) ?_
        refine r_ldcl (v := 31) X kc_X9_270 dX9_digest_302 ?_
        refine lv_lmul hx hb dX9_digest_305 ?_
        refine lv_aload_n hx hb dX9_digest_306 rfl (lv_at hl 0 rfl) ?_
        refine lv_iconst (v := 3) hx hb dX9_digest_307 (by decide) ?_
        obtain ⟨hcs, hP⟩ := hP
        refine r_callVi (rest := [.long (v1 * 31)]) (T := TX9) (N := 14) X hM hS (ct_X9_spotNow hst v0 3) hP mV_X9_262 rfl rfl rfl hl.1 (Nat.le_of_ble_eq_true rfl) ⟨⟨by decide, by decide⟩, hcs⟩ dX9_digest_308 (fun r1 M H locs hM hS hP => ?_)
        refine lv_i2l hx hb dX9_digest_311 rfl ?_
        refine lv_ladd hx hb dX9_digest_312 ?_
        refine lv_lstore_n (lv' := [(1, .long ((v1 * 31) + r1.toInt64)), (0, .ref v0), (3, .int v3)]) hx hb dX9_digest_313 rfl hl (by decide) rfl (fun ls hl => ?_)
        refine lv_lload_n hx hb dX9_digest_314 rfl (lv_at hl 0 rfl) ?_
        refine r_ldcl (v := 31) X kc_X9_270 dX9_digest_315 ?_
        refine lv_lmul hx hb dX9_digest_318 ?_
        refine lv_aload_n hx hb dX9_digest_319 rfl (lv_at hl 1 rfl) ?_
        refine lv_iconst (v := 0) hx hb dX9_digest_320 (by decide) ?_
        refine lv_iconst (v := 3) hx hb dX9_digest_321 (by decide) ?_
        obtain ⟨hcs, hP⟩ := hP
        refine r_callVr (rest := [.long (((v1 * 31) + r1.toInt64) * 31)]) (T := TX9) (N := 14) X hM hS (ct_X9_flight hst v0 0 3) hP mV_X9_185 rfl rfl rfl hl.1 (Nat.le_of_ble_eq_true rfl) ⟨⟨by decide, by decide⟩, hcs⟩ dX9_digest_322 (fun r2 M H locs hM hS hP => ?_)
        obtain ⟨hcs, hP⟩ := hP
        refine r_callSi (rest := [.long (((v1 * 31) + r1.toInt64) * 31)]) X hM hS (ct_X9_go hst r2) hP mS_X9_203 rfl rfl hl.1 (Nat.le_of_ble_eq_true rfl) ⟨⟨by decide, by decide⟩, hcs⟩ dX9_digest_325 (fun r3 M H locs hM hS hP => ?_)
        refine lv_i2l hx hb dX9_digest_328 rfl ?_
        refine lv_ladd hx hb dX9_digest_329 ?_
        obtain ⟨⟨h97, h98⟩, hP⟩ := hP
        exact e_lret X hM hS (hk _ _ hP) hr hlocks h97 h98 dX9_digest_330
      · have hP := mIf_f hP hc
        refine lv_lload_n hx hb dX9_digest_269 rfl (lv_at hl 1 rfl) ?_
        refine r_ldcl (v := 31) X kc_X9_270 dX9_digest_270 ?_
        refine lv_lmul hx hb dX9_digest_273 ?_
        refine lv_aload_n hx hb dX9_digest_274 rfl (lv_at hl 0 rfl) ?_
        refine r_getr X hM hP fl_X9_19 dX9_digest_275 (fun x4 hP => ?_)
        refine lv_iload_n hx hb dX9_digest_278 rfl (lv_at hl 2 rfl) ?_
        refine r_ldi X hM hP dX9_digest_279 (fun x5 hP => ?_)
        refine lv_i2l hx hb dX9_digest_280 rfl ?_
        refine lv_ladd hx hb dX9_digest_281 ?_
        refine r_ldcl (v := 31) X kc_X9_270 dX9_digest_282 ?_
        refine lv_lmul hx hb dX9_digest_285 ?_
        refine lv_aload_n hx hb dX9_digest_286 rfl (lv_at hl 0 rfl) ?_
        refine r_getr X hM hP fl_X9_23 dX9_digest_287 (fun x6 hP => ?_)
        refine lv_iload_n hx hb dX9_digest_290 rfl (lv_at hl 2 rfl) ?_
        refine r_ldi X hM hP dX9_digest_291 (fun x7 hP => ?_)
        refine lv_i2l hx hb dX9_digest_292 rfl ?_
        refine lv_ladd hx hb dX9_digest_293 ?_
        refine lv_lstore_n (lv' := [(1, .long ((((v1 * 31) + x5.toInt64) * 31) + x7.toInt64)), (0, .ref v0), (3, .int v3)]) hx hb dX9_digest_294 rfl hl (by decide) rfl (fun ls hl => ?_)
        refine lv_iinc (v := v3 + 1) (lv' := [(3, .int (v3 + 1)), (1, .long ((((v1 * 31) + x5.toInt64) * 31) + x7.toInt64)), (0, .ref v0)]) hx hb dX9_digest_295 hl (k := 2) rfl rfl (by decide) rfl (fun ls hl => ?_)
        refine lv_goto (tgt := 263) hx hb dX9_digest_298 (by decide) ?_
        exact ih263 u w v0 ((((v1 * 31) + x5.toInt64) * 31) + x7.toInt64) (v3 + 1) _ _ _ _ hM hS (lv_sub hl [2, 1, 0] rfl) hP
  have hb184 : ∀ (n184 : Nat) (u w : Nat) (v0 : Nat) (v1 : Int64) (v3 : Int32) (M : Mem) (H : Heap) (locs : List Loc) (ls : Array Slot), mh K M H → va_S (mFA K) s.heap H locs → lv_has ls 5 [(0, .ref v0), (1, .long v1), (3, .int v3)] → f_X9_digest_b184 K k n184 u w v0 v1 v3 M → W p l e rm_X9_digest s m ([.ref a0] : List Value).toArray below meth c H locs u w (MQ below (mQ K Q) ([.ref a0] : List Value).toArray s rm_X9_digest.cells rm_X9_digest.slots (mFA K)) (F0 m 184 ls []) := by
    intro n184
    induction n184 with
    | zero =>
      intro u w v0 v1 v3 M H locs ls hM hS hl hP
      exact hP.elim
    | succ n184 ih184 =>
      have hb200 : ∀ (n200 : Nat) (u w : Nat) (v0 : Nat) (v1 : Int64) (v3 : Int32) (v4 : Int32) (M : Mem) (H : Heap) (locs : List Loc) (ls : Array Slot), mh K M H → va_S (mFA K) s.heap H locs → lv_has ls 5 [(0, .ref v0), (1, .long v1), (3, .int v3), (4, .int v4)] → f_X9_digest_b200 K k (f_X9_digest_b184 K k n184) n200 u w v0 v1 v3 v4 M → W p l e rm_X9_digest s m ([.ref a0] : List Value).toArray below meth c H locs u w (MQ below (mQ K Q) ([.ref a0] : List Value).toArray s rm_X9_digest.cells rm_X9_digest.slots (mFA K)) (F0 m 200 ls []) := by
        intro n200
        induction n200 with
        | zero =>
          intro u w v0 v1 v3 v4 M H locs ls hM hS hl hP
          exact hP.elim
        | succ n200 ih200 =>
          intro u w v0 v1 v3 v4 M H locs ls hM hS hl hP
          have hP : f_X9_digest_b200_body K k (f_X9_digest_b184 K k n184) (f_X9_digest_b200 K k (f_X9_digest_b184 K k n184) n200) u w v0 v1 v3 v4 M := hP
          unfold f_X9_digest_b200_body at hP
          refine lv_iload hx hb dX9_digest_200 (lv_at hl 3 rfl) ?_
          refine lv_iconst (v := 4) hx hb dX9_digest_202 (by decide) ?_
          refine lv_icmp_gt (tgt := 227) hx hb dX9_digest_203 (by decide) (fun hc => ?_) (fun hc => ?_)
          · have hP := mIf_t hP hc
            refine lv_lload_n hx hb dX9_digest_227 rfl (lv_at hl 1 rfl) ?_
            refine r_ldcl (v := 31) X kc_X9_270 dX9_digest_228 ?_
            refine lv_lmul hx hb dX9_digest_231 ?_
            refine r_ldcfw (v := 1115684864) X kc_X9_274 dX9_digest_232 ?_
            refine lv_aload_n hx hb dX9_digest_235 rfl (lv_at hl 0 rfl) ?_
            refine r_getr X hM hP fl_X9_16 dX9_digest_236 (fun x1 hP => ?_)
            refine lv_iload_n hx hb dX9_digest_239 rfl (lv_at hl 2 rfl) ?_
            obtain ⟨hcs, hP⟩ := hP
            refine r_callFr (rest := [.float 1115684864, .long (v1 * 31)]) X hM hS (ct_Jx4a65c_get_915e3 hst x1 v3) hP mF_X9_57 rfl rfl hl.1 (Nat.le_of_ble_eq_true rfl) ⟨⟨by decide, by decide⟩, hcs⟩ dX9_digest_240 (fun r2 M H locs hM hS hP => ?_)
            refine r_cast (C := RX8) (T := TX8) (N := 5) X hM hP rfl al_X9_50 dX9_digest_245 (fun hP => ?_)
            refine r_getf X hM hP fl_X9_193 dX9_digest_248 (fun x3 hP => ?_)
            obtain ⟨h9, hP⟩ := hP
            refine lv_fmul hx hb dX9_digest_251 h9 ?_
            refine lv_f2l hx hb dX9_digest_252 ?_
            refine lv_ladd hx hb dX9_digest_253 ?_
            refine lv_lstore_n (lv' := [(1, .long ((v1 * 31) + (FP.f2l (FP.fmul 1115684864 x3)))), (0, .ref v0), (3, .int v3), (4, .int v4)]) hx hb dX9_digest_254 rfl hl (by decide) rfl (fun ls hl => ?_)
            refine lv_iinc (v := v3 + 1) (lv' := [(3, .int (v3 + 1)), (1, .long ((v1 * 31) + (FP.f2l (FP.fmul 1115684864 x3)))), (0, .ref v0), (4, .int v4)]) hx hb dX9_digest_255 hl (k := 2) rfl rfl (by decide) rfl (fun ls hl => ?_)
            refine lv_goto (tgt := 184) hx hb dX9_digest_258 (by decide) ?_
            exact ih184 u w v0 ((v1 * 31) + (FP.f2l (FP.fmul 1115684864 x3))) (v3 + 1) _ _ _ _ hM hS (lv_sub hl [2, 1, 0] rfl) hP
          · have hP := mIf_f hP hc
            refine lv_lload_n hx hb dX9_digest_206 rfl (lv_at hl 1 rfl) ?_
            refine r_ldcl (v := 31) X kc_X9_270 dX9_digest_207 ?_
            refine lv_lmul hx hb dX9_digest_210 ?_
            refine lv_aload_n hx hb dX9_digest_211 rfl (lv_at hl 0 rfl) ?_
            refine lv_iload_n hx hb dX9_digest_212 rfl (lv_at hl 2 rfl) ?_
            refine lv_iload hx hb dX9_digest_213 (lv_at hl 3 rfl) ?_
            obtain ⟨hcs, hP⟩ := hP
            refine r_callVi (rest := [.long (v1 * 31)]) (T := TX9) (N := 14) X hM hS (ct_X9_rigNow hst v0 v3 v4) hP mV_X9_252 rfl rfl rfl hl.1 (Nat.le_of_ble_eq_true rfl) ⟨⟨by decide, by decide⟩, hcs⟩ dX9_digest_215 (fun r4 M H locs hM hS hP => ?_)
            refine lv_i2l hx hb dX9_digest_218 rfl ?_
            refine lv_ladd hx hb dX9_digest_219 ?_
            refine lv_lstore_n (lv' := [(1, .long ((v1 * 31) + r4.toInt64)), (0, .ref v0), (3, .int v3), (4, .int v4)]) hx hb dX9_digest_220 rfl hl (by decide) rfl (fun ls hl => ?_)
            refine lv_iinc (v := v4 + 1) (lv' := [(4, .int (v4 + 1)), (1, .long ((v1 * 31) + r4.toInt64)), (0, .ref v0), (3, .int v3)]) hx hb dX9_digest_221 hl (k := 3) rfl rfl (by decide) rfl (fun ls hl => ?_)
            refine lv_goto (tgt := 200) hx hb dX9_digest_224 (by decide) ?_
            exact ih200 (u + 1) (w + 5) v0 ((v1 * 31) + r4.toInt64) v3 (v4 + 1) _ _ _ _ hM hS (lv_sub hl [2, 1, 3, 0] rfl) hP
      intro u w v0 v1 v3 M H locs ls hM hS hl hP
      have hP : f_X9_digest_b184_body K k (f_X9_digest_b184 K k n184) u w v0 v1 v3 M := hP
      unfold f_X9_digest_b184_body at hP
      refine lv_iload_n hx hb dX9_digest_184 rfl (lv_at hl 2 rfl) ?_
      refine lv_aload_n hx hb dX9_digest_185 rfl (lv_at hl 0 rfl) ?_
      refine r_getr X hM hP fl_X9_16 dX9_digest_186 (fun x1 hP => ?_)
      obtain ⟨hcs, hP⟩ := hP
      refine r_callFi (rest := [.int v3]) X hM hS (ct_Jx4a65c_size_8abf5 hst x1) hP mF_X9_33 rfl rfl hl.1 (Nat.le_of_ble_eq_true rfl) ⟨⟨by decide, by decide⟩, hcs⟩ dX9_digest_189 (fun r2 M H locs hM hS hP => ?_)
      refine lv_icmp_ge (tgt := 261) hx hb dX9_digest_194 (by decide) (fun hc => ?_) (fun hc => ?_)
      · have hP := mIf_t hP hc
        refine lv_iconst (v := 0) hx hb dX9_digest_261 (by decide) ?_
        refine lv_istore_n (lv' := [(3, .int 0), (0, .ref v0), (1, .long v1)]) hx hb dX9_digest_262 rfl hl (by decide) rfl (fun ls hl => ?_)
        exact hb263 mFuel u w v0 v1 0 _ _ _ _ hM hS (lv_sub hl [1, 2, 0] rfl) hP
      · have hP := mIf_f hP hc
        refine lv_iconst (v := 0) hx hb dX9_digest_197 (by decide) ?_
        refine lv_istore (lv' := [(4, .int 0), (0, .ref v0), (1, .long v1), (3, .int v3)]) hx hb dX9_digest_198 hl (by decide) rfl (fun ls hl => ?_)
        exact hb200 mFuel u w v0 v1 v3 0 _ _ _ _ hM hS (lv_sub hl [1, 2, 3, 0] rfl) hP
  have hb38 : ∀ (n38 : Nat) (u w : Nat) (v0 : Nat) (v1 : Int64) (v3 : Int32) (M : Mem) (H : Heap) (locs : List Loc) (ls : Array Slot), mh K M H → va_S (mFA K) s.heap H locs → lv_has ls 5 [(0, .ref v0), (1, .long v1), (3, .int v3)] → f_X9_digest_b38 K k n38 u w v0 v1 v3 M → W p l e rm_X9_digest s m ([.ref a0] : List Value).toArray below meth c H locs u w (MQ below (mQ K Q) ([.ref a0] : List Value).toArray s rm_X9_digest.cells rm_X9_digest.slots (mFA K)) (F0 m 38 ls []) := by
    intro n38
    induction n38 with
    | zero =>
      intro u w v0 v1 v3 M H locs ls hM hS hl hP
      exact hP.elim
    | succ n38 ih38 =>
      have hb54 : ∀ (n54 : Nat) (u w : Nat) (v0 : Nat) (v1 : Int64) (v3 : Int32) (v4 : Int32) (M : Mem) (H : Heap) (locs : List Loc) (ls : Array Slot), mh K M H → va_S (mFA K) s.heap H locs → lv_has ls 5 [(0, .ref v0), (1, .long v1), (3, .int v3), (4, .int v4)] → f_X9_digest_b54 K k (f_X9_digest_b38 K k n38) n54 u w v0 v1 v3 v4 M → W p l e rm_X9_digest s m ([.ref a0] : List Value).toArray below meth c H locs u w (MQ below (mQ K Q) ([.ref a0] : List Value).toArray s rm_X9_digest.cells rm_X9_digest.slots (mFA K)) (F0 m 54 ls []) := by
        intro n54
        induction n54 with
        | zero =>
          intro u w v0 v1 v3 v4 M H locs ls hM hS hl hP
          exact hP.elim
        | succ n54 ih54 =>
          intro u w v0 v1 v3 v4 M H locs ls hM hS hl hP
          have hP : f_X9_digest_b54_body K k (f_X9_digest_b38 K k n38) (f_X9_digest_b54 K k (f_X9_digest_b38 K k n38) n54) u w v0 v1 v3 v4 M := hP
          unfold f_X9_digest_b54_body at hP
          refine lv_iload hx hb dX9_digest_54 (lv_at hl 3 rfl) ?_
          refine lv_bipush (v := 8) hx hb dX9_digest_56 (by decide) ?_
          refine lv_icmp_gt (tgt := 82) hx hb dX9_digest_58 (by decide) (fun hc => ?_) (fun hc => ?_)
          · have hP := mIf_t hP hc
            refine lv_lload_n hx hb dX9_digest_82 rfl (lv_at hl 1 rfl) ?_
            refine r_ldcl (v := 31) X kc_X9_270 dX9_digest_83 ?_
            refine lv_lmul hx hb dX9_digest_86 ?_
            refine r_ldcd (v := 4652218415073722368) X kc_X9_272 dX9_digest_87 ?_
            refine lv_aload_n hx hb dX9_digest_90 rfl (lv_at hl 0 rfl) ?_
            refine r_getr X hM hP fl_X9_10 dX9_digest_91 (fun x1 hP => ?_)
            refine lv_iload_n hx hb dX9_digest_94 rfl (lv_at hl 2 rfl) ?_
            obtain ⟨hcs, hP⟩ := hP
            refine r_callFr (rest := [.double 4652218415073722368, .long (v1 * 31)]) X hM hS (ct_Jx4a65c_get_915e3 hst x1 v3) hP mF_X9_57 rfl rfl hl.1 (Nat.le_of_ble_eq_true rfl) ⟨⟨by decide, by decide⟩, hcs⟩ dX9_digest_95 (fun r2 M H locs hM hS hP => ?_)
            refine r_cast (C := RX7) (T := TX7) (N := 12) X hM hP rfl al_X9_44 dX9_digest_100 (fun hP => ?_)
            refine r_getd X hM hP fl_X9_241 dX9_digest_103 (fun x3 hP => ?_)
            obtain ⟨h9, hP⟩ := hP
            refine lv_dmul hx hb dX9_digest_106 h9 ?_
            refine lv_d2l hx hb dX9_digest_107 ?_
            refine lv_ladd hx hb dX9_digest_108 ?_
            refine lv_lstore_n (lv' := [(1, .long ((v1 * 31) + (FP.d2l (FP.dmul 4652218415073722368 x3)))), (0, .ref v0), (3, .int v3), (4, .int v4)]) hx hb dX9_digest_109 rfl hl (by decide) rfl (fun ls hl => ?_)
            refine lv_lload_n hx hb dX9_digest_110 rfl (lv_at hl 0 rfl) ?_
            refine r_ldcl (v := 31) X kc_X9_270 dX9_digest_111 ?_
            refine lv_lmul hx hb dX9_digest_114 ?_
            refine r_ldcd (v := 4652218415073722368) X kc_X9_272 dX9_digest_115 ?_
            refine lv_aload_n hx hb dX9_digest_118 rfl (lv_at hl 1 rfl) ?_
            refine r_getr X hM hP fl_X9_10 dX9_digest_119 (fun x4 hP => ?_)
            refine lv_iload_n hx hb dX9_digest_122 rfl (lv_at hl 2 rfl) ?_
            obtain ⟨hcs, hP⟩ := hP
            refine r_callFr (rest := [.double 4652218415073722368, .long (((v1 * 31) + (FP.d2l (FP.dmul 4652218415073722368 x3))) * 31)]) X hM hS (ct_Jx4a65c_get_915e3 hst x4 v3) hP mF_X9_57 rfl rfl hl.1 (Nat.le_of_ble_eq_true rfl) ⟨⟨by decide, by decide⟩, hcs⟩ dX9_digest_123 (fun r5 M H locs hM hS hP => ?_)
            refine r_cast (C := RX7) (T := TX7) (N := 12) X hM hP rfl al_X9_44 dX9_digest_128 (fun hP => ?_)
            refine r_getd X hM hP fl_X9_245 dX9_digest_131 (fun x6 hP => ?_)
            obtain ⟨h9, hP⟩ := hP
            refine lv_dmul hx hb dX9_digest_134 h9 ?_
            refine lv_d2l hx hb dX9_digest_135 ?_
            refine lv_ladd hx hb dX9_digest_136 ?_
            refine lv_lstore_n (lv' := [(1, .long ((((v1 * 31) + (FP.d2l (FP.dmul 4652218415073722368 x3))) * 31) + (FP.d2l (FP.dmul 4652218415073722368 x6)))), (0, .ref v0), (3, .int v3), (4, .int v4)]) hx hb dX9_digest_137 rfl hl (by decide) rfl (fun ls hl => ?_)
            refine lv_lload_n hx hb dX9_digest_138 rfl (lv_at hl 0 rfl) ?_
            refine r_ldcl (v := 31) X kc_X9_270 dX9_digest_139 ?_
            refine lv_lmul hx hb dX9_digest_142 ?_
            refine lv_aload_n hx hb dX9_digest_143 rfl (lv_at hl 1 rfl) ?_
            refine lv_aload_n hx hb dX9_digest_144 rfl (lv_at hl 1 rfl) ?_
            refine r_getr X hM hP fl_X9_10 dX9_digest_145 (fun x7 hP => ?_)
            refine lv_iload_n hx hb dX9_digest_148 rfl (lv_at hl 2 rfl) ?_
            obtain ⟨hcs, hP⟩ := hP
            refine r_callFr (rest := [.ref v0, .long (((((v1 * 31) + (FP.d2l (FP.dmul 4652218415073722368 x3))) * 31) + (FP.d2l (FP.dmul 4652218415073722368 x6))) * 31)]) X hM hS (ct_Jx4a65c_get_915e3 hst x7 v3) hP mF_X9_57 rfl rfl hl.1 (Nat.le_of_ble_eq_true rfl) ⟨⟨by decide, by decide⟩, hcs⟩ dX9_digest_149 (fun r8 M H locs hM hS hP => ?_)
            refine r_cast (C := RX7) (T := TX7) (N := 12) X hM hP rfl al_X9_44 dX9_digest_154 (fun hP => ?_)
            obtain ⟨hcs, hP⟩ := hP
            refine r_callVi (rest := [.long (((((v1 * 31) + (FP.d2l (FP.dmul 4652218415073722368 x3))) * 31) + (FP.d2l (FP.dmul 4652218415073722368 x6))) * 31)]) (T := TX9) (N := 14) X hM hS (ct_X9_why hst v0 r8) hP mV_X9_181 rfl rfl rfl hl.1 (Nat.le_of_ble_eq_true rfl) ⟨⟨by decide, by decide⟩, hcs⟩ dX9_digest_157 (fun r9 M H locs hM hS hP => ?_)
            refine lv_i2l hx hb dX9_digest_160 rfl ?_
            refine lv_ladd hx hb dX9_digest_161 ?_
            refine lv_lstore_n (lv' := [(1, .long ((((((v1 * 31) + (FP.d2l (FP.dmul 4652218415073722368 x3))) * 31) + (FP.d2l (FP.dmul 4652218415073722368 x6))) * 31) + r9.toInt64)), (0, .ref v0), (3, .int v3), (4, .int v4)]) hx hb dX9_digest_162 rfl hl (by decide) rfl (fun ls hl => ?_)
            refine lv_lload_n hx hb dX9_digest_163 rfl (lv_at hl 0 rfl) ?_
            refine r_ldcl (v := 31) X kc_X9_270 dX9_digest_164 ?_
            refine lv_lmul hx hb dX9_digest_167 ?_
            refine lv_aload_n hx hb dX9_digest_168 rfl (lv_at hl 1 rfl) ?_
            refine lv_iload_n hx hb dX9_digest_169 rfl (lv_at hl 2 rfl) ?_
            obtain ⟨hcs, hP⟩ := hP
            refine r_callVi (rest := [.long (((((((v1 * 31) + (FP.d2l (FP.dmul 4652218415073722368 x3))) * 31) + (FP.d2l (FP.dmul 4652218415073722368 x6))) * 31) + r9.toInt64) * 31)]) (T := TX9) (N := 14) X hM hS (ct_X9_bestNow hst v0 v3) hP mV_X9_265 rfl rfl rfl hl.1 (Nat.le_of_ble_eq_true rfl) ⟨⟨by decide, by decide⟩, hcs⟩ dX9_digest_170 (fun r10 M H locs hM hS hP => ?_)
            refine lv_i2l hx hb dX9_digest_173 rfl ?_
            refine lv_ladd hx hb dX9_digest_174 ?_
            refine lv_lstore_n (lv' := [(1, .long ((((((((v1 * 31) + (FP.d2l (FP.dmul 4652218415073722368 x3))) * 31) + (FP.d2l (FP.dmul 4652218415073722368 x6))) * 31) + r9.toInt64) * 31) + r10.toInt64)), (0, .ref v0), (3, .int v3), (4, .int v4)]) hx hb dX9_digest_175 rfl hl (by decide) rfl (fun ls hl => ?_)
            refine lv_iinc (v := v3 + 1) (lv' := [(3, .int (v3 + 1)), (1, .long ((((((((v1 * 31) + (FP.d2l (FP.dmul 4652218415073722368 x3))) * 31) + (FP.d2l (FP.dmul 4652218415073722368 x6))) * 31) + r9.toInt64) * 31) + r10.toInt64)), (0, .ref v0), (4, .int v4)]) hx hb dX9_digest_176 hl (k := 2) rfl rfl (by decide) rfl (fun ls hl => ?_)
            refine lv_goto (tgt := 38) hx hb dX9_digest_179 (by decide) ?_
            exact ih38 u w v0 ((((((((v1 * 31) + (FP.d2l (FP.dmul 4652218415073722368 x3))) * 31) + (FP.d2l (FP.dmul 4652218415073722368 x6))) * 31) + r9.toInt64) * 31) + r10.toInt64) (v3 + 1) _ _ _ _ hM hS (lv_sub hl [2, 1, 0] rfl) hP
          · have hP := mIf_f hP hc
            refine lv_lload_n hx hb dX9_digest_61 rfl (lv_at hl 1 rfl) ?_
            refine r_ldcl (v := 31) X kc_X9_270 dX9_digest_62 ?_
            refine lv_lmul hx hb dX9_digest_65 ?_
            refine lv_aload_n hx hb dX9_digest_66 rfl (lv_at hl 0 rfl) ?_
            refine lv_iload_n hx hb dX9_digest_67 rfl (lv_at hl 2 rfl) ?_
            refine lv_iload hx hb dX9_digest_68 (lv_at hl 3 rfl) ?_
            obtain ⟨hcs, hP⟩ := hP
            refine r_callVi (rest := [.long (v1 * 31)]) (T := TX9) (N := 14) X hM hS (ct_X9_jumperNow hst v0 v3 v4) hP mV_X9_249 rfl rfl rfl hl.1 (Nat.le_of_ble_eq_true rfl) ⟨⟨by decide, by decide⟩, hcs⟩ dX9_digest_70 (fun r11 M H locs hM hS hP => ?_)
            refine lv_i2l hx hb dX9_digest_73 rfl ?_
            refine lv_ladd hx hb dX9_digest_74 ?_
            refine lv_lstore_n (lv' := [(1, .long ((v1 * 31) + r11.toInt64)), (0, .ref v0), (3, .int v3), (4, .int v4)]) hx hb dX9_digest_75 rfl hl (by decide) rfl (fun ls hl => ?_)
            refine lv_iinc (v := v4 + 1) (lv' := [(4, .int (v4 + 1)), (1, .long ((v1 * 31) + r11.toInt64)), (0, .ref v0), (3, .int v3)]) hx hb dX9_digest_76 hl (k := 3) rfl rfl (by decide) rfl (fun ls hl => ?_)
            refine lv_goto (tgt := 54) hx hb dX9_digest_79 (by decide) ?_
            exact ih54 (u + 1) (w + 9) v0 ((v1 * 31) + r11.toInt64) v3 (v4 + 1) _ _ _ _ hM hS (lv_sub hl [2, 1, 3, 0] rfl) hP
      intro u w v0 v1 v3 M H locs ls hM hS hl hP
      have hP : f_X9_digest_b38_body K k (f_X9_digest_b38 K k n38) u w v0 v1 v3 M := hP
      unfold f_X9_digest_b38_body at hP
      refine lv_iload_n hx hb dX9_digest_38 rfl (lv_at hl 2 rfl) ?_
      refine lv_aload_n hx hb dX9_digest_39 rfl (lv_at hl 0 rfl) ?_
      refine r_getr X hM hP fl_X9_10 dX9_digest_40 (fun x1 hP => ?_)
      obtain ⟨hcs, hP⟩ := hP
      refine r_callFi (rest := [.int v3]) X hM hS (ct_Jx4a65c_size_8abf5 hst x1) hP mF_X9_33 rfl rfl hl.1 (Nat.le_of_ble_eq_true rfl) ⟨⟨by decide, by decide⟩, hcs⟩ dX9_digest_43 (fun r2 M H locs hM hS hP => ?_)
      refine lv_icmp_ge (tgt := 182) hx hb dX9_digest_48 (by decide) (fun hc => ?_) (fun hc => ?_)
      · have hP := mIf_t hP hc
        refine lv_iconst (v := 0) hx hb dX9_digest_182 (by decide) ?_
        refine lv_istore_n (lv' := [(3, .int 0), (0, .ref v0), (1, .long v1)]) hx hb dX9_digest_183 rfl hl (by decide) rfl (fun ls hl => ?_)
        exact hb184 mFuel u w v0 v1 0 _ _ _ _ hM hS (lv_sub hl [1, 2, 0] rfl) hP
      · have hP := mIf_f hP hc
        refine lv_iconst (v := 0) hx hb dX9_digest_51 (by decide) ?_
        refine lv_istore (lv' := [(4, .int 0), (0, .ref v0), (1, .long v1), (3, .int v3)]) hx hb dX9_digest_52 hl (by decide) rfl (fun ls hl => ?_)
        exact hb54 mFuel u w v0 v1 v3 0 _ _ _ _ hM hS (lv_sub hl [1, 2, 3, 0] rfl) hP
  have hb11 : ∀ (n11 : Nat) (u w : Nat) (v0 : Nat) (v1 : Int64) (v3 : Int32) (M : Mem) (H : Heap) (locs : List Loc) (ls : Array Slot), mh K M H → va_S (mFA K) s.heap H locs → lv_has ls 5 [(0, .ref v0), (1, .long v1), (3, .int v3)] → f_X9_digest_b11 K k n11 u w v0 v1 v3 M → W p l e rm_X9_digest s m ([.ref a0] : List Value).toArray below meth c H locs u w (MQ below (mQ K Q) ([.ref a0] : List Value).toArray s rm_X9_digest.cells rm_X9_digest.slots (mFA K)) (F0 m 11 ls []) := by
    intro n11
    induction n11 with
    | zero =>
      intro u w v0 v1 v3 M H locs ls hM hS hl hP
      exact hP.elim
    | succ n11 ih11 =>
      intro u w v0 v1 v3 M H locs ls hM hS hl hP
      have hP : f_X9_digest_b11_body K k (f_X9_digest_b11 K k n11) u w v0 v1 v3 M := hP
      unfold f_X9_digest_b11_body at hP
      refine lv_iload_n hx hb dX9_digest_11 rfl (lv_at hl 2 rfl) ?_
      refine lv_bipush (v := 12) hx hb dX9_digest_12 (by decide) ?_
      refine lv_icmp_gt (tgt := 36) hx hb dX9_digest_14 (by decide) (fun hc => ?_) (fun hc => ?_)
      · have hP := mIf_t hP hc
        refine lv_iconst (v := 0) hx hb dX9_digest_36 (by decide) ?_
        refine lv_istore_n (lv' := [(3, .int 0), (0, .ref v0), (1, .long v1)]) hx hb dX9_digest_37 rfl hl (by decide) rfl (fun ls hl => ?_)
        exact hb38 mFuel u w v0 v1 0 _ _ _ _ hM hS (lv_sub hl [1, 2, 0] rfl) hP
      · have hP := mIf_f hP hc
        refine lv_lload_n hx hb dX9_digest_17 rfl (lv_at hl 1 rfl) ?_
        refine r_ldcl (v := 31) X kc_X9_270 dX9_digest_18 ?_
        refine lv_lmul hx hb dX9_digest_21 ?_
        refine lv_aload_n hx hb dX9_digest_22 rfl (lv_at hl 0 rfl) ?_
        refine lv_iload_n hx hb dX9_digest_23 rfl (lv_at hl 2 rfl) ?_
        obtain ⟨hcs, hP⟩ := hP
        refine r_callVi (rest := [.long (v1 * 31)]) (T := TX9) (N := 14) X hM hS (ct_X9_manyNow hst v0 v3) hP mV_X9_255 rfl rfl rfl hl.1 (Nat.le_of_ble_eq_true rfl) ⟨⟨by decide, by decide⟩, hcs⟩ dX9_digest_24 (fun r1 M H locs hM hS hP => ?_)
        refine lv_i2l hx hb dX9_digest_27 rfl ?_
        refine lv_ladd hx hb dX9_digest_28 ?_
        refine lv_lstore_n (lv' := [(1, .long ((v1 * 31) + r1.toInt64)), (0, .ref v0), (3, .int v3)]) hx hb dX9_digest_29 rfl hl (by decide) rfl (fun ls hl => ?_)
        refine lv_iinc (v := v3 + 1) (lv' := [(3, .int (v3 + 1)), (1, .long ((v1 * 31) + r1.toInt64)), (0, .ref v0)]) hx hb dX9_digest_30 hl (k := 2) rfl rfl (by decide) rfl (fun ls hl => ?_)
        refine lv_goto (tgt := 11) hx hb dX9_digest_33 (by decide) ?_
        exact ih11 (u + 1) (w + 13) v0 ((v1 * 31) + r1.toInt64) (v3 + 1) _ _ _ _ hM hS (lv_sub hl [2, 1, 0] rfl) hP
  unfold f_X9_digest at hP
  refine lv_aload_n hx hb dX9_digest_0 rfl (lv_at hl 0 rfl) ?_
  refine lv_iconst (v := 0) hx hb dX9_digest_1 (by decide) ?_
  refine r_put X hM hS hP fl_X9_30 ft_X9 rfl (tyX9_ok 0 (Nat.le_of_ble_eq_true rfl)) rfl rfl dX9_digest_2 (fun M H locs hM hS hP => ?_)
  refine r_ldcl (v := 58311) X kc_X9_268 dX9_digest_5 ?_
  refine lv_lstore_n (lv' := [(1, .long 58311), (0, .ref a0)]) hx hb dX9_digest_8 rfl hl (by decide) rfl (fun ls hl => ?_)
  refine lv_iconst (v := 0) hx hb dX9_digest_9 (by decide) ?_
  refine lv_istore_n (lv' := [(3, .int 0), (1, .long 58311), (0, .ref a0)]) hx hb dX9_digest_10 rfl hl (by decide) rfl (fun ls hl => ?_)
  exact hb11 mFuel 0 0 a0 58311 0 _ _ _ _ hM hS (lv_sub hl [2, 1, 0] rfl) hP
