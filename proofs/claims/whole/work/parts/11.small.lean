/-! ===== shadows and walks, laid by program ===== -/
def f_X1_init (K : Cfg) (a0 : Nat) (k : Mem → Prop) : Mem → Prop :=
 mPut a0 2 0 (.int 6) <|
 mPut a0 2 1 (.int 1) <|
 mPut a0 2 2 (.int 1) <|
 mPut a0 2 3 (.double FP.dconst0) <|
 mPutZ a0 2 4 0 <|
 mPut a0 2 5 (.int 0) <|
 mPut a0 2 6 (.int 9) <|
 mPut a0 2 7 (.int 0) <|
 mPut a0 2 8 (.double FP.dconst0) <|
 mPut a0 2 9 (.double FP.dconst0) <|
 mPut a0 2 10 (.int 0) <|
 k
abbrev rm_X1_init : Room := { frames := 1, cells := 0, slots := 0, locals := 12 }
set_option maxHeartbeats 4000000 in
set_option maxRecDepth 100000 in
theorem ct_X1_init {K : Cfg} {l : Launch} (hst : l.stackTraces = false) (a0 : Nat) : mPv K l yX1_init cX1_init 1 none rm_X1_init [.ref a0] (f_X1_init K a0) := by
  refine mPv.of hst (by decide +kernel) (Nat.le_of_ble_eq_true rfl) ?_
  intro M k Q hk hP p e s m below meth c X hr hlocks hname hM ls hl
  have hx := X.1.1
  have hb := X.1.2.1
  have X : Cx K p l s m ([.ref a0] : List Value).toArray c cX1_init 1 RX1 := X
  have hS : va_S (mFA K) s.heap s.heap [] := va_S.rf
  have hl : lv_has ls 1 [(0, .ref a0)] := hl
  unfold f_X1_init at hP
  refine lv_aload_n hx hb dX1_init_0 rfl (lv_at hl 0 rfl) ?_
  refine r_objInit X ol_X1_3 mLA_oi mLA_oc hl.1 (by decide) (by decide) dX1_init_1 ?_
  refine lv_aload_n hx hb dX1_init_4 rfl (lv_at hl 0 rfl) ?_
  refine lv_bipush (v := 6) hx hb dX1_init_5 (by decide) ?_
  refine r_put X hM hS hP fl_X1_9 ft_X1 rfl (tyX1_ok 0 (Nat.le_of_ble_eq_true rfl)) rfl rfl dX1_init_7 (fun M H locs hM hS hP => ?_)
  refine lv_aload_n hx hb dX1_init_10 rfl (lv_at hl 0 rfl) ?_
  refine lv_iconst (v := 1) hx hb dX1_init_11 (by decide) ?_
  refine r_put X hM hS hP fl_X1_15 ft_X1 rfl (tyX1_ok 1 (Nat.le_of_ble_eq_true rfl)) rfl rfl dX1_init_12 (fun M H locs hM hS hP => ?_)
  refine lv_aload_n hx hb dX1_init_15 rfl (lv_at hl 0 rfl) ?_
  refine lv_iconst (v := 1) hx hb dX1_init_16 (by decide) ?_
  refine r_put X hM hS hP fl_X1_18 ft_X1 rfl (tyX1_ok 2 (Nat.le_of_ble_eq_true rfl)) rfl rfl dX1_init_17 (fun M H locs hM hS hP => ?_)
  refine lv_aload_n hx hb dX1_init_20 rfl (lv_at hl 0 rfl) ?_
  refine lv_dconst0 hx hb dX1_init_21 ?_
  refine r_put X hM hS hP fl_X1_21 ft_X1 rfl (tyX1_ok 3 (Nat.le_of_ble_eq_true rfl)) rfl rfl dX1_init_22 (fun M H locs hM hS hP => ?_)
  refine lv_aload_n hx hb dX1_init_25 rfl (lv_at hl 0 rfl) ?_
  refine lv_iconst (v := 0) hx hb dX1_init_26 (by decide) ?_
  refine r_putz X hM hS hP fl_X1_25 ft_X1 rfl (tyX1_ok 4 (Nat.le_of_ble_eq_true rfl)) dX1_init_27 (fun M H locs hM hS hP => ?_)
  refine lv_aload_n hx hb dX1_init_30 rfl (lv_at hl 0 rfl) ?_
  refine lv_iconst (v := 0) hx hb dX1_init_31 (by decide) ?_
  refine r_put X hM hS hP fl_X1_29 ft_X1 rfl (tyX1_ok 5 (Nat.le_of_ble_eq_true rfl)) rfl rfl dX1_init_32 (fun M H locs hM hS hP => ?_)
  refine lv_aload_n hx hb dX1_init_35 rfl (lv_at hl 0 rfl) ?_
  refine lv_bipush (v := 9) hx hb dX1_init_36 (by decide) ?_
  refine r_put X hM hS hP fl_X1_32 ft_X1 rfl (tyX1_ok 6 (Nat.le_of_ble_eq_true rfl)) rfl rfl dX1_init_38 (fun M H locs hM hS hP => ?_)
  refine lv_aload_n hx hb dX1_init_41 rfl (lv_at hl 0 rfl) ?_
  refine lv_iconst (v := 0) hx hb dX1_init_42 (by decide) ?_
  refine r_put X hM hS hP fl_X1_35 ft_X1 rfl (tyX1_ok 7 (Nat.le_of_ble_eq_true rfl)) rfl rfl dX1_init_43 (fun M H locs hM hS hP => ?_)
  refine lv_aload_n hx hb dX1_init_46 rfl (lv_at hl 0 rfl) ?_
  refine lv_dconst0 hx hb dX1_init_47 ?_
  refine r_put X hM hS hP fl_X1_38 ft_X1 rfl (tyX1_ok 8 (Nat.le_of_ble_eq_true rfl)) rfl rfl dX1_init_48 (fun M H locs hM hS hP => ?_)
  refine lv_aload_n hx hb dX1_init_51 rfl (lv_at hl 0 rfl) ?_
  refine lv_dconst0 hx hb dX1_init_52 ?_
  refine r_put X hM hS hP fl_X1_41 ft_X1 rfl (tyX1_ok 9 (Nat.le_of_ble_eq_true rfl)) rfl rfl dX1_init_53 (fun M H locs hM hS hP => ?_)
  refine lv_aload_n hx hb dX1_init_56 rfl (lv_at hl 0 rfl) ?_
  refine lv_iconst (v := 0) hx hb dX1_init_57 (by decide) ?_
  refine r_put X hM hS hP fl_X1_44 ft_X1 rfl (tyX1_ok 10 (Nat.le_of_ble_eq_true rfl)) rfl rfl dX1_init_58 (fun M H locs hM hS hP => ?_)
  exact e_vret X hM hS (hk _ hP) hr hlocks (by decide) (by decide) dX1_init_61
def f_X0_init_b20_body (K : Cfg) (k : Mem → Prop) (lp20 : Nat → Nat → Nat → Int32 → Mem → Prop) (u w : Nat) (v0 : Nat) (v1 : Int32) : Mem → Prop :=
 mIf (6 ≤ v1)
 (mAs (u ≤ 7 ∧ w ≤ 72) <|
 k)
 (mGetR v0 1 0 fun x1 =>
 mAs (u + 1 ≤ 7 ∧ w + 11 ≤ 72) <|
 mNew K 2 [.int 0, .int 0, .int 0, .double 0, .int 0, .int 0, .int 0, .int 0, .double 0, .double 0, .int 0] fun x2 =>
 mAs (u + 1 ≤ 7 ∧ w + 11 ≤ 72) <|
 f_X1_init K x2 (
 mStQ K 6 2 x1 v1 x2 <|
 lp20 (u + 1) (w + 11) v0 (v1 + 1)))
def f_X0_init_b20 (K : Cfg) (k : Mem → Prop) : Nat → Nat → Nat → Nat → Int32 → Mem → Prop
  | 0 => fun _ _ _ _ _ => False
  | n + 1 => f_X0_init_b20_body K k (f_X0_init_b20 K k n)
def f_X0_init (K : Cfg) (a0 : Nat) (k : Mem → Prop) : Mem → Prop :=
 mAs (0 + 1 ≤ 7 ∧ 0 + 6 ≤ 72) <|
 mNewA K 6 (6, .inr (.inr (.inr (.inr (fun _ => none))))) fun x1 =>
 mPut a0 1 0 (.ref x1) <|
 mPut a0 1 1 (.int 0) <|
 f_X0_init_b20 K k mFuel (0 + 1) (0 + 6) a0 0
abbrev rm_X0_init : Room := { frames := 2, cells := 7, slots := 72, locals := 32 }
set_option maxHeartbeats 4000000 in
set_option maxRecDepth 100000 in
theorem ct_X0_init {K : Cfg} {l : Launch} (hst : l.stackTraces = false) (a0 : Nat) : mPv K l yX0_init cX0_init 2 none rm_X0_init [.ref a0] (f_X0_init K a0) := by
  refine mPv.of hst (by decide +kernel) (Nat.le_of_ble_eq_true rfl) ?_
  intro M k Q hk hP p e s m below meth c X hr hlocks hname hM ls hl
  have hx := X.1.1
  have hb := X.1.2.1
  have X : Cx K p l s m ([.ref a0] : List Value).toArray c cX0_init 2 RX0 := X
  have hS : va_S (mFA K) s.heap s.heap [] := va_S.rf
  have hl : lv_has ls 2 [(0, .ref a0)] := hl
  have hb20 : ∀ (n20 : Nat) (u w : Nat) (v0 : Nat) (v1 : Int32) (M : Mem) (H : Heap) (locs : List Loc) (ls : Array Slot), mh K M H → va_S (mFA K) s.heap H locs → lv_has ls 2 [(0, .ref v0), (1, .int v1)] → f_X0_init_b20 K k n20 u w v0 v1 M → W p l e rm_X0_init s m ([.ref a0] : List Value).toArray below meth c H locs u w (MQ below (mQ K Q) ([.ref a0] : List Value).toArray s rm_X0_init.cells rm_X0_init.slots (mFA K)) (F0 m 20 ls []) := by
    intro n20
    induction n20 with
    | zero =>
      intro u w v0 v1 M H locs ls hM hS hl hP
      exact hP.elim
    | succ n20 ih20 =>
      intro u w v0 v1 M H locs ls hM hS hl hP
      have hP : f_X0_init_b20_body K k (f_X0_init_b20 K k n20) u w v0 v1 M := hP
      unfold f_X0_init_b20_body at hP
      refine lv_iload_n hx hb dX0_init_20 rfl (lv_at hl 1 rfl) ?_
      refine lv_bipush (v := 6) hx hb dX0_init_21 (by decide) ?_
      refine lv_icmp_ge (tgt := 45) hx hb dX0_init_23 (by decide) (fun hc => ?_) (fun hc => ?_)
      · have hP := mIf_t hP hc
        obtain ⟨⟨h97, h98⟩, hP⟩ := hP
        exact e_vret X hM hS (hk _ hP) hr hlocks h97 h98 dX0_init_45
      · have hP := mIf_f hP hc
        refine lv_aload_n hx hb dX0_init_26 rfl (lv_at hl 0 rfl) ?_
        refine r_getr X hM hP fl_X0_11 dX0_init_27 (fun x1 hP => ?_)
        refine lv_iload_n hx hb dX0_init_30 rfl (lv_at hl 1 rfl) ?_
        obtain ⟨hcs, hP⟩ := hP
        refine r_new X hM hS hP nl_X0_9 ft_X1 df_X1 hcs dX0_init_31 (fun x2 M H hM hS hP => ?_)
        refine lv_dup hx hb dX0_init_34 rfl ?_
        obtain ⟨hcs, hP⟩ := hP
        refine r_callINv (n := 0) (rest := [.ref x2, .int v1, .ref x1]) (host := "ChuteLoft") X hM hS (ct_X1_init hst x2) hP (List.mem_of_getElem? (i := 1) rfl) cw_X1_init iw_ChuteLoft_Jump (by decide +kernel) rfl in9_X1_init rfl rfl hl.1 (Nat.le_of_ble_eq_true rfl) ⟨⟨by decide, by decide⟩, hcs⟩ dX0_init_35 (fun M H locs hM hS hP => ?_)
        refine r_stq (C := RX1) (T := TX1) (N := 11) (fun _ => rfl) rfl X hM hS hP dX0_init_38 (fun M H locs hM hS hP => ?_)
        refine lv_iinc (v := v1 + 1) (lv' := [(1, .int (v1 + 1)), (0, .ref v0)]) hx hb dX0_init_39 hl (k := 1) rfl rfl (by decide) rfl (fun ls hl => ?_)
        refine lv_goto (tgt := 20) hx hb dX0_init_42 (by decide) ?_
        exact ih20 (u + 1) (w + 11) v0 (v1 + 1) _ _ _ _ hM hS (lv_sub hl [1, 0] rfl) hP
  unfold f_X0_init at hP
  refine lv_aload_n hx hb dX0_init_0 rfl (lv_at hl 0 rfl) ?_
  refine r_objInit X ol_X0_3 mLA_oi mLA_oc hl.1 (by decide) (by decide) dX0_init_1 ?_
  refine lv_aload_n hx hb dX0_init_4 rfl (lv_at hl 0 rfl) ?_
  refine lv_bipush (v := 6) hx hb dX0_init_5 (by decide) ?_
  obtain ⟨hcs, hP⟩ := hP
  refine r_newq (t := 6) (fun _ => rfl) (List.mem_of_getElem? (i := 2) rfl) al_X0_9 X hM hS hP (by decide) (by decide) (by decide) hcs dX0_init_7 (fun x1 M H hM hS hP => ?_)
  refine r_putF X hM hS hP fl_X0_11 ft_X0 rfl hname rfl (tyX0_ok 0 (Nat.le_of_ble_eq_true rfl)) rfl rfl dX0_init_10 (fun M H locs hM hS hP => ?_)
  refine lv_aload_n hx hb dX0_init_13 rfl (lv_at hl 0 rfl) ?_
  refine lv_iconst (v := 0) hx hb dX0_init_14 (by decide) ?_
  refine r_put X hM hS hP fl_X0_17 ft_X0 rfl (tyX0_ok 1 (Nat.le_of_ble_eq_true rfl)) rfl rfl dX0_init_15 (fun M H locs hM hS hP => ?_)
  refine lv_iconst (v := 0) hx hb dX0_init_18 (by decide) ?_
  refine lv_istore_n (lv' := [(1, .int 0), (0, .ref a0)]) hx hb dX0_init_19 rfl hl (by decide) rfl (fun ls hl => ?_)
  exact hb20 mFuel (0 + 1) (0 + 6) a0 0 _ _ _ _ hM hS (lv_sub hl [1, 0] rfl) hP
def f_X0_jumpAt_b19 (K : Cfg) (k : Nat → Mem → Prop) (t0 : Nat) (t1 : Int32) : Mem → Prop :=
 mLdQ K 6 t0 t1 fun x1 =>
 k x1
def f_X0_jumpAt_b18 (K : Cfg) (k : Nat → Mem → Prop) (t0 : Nat) : Mem → Prop :=
 f_X0_jumpAt_b19 K k t0 0
def f_X0_jumpAt (K : Cfg) (a0 : Nat) (a1 : Int32) (k : Nat → Mem → Prop) : Mem → Prop :=
 mGetR a0 1 0 fun x1 =>
 mIf (a1 < 0)
 (f_X0_jumpAt_b18 K k x1)
 (mIf (6 ≤ a1)
 (f_X0_jumpAt_b18 K k x1)
 (f_X0_jumpAt_b19 K k x1 a1))
abbrev rm_X0_jumpAt : Room := { frames := 0, cells := 0, slots := 0, locals := 0 }
set_option maxHeartbeats 4000000 in
set_option maxRecDepth 100000 in
theorem ct_X0_jumpAt {K : Cfg} {l : Launch} (hst : l.stackTraces = false) (a0 : Nat) (a1 : Int32) : mPr K l yX0_jumpAt cX0_jumpAt 2 (some (.object "ChuteLoft$Jump")) rm_X0_jumpAt [.ref a0, .int a1] (f_X0_jumpAt K a0 a1) := by
  refine mPr.of hst (by decide +kernel) (Nat.le_of_ble_eq_true rfl) ?_
  intro M k Q hk hP p e s m below meth c X hr hlocks hname hM ls hl
  have hx := X.1.1
  have hb := X.1.2.1
  have X : Cx K p l s m ([.ref a0, .int a1] : List Value).toArray c cX0_jumpAt 2 RX0 := X
  have hS : va_S (mFA K) s.heap s.heap [] := va_S.rf
  have hl : lv_has ls 2 [(0, .ref a0), (1, .int a1)] := hl
  have hb19 : ∀ (t0 : Nat) (t1 : Int32) (M : Mem) (H : Heap) (locs : List Loc) (ls : Array Slot), mh K M H → va_S (mFA K) s.heap H locs → lv_has ls 2 [] → f_X0_jumpAt_b19 K k t0 t1 M → W p l e rm_X0_jumpAt s m ([.ref a0, .int a1] : List Value).toArray below meth c H locs 0 0 (MQ below (mQ K Q) ([.ref a0, .int a1] : List Value).toArray s rm_X0_jumpAt.cells rm_X0_jumpAt.slots (mFA K)) (F0 m 19 ls [.int t1, .ref t0]) := by
    intro t0 t1 M H locs ls hM hS hl hP
    unfold f_X0_jumpAt_b19 at hP
    refine r_ldq (t := 6) (fun _ => rfl) X hM hP dX0_jumpAt_19 (fun x1 hP => ?_)
    exact e_aret X hM hS (hk _ _ hP) hr (Or.inl ⟨_, rfl⟩) hlocks (by decide) (by decide) dX0_jumpAt_20
  have hb18 : ∀ (t0 : Nat) (M : Mem) (H : Heap) (locs : List Loc) (ls : Array Slot), mh K M H → va_S (mFA K) s.heap H locs → lv_has ls 2 [] → f_X0_jumpAt_b18 K k t0 M → W p l e rm_X0_jumpAt s m ([.ref a0, .int a1] : List Value).toArray below meth c H locs 0 0 (MQ below (mQ K Q) ([.ref a0, .int a1] : List Value).toArray s rm_X0_jumpAt.cells rm_X0_jumpAt.slots (mFA K)) (F0 m 18 ls [.ref t0]) := by
    intro t0 M H locs ls hM hS hl hP
    unfold f_X0_jumpAt_b18 at hP
    refine lv_iconst (v := 0) hx hb dX0_jumpAt_18 (by decide) ?_
    exact hb19 t0 0 _ _ _ _ hM hS (lv_sub hl [] rfl) hP
  unfold f_X0_jumpAt at hP
  refine lv_aload_n hx hb dX0_jumpAt_0 rfl (lv_at hl 0 rfl) ?_
  refine r_getr X hM hP fl_X0_11 dX0_jumpAt_1 (fun x1 hP => ?_)
  refine lv_iload_n hx hb dX0_jumpAt_4 rfl (lv_at hl 1 rfl) ?_
  refine lv_if_lt (tgt := 18) hx hb dX0_jumpAt_5 (by decide) (fun hc => ?_) (fun hc => ?_)
  · have hP := mIf_t hP hc
    exact hb18 x1 _ _ _ _ hM hS (lv_sub hl [] rfl) hP
  · have hP := mIf_f hP hc
    refine lv_iload_n hx hb dX0_jumpAt_8 rfl (lv_at hl 1 rfl) ?_
    refine lv_bipush (v := 6) hx hb dX0_jumpAt_9 (by decide) ?_
    refine lv_icmp_ge (tgt := 18) hx hb dX0_jumpAt_11 (by decide) (fun hc => ?_) (fun hc => ?_)
    · have hP := mIf_t hP hc
      exact hb18 x1 _ _ _ _ hM hS (lv_sub hl [] rfl) hP
    · have hP := mIf_f hP hc
      refine lv_iload_n hx hb dX0_jumpAt_14 rfl (lv_at hl 1 rfl) ?_
      refine lv_goto (tgt := 19) hx hb dX0_jumpAt_15 (by decide) ?_
      exact hb19 x1 a1 _ _ _ _ hM hS (lv_sub hl [] rfl) hP
def f_X4_xOf_b20 (K : Cfg) (k : Int32 → Mem → Prop) (t0 : Int32) : Mem → Prop :=
 k t0
def f_X4_xOf_b19 (K : Cfg) (k : Int32 → Mem → Prop) : Mem → Prop :=
 f_X4_xOf_b20 K k 0
def f_X4_xOf (K : Cfg) (a0 : Nat) (a1 : Int32) (k : Int32 → Mem → Prop) : Mem → Prop :=
 mIf (a1 < 0)
 (f_X4_xOf_b19 K k)
 (mIf (10 ≤ a1)
 (f_X4_xOf_b19 K k)
 (mGetR a0 5 0 fun x1 =>
 mLdI K x1 a1 fun x2 =>
 f_X4_xOf_b20 K k x2))
abbrev rm_X4_xOf : Room := { frames := 0, cells := 0, slots := 0, locals := 0 }
set_option maxHeartbeats 4000000 in
set_option maxRecDepth 100000 in
theorem ct_X4_xOf {K : Cfg} {l : Launch} (hst : l.stackTraces = false) (a0 : Nat) (a1 : Int32) : mPi K l yX4_xOf cX4_xOf 2 (some .int) rm_X4_xOf [.ref a0, .int a1] (f_X4_xOf K a0 a1) := by
  refine mPi.of hst (by decide +kernel) (Nat.le_of_ble_eq_true rfl) ?_
  intro M k Q hk hP p e s m below meth c X hr hlocks hname hM ls hl
  have hx := X.1.1
  have hb := X.1.2.1
  have X : Cx K p l s m ([.ref a0, .int a1] : List Value).toArray c cX4_xOf 2 RX4 := X
  have hS : va_S (mFA K) s.heap s.heap [] := va_S.rf
  have hl : lv_has ls 2 [(0, .ref a0), (1, .int a1)] := hl
  have hb20 : ∀ (t0 : Int32) (M : Mem) (H : Heap) (locs : List Loc) (ls : Array Slot), mh K M H → va_S (mFA K) s.heap H locs → lv_has ls 2 [] → f_X4_xOf_b20 K k t0 M → W p l e rm_X4_xOf s m ([.ref a0, .int a1] : List Value).toArray below meth c H locs 0 0 (MQ below (mQ K Q) ([.ref a0, .int a1] : List Value).toArray s rm_X4_xOf.cells rm_X4_xOf.slots (mFA K)) (F0 m 20 ls [.int t0]) := by
    intro t0 M H locs ls hM hS hl hP
    unfold f_X4_xOf_b20 at hP
    exact e_iret X hM hS (hk _ _ hP) hr hlocks (by decide) (by decide) dX4_xOf_20
  have hb19 : ∀ (M : Mem) (H : Heap) (locs : List Loc) (ls : Array Slot), mh K M H → va_S (mFA K) s.heap H locs → lv_has ls 2 [] → f_X4_xOf_b19 K k M → W p l e rm_X4_xOf s m ([.ref a0, .int a1] : List Value).toArray below meth c H locs 0 0 (MQ below (mQ K Q) ([.ref a0, .int a1] : List Value).toArray s rm_X4_xOf.cells rm_X4_xOf.slots (mFA K)) (F0 m 19 ls []) := by
    intro M H locs ls hM hS hl hP
    unfold f_X4_xOf_b19 at hP
    refine lv_iconst (v := 0) hx hb dX4_xOf_19 (by decide) ?_
    exact hb20 0 _ _ _ _ hM hS (lv_sub hl [] rfl) hP
  unfold f_X4_xOf at hP
  refine lv_iload_n hx hb dX4_xOf_0 rfl (lv_at hl 1 rfl) ?_
  refine lv_if_lt (tgt := 19) hx hb dX4_xOf_1 (by decide) (fun hc => ?_) (fun hc => ?_)
  · have hP := mIf_t hP hc
    exact hb19 _ _ _ _ hM hS (lv_sub hl [] rfl) hP
  · have hP := mIf_f hP hc
    refine lv_iload_n hx hb dX4_xOf_4 rfl (lv_at hl 1 rfl) ?_
    refine lv_bipush (v := 10) hx hb dX4_xOf_5 (by decide) ?_
    refine lv_icmp_ge (tgt := 19) hx hb dX4_xOf_7 (by decide) (fun hc => ?_) (fun hc => ?_)
    · have hP := mIf_t hP hc
      exact hb19 _ _ _ _ hM hS (lv_sub hl [] rfl) hP
    · have hP := mIf_f hP hc
      refine lv_aload_n hx hb dX4_xOf_10 rfl (lv_at hl 0 rfl) ?_
      refine r_getr X hM hP fl_X4_9 dX4_xOf_11 (fun x1 hP => ?_)
      refine lv_iload_n hx hb dX4_xOf_14 rfl (lv_at hl 1 rfl) ?_
      refine r_ldi X hM hP dX4_xOf_15 (fun x2 hP => ?_)
      refine lv_goto (tgt := 20) hx hb dX4_xOf_16 (by decide) ?_
      exact hb20 x2 _ _ _ _ hM hS (lv_sub hl [] rfl) hP
def f_X1_leave (K : Cfg) (a0 : Nat) (a1 : UInt64) (a2 : Int32) (k : Mem → Prop) : Mem → Prop :=
 mPut a0 2 5 (.int a2) <|
 mPut a0 2 6 (.int 9) <|
 mPut a0 2 7 (.int 0) <|
 mPut a0 2 8 (.double a1) <|
 mPut a0 2 9 (.double FP.dconst0) <|
 mPut a0 2 10 (.int 0) <|
 k
abbrev rm_X1_leave : Room := { frames := 0, cells := 0, slots := 0, locals := 0 }
set_option maxHeartbeats 4000000 in
set_option maxRecDepth 100000 in
theorem ct_X1_leave {K : Cfg} {l : Launch} (hst : l.stackTraces = false) (a0 : Nat) (a1 : UInt64) (a2 : Int32) : mPv K l yX1_leave cX1_leave 4 none rm_X1_leave [.ref a0, .double a1, .int a2] (f_X1_leave K a0 a1 a2) := by
  refine mPv.of hst (by decide +kernel) (Nat.le_of_ble_eq_true rfl) ?_
  intro M k Q hk hP p e s m below meth c X hr hlocks hname hM ls hl
  have hx := X.1.1
  have hb := X.1.2.1
  have X : Cx K p l s m ([.ref a0, .double a1, .int a2] : List Value).toArray c cX1_leave 4 RX1 := X
  have hS : va_S (mFA K) s.heap s.heap [] := va_S.rf
  have hl : lv_has ls 4 [(0, .ref a0), (1, .double a1), (3, .int a2)] := hl
  unfold f_X1_leave at hP
  refine lv_aload_n hx hb dX1_leave_0 rfl (lv_at hl 0 rfl) ?_
  refine lv_iload_n hx hb dX1_leave_1 rfl (lv_at hl 2 rfl) ?_
  refine r_put X hM hS hP fl_X1_29 ft_X1 rfl (tyX1_ok 5 (Nat.le_of_ble_eq_true rfl)) rfl rfl dX1_leave_2 (fun M H locs hM hS hP => ?_)
  refine lv_aload_n hx hb dX1_leave_5 rfl (lv_at hl 0 rfl) ?_
  refine lv_bipush (v := 9) hx hb dX1_leave_6 (by decide) ?_
  refine r_put X hM hS hP fl_X1_32 ft_X1 rfl (tyX1_ok 6 (Nat.le_of_ble_eq_true rfl)) rfl rfl dX1_leave_8 (fun M H locs hM hS hP => ?_)
  refine lv_aload_n hx hb dX1_leave_11 rfl (lv_at hl 0 rfl) ?_
  refine lv_iconst (v := 0) hx hb dX1_leave_12 (by decide) ?_
  refine r_put X hM hS hP fl_X1_35 ft_X1 rfl (tyX1_ok 7 (Nat.le_of_ble_eq_true rfl)) rfl rfl dX1_leave_13 (fun M H locs hM hS hP => ?_)
  refine lv_aload_n hx hb dX1_leave_16 rfl (lv_at hl 0 rfl) ?_
  refine lv_dload_n hx hb dX1_leave_17 rfl (lv_at hl 1 rfl) ?_
  refine r_put X hM hS hP fl_X1_38 ft_X1 rfl (tyX1_ok 8 (Nat.le_of_ble_eq_true rfl)) rfl rfl dX1_leave_18 (fun M H locs hM hS hP => ?_)
  refine lv_aload_n hx hb dX1_leave_21 rfl (lv_at hl 0 rfl) ?_
  refine lv_dconst0 hx hb dX1_leave_22 ?_
  refine r_put X hM hS hP fl_X1_41 ft_X1 rfl (tyX1_ok 9 (Nat.le_of_ble_eq_true rfl)) rfl rfl dX1_leave_23 (fun M H locs hM hS hP => ?_)
  refine lv_aload_n hx hb dX1_leave_26 rfl (lv_at hl 0 rfl) ?_
  refine lv_iconst (v := 0) hx hb dX1_leave_27 (by decide) ?_
  refine r_put X hM hS hP fl_X1_44 ft_X1 rfl (tyX1_ok 10 (Nat.le_of_ble_eq_true rfl)) rfl rfl dX1_leave_28 (fun M H locs hM hS hP => ?_)
  exact e_vret X hM hS (hk _ hP) hr hlocks (by decide) (by decide) dX1_leave_31
def f_X0_leave_b3_body (K : Cfg) (k : Mem → Prop) (lp3 : Nat → Int32 → Int32 → Nat → Int32 → Mem → Prop) (v0 : Nat) (v1 : Int32) (v2 : Int32) (v3 : Nat) (v4 : Int32) : Mem → Prop :=
 mGetI v0 1 1 fun x1 =>
 mIf (x1 ≤ v4)
 (k)
 (mRecv v0 1 <|
 f_X0_jumpAt K v0 v4 (fun r2 =>
 mRecv v3 5 <|
 f_X4_xOf K v3 9 (fun r3 =>
 mAs (vf_n64 (FP.dsub 4629137466983448576 (FP.i2d r3))) <|
 mAs (vf_n64 (FP.dmul (FP.i2d (v4 * v2)) (FP.dsub 4629137466983448576 (FP.i2d r3)))) <|
 mAs (vf_n64 (FP.dadd (FP.i2d v1) (FP.dmul (FP.i2d (v4 * v2)) (FP.dsub 4629137466983448576 (FP.i2d r3))))) <|
 mRecv r2 2 <|
 f_X1_leave K r2 (FP.dadd (FP.i2d v1) (FP.dmul (FP.i2d (v4 * v2)) (FP.dsub 4629137466983448576 (FP.i2d r3)))) (v4 * v2) (
 lp3 v0 v1 v2 v3 (v4 + 1)))))
def f_X0_leave_b3 (K : Cfg) (k : Mem → Prop) : Nat → Nat → Int32 → Int32 → Nat → Int32 → Mem → Prop
  | 0 => fun _ _ _ _ _ _ => False
  | n + 1 => f_X0_leave_b3_body K k (f_X0_leave_b3 K k n)
def f_X0_leave (K : Cfg) (a0 : Nat) (a1 : Int32) (a2 : Int32) (a3 : Nat) (k : Mem → Prop) : Mem → Prop :=
 f_X0_leave_b3 K k mFuel a0 a1 a2 a3 0
abbrev rm_X0_leave : Room := { frames := 1, cells := 0, slots := 0, locals := 23 }
set_option maxHeartbeats 4000000 in
set_option maxRecDepth 100000 in
theorem ct_X0_leave {K : Cfg} {l : Launch} (hst : l.stackTraces = false) (a0 : Nat) (a1 : Int32) (a2 : Int32) (a3 : Nat) : mPv K l yX0_leave cX0_leave 6 none rm_X0_leave [.ref a0, .int a1, .int a2, .ref a3] (f_X0_leave K a0 a1 a2 a3) := by
  refine mPv.of hst (by decide +kernel) (Nat.le_of_ble_eq_true rfl) ?_
  intro M k Q hk hP p e s m below meth c X hr hlocks hname hM ls hl
  have hx := X.1.1
  have hb := X.1.2.1
  have X : Cx K p l s m ([.ref a0, .int a1, .int a2, .ref a3] : List Value).toArray c cX0_leave 6 RX0 := X
  have hS : va_S (mFA K) s.heap s.heap [] := va_S.rf
  have hl : lv_has ls 6 [(0, .ref a0), (1, .int a1), (2, .int a2), (3, .ref a3)] := hl
  have hb3 : ∀ (n3 : Nat) (v0 : Nat) (v1 : Int32) (v2 : Int32) (v3 : Nat) (v4 : Int32) (M : Mem) (H : Heap) (locs : List Loc) (ls : Array Slot), mh K M H → va_S (mFA K) s.heap H locs → lv_has ls 6 [(0, .ref v0), (1, .int v1), (2, .int v2), (3, .ref v3), (4, .int v4)] → f_X0_leave_b3 K k n3 v0 v1 v2 v3 v4 M → W p l e rm_X0_leave s m ([.ref a0, .int a1, .int a2, .ref a3] : List Value).toArray below meth c H locs 0 0 (MQ below (mQ K Q) ([.ref a0, .int a1, .int a2, .ref a3] : List Value).toArray s rm_X0_leave.cells rm_X0_leave.slots (mFA K)) (F0 m 3 ls []) := by
    intro n3
    induction n3 with
    | zero =>
      intro v0 v1 v2 v3 v4 M H locs ls hM hS hl hP
      exact hP.elim
    | succ n3 ih3 =>
      intro v0 v1 v2 v3 v4 M H locs ls hM hS hl hP
      have hP : f_X0_leave_b3_body K k (f_X0_leave_b3 K k n3) v0 v1 v2 v3 v4 M := hP
      unfold f_X0_leave_b3_body at hP
      refine lv_iload hx hb dX0_leave_3 (lv_at hl 4 rfl) ?_
      refine lv_aload_n hx hb dX0_leave_5 rfl (lv_at hl 0 rfl) ?_
      refine r_geti X hM hP fl_X0_17 dX0_leave_6 (fun x1 hP => ?_)
      refine lv_icmp_ge (tgt := 53) hx hb dX0_leave_9 (by decide) (fun hc => ?_) (fun hc => ?_)
      · have hP := mIf_t hP hc
        exact e_vret X hM hS (hk _ hP) hr hlocks (by decide) (by decide) dX0_leave_53
      · have hP := mIf_f hP hc
        refine lv_iload hx hb dX0_leave_12 (lv_at hl 4 rfl) ?_
        refine lv_iload_n hx hb dX0_leave_14 rfl (lv_at hl 2 rfl) ?_
        refine lv_imul hx hb dX0_leave_15 ?_
        refine lv_istore (lv' := [(5, .int (v4 * v2)), (0, .ref v0), (1, .int v1), (2, .int v2), (3, .ref v3), (4, .int v4)]) hx hb dX0_leave_16 hl (by decide) rfl (fun ls hl => ?_)
        refine lv_aload_n hx hb dX0_leave_18 rfl (lv_at hl 1 rfl) ?_
        refine lv_iload hx hb dX0_leave_19 (lv_at hl 5 rfl) ?_
        refine r_callVr (rest := []) (T := TX0) (N := 2) X hM hS (ct_X0_jumpAt hst v0 v4) hP mV_X0_22 rfl rfl rfl hl.1 (Nat.le_of_ble_eq_true rfl) ⟨⟨by decide, by decide⟩, ⟨by decide, by decide⟩⟩ dX0_leave_21 (fun r2 M H locs hM hS hP => ?_)
        refine lv_iload_n hx hb dX0_leave_24 rfl (lv_at hl 2 rfl) ?_
        refine lv_i2d hx hb dX0_leave_25 ?_
        refine lv_iload hx hb dX0_leave_26 (lv_at hl 0 rfl) ?_
        refine lv_i2d hx hb dX0_leave_28 ?_
        refine r_ldcd (v := 4629137466983448576) X kc_X0_26 dX0_leave_29 ?_
        refine lv_aload_n hx hb dX0_leave_32 rfl (lv_at hl 4 rfl) ?_
        refine lv_bipush (v := 9) hx hb dX0_leave_33 (by decide) ?_
        refine r_callVi (rest := [.double 4629137466983448576, .double (FP.i2d (v4 * v2)), .double (FP.i2d v1), .ref r2]) (T := TX4) (N := 2) X hM hS (ct_X4_xOf hst v3 9) hP mV_X0_28 rfl rfl rfl hl.1 (Nat.le_of_ble_eq_true rfl) ⟨⟨by decide, by decide⟩, ⟨by decide, by decide⟩⟩ dX0_leave_35 (fun r3 M H locs hM hS hP => ?_)
        refine lv_i2d hx hb dX0_leave_38 ?_
        obtain ⟨h9, hP⟩ := hP
        refine lv_dsub hx hb dX0_leave_39 h9 ?_
        obtain ⟨h9, hP⟩ := hP
        refine lv_dmul hx hb dX0_leave_40 h9 ?_
        obtain ⟨h9, hP⟩ := hP
        refine lv_dadd hx hb dX0_leave_41 h9 ?_
        refine lv_iload hx hb dX0_leave_42 (lv_at hl 0 rfl) ?_
        refine r_callVv (rest := []) (T := TX1) (N := 11) X hM hS (ct_X1_leave hst r2 (FP.dadd (FP.i2d v1) (FP.dmul (FP.i2d (v4 * v2)) (FP.dsub 4629137466983448576 (FP.i2d r3)))) (v4 * v2)) hP mV_X0_34 rfl rfl rfl hl.1 (Nat.le_of_ble_eq_true rfl) ⟨⟨by decide, by decide⟩, ⟨by decide, by decide⟩⟩ dX0_leave_44 (fun M H locs hM hS hP => ?_)
        refine lv_iinc (v := v4 + 1) (lv' := [(4, .int (v4 + 1)), (5, .int (v4 * v2)), (0, .ref v0), (1, .int v1), (2, .int v2), (3, .ref v3)]) hx hb dX0_leave_47 hl (k := 5) rfl rfl (by decide) rfl (fun ls hl => ?_)
        refine lv_goto (tgt := 3) hx hb dX0_leave_50 (by decide) ?_
        exact ih3 v0 v1 v2 v3 (v4 + 1) _ _ _ _ hM hS (lv_sub hl [2, 3, 4, 5, 0] rfl) hP
  unfold f_X0_leave at hP
  refine lv_iconst (v := 0) hx hb dX0_leave_0 (by decide) ?_
  refine lv_istore (lv' := [(4, .int 0), (0, .ref a0), (1, .int a1), (2, .int a2), (3, .ref a3)]) hx hb dX0_leave_1 hl (by decide) rfl (fun ls hl => ?_)
  exact hb3 mFuel a0 a1 a2 a3 0 _ _ _ _ hM hS (lv_sub hl [1, 2, 3, 4, 0] rfl) hP
def f_X1_isDown_b12 (K : Cfg) (k : Int32 → Mem → Prop) (t0 : Int32) : Mem → Prop :=
 mAs ((t0 : Int32) = 0 ∨ (t0 : Int32) = 1) <|
 k t0
def f_X1_isDown (K : Cfg) (a0 : Nat) (k : Int32 → Mem → Prop) : Mem → Prop :=
 mGetI a0 2 6 fun x1 =>
 mIf (0 ≤ x1)
 (f_X1_isDown_b12 K k 0)
 (f_X1_isDown_b12 K k 1)
abbrev rm_X1_isDown : Room := { frames := 0, cells := 0, slots := 0, locals := 0 }
set_option maxHeartbeats 4000000 in
set_option maxRecDepth 100000 in
theorem ct_X1_isDown {K : Cfg} {l : Launch} (hst : l.stackTraces = false) (a0 : Nat) : mPi K l yX1_isDown cX1_isDown 1 (some .boolean) rm_X1_isDown [.ref a0] (f_X1_isDown K a0) := by
  refine mPi.of hst (by decide +kernel) (Nat.le_of_ble_eq_true rfl) ?_
  intro M k Q hk hP p e s m below meth c X hr hlocks hname hM ls hl
  have hx := X.1.1
  have hb := X.1.2.1
  have X : Cx K p l s m ([.ref a0] : List Value).toArray c cX1_isDown 1 RX1 := X
  have hS : va_S (mFA K) s.heap s.heap [] := va_S.rf
  have hl : lv_has ls 1 [(0, .ref a0)] := hl
  have hb12 : ∀ (t0 : Int32) (M : Mem) (H : Heap) (locs : List Loc) (ls : Array Slot), mh K M H → va_S (mFA K) s.heap H locs → lv_has ls 1 [] → f_X1_isDown_b12 K k t0 M → W p l e rm_X1_isDown s m ([.ref a0] : List Value).toArray below meth c H locs 0 0 (MQ below (mQ K Q) ([.ref a0] : List Value).toArray s rm_X1_isDown.cells rm_X1_isDown.slots (mFA K)) (F0 m 12 ls [.int t0]) := by
    intro t0 M H locs ls hM hS hl hP
    unfold f_X1_isDown_b12 at hP
    obtain ⟨h9, hP⟩ := hP
    exact e_zret X hM hS h9 (hk _ _ hP) hr hlocks (by decide) (by decide) dX1_isDown_12
  unfold f_X1_isDown at hP
  refine lv_aload_n hx hb dX1_isDown_0 rfl (lv_at hl 0 rfl) ?_
  refine r_geti X hM hP fl_X1_32 dX1_isDown_1 (fun x1 hP => ?_)
  refine lv_if_ge (tgt := 11) hx hb dX1_isDown_4 (by decide) (fun hc => ?_) (fun hc => ?_)
  · have hP := mIf_t hP hc
    refine lv_iconst (v := 0) hx hb dX1_isDown_11 (by decide) ?_
    exact hb12 0 _ _ _ _ hM hS (lv_sub hl [] rfl) hP
  · have hP := mIf_f hP hc
    refine lv_iconst (v := 1) hx hb dX1_isDown_7 (by decide) ?_
    refine lv_goto (tgt := 12) hx hb dX1_isDown_8 (by decide) ?_
    exact hb12 1 _ _ _ _ hM hS (lv_sub hl [] rfl) hP
def f_X1_isGliding_b23 (K : Cfg) (k : Int32 → Mem → Prop) (t0 : Int32) : Mem → Prop :=
 mAs ((t0 : Int32) = 0 ∨ (t0 : Int32) = 1) <|
 k t0
def f_X1_isGliding_b22 (K : Cfg) (k : Int32 → Mem → Prop) : Mem → Prop :=
 f_X1_isGliding_b23 K k 0
def f_X1_isGliding (K : Cfg) (a0 : Nat) (k : Int32 → Mem → Prop) : Mem → Prop :=
 mGetI a0 2 6 fun x1 =>
 mGetI a0 2 0 fun x2 =>
 mIf (x2 < x1)
 (f_X1_isGliding_b22 K k)
 (mGetI a0 2 6 fun x3 =>
 mIf (x3 < 0)
 (f_X1_isGliding_b22 K k)
 (f_X1_isGliding_b23 K k 1))
abbrev rm_X1_isGliding : Room := { frames := 0, cells := 0, slots := 0, locals := 0 }
set_option maxHeartbeats 4000000 in
set_option maxRecDepth 100000 in
theorem ct_X1_isGliding {K : Cfg} {l : Launch} (hst : l.stackTraces = false) (a0 : Nat) : mPi K l yX1_isGliding cX1_isGliding 1 (some .boolean) rm_X1_isGliding [.ref a0] (f_X1_isGliding K a0) := by
  refine mPi.of hst (by decide +kernel) (Nat.le_of_ble_eq_true rfl) ?_
  intro M k Q hk hP p e s m below meth c X hr hlocks hname hM ls hl
  have hx := X.1.1
  have hb := X.1.2.1
  have X : Cx K p l s m ([.ref a0] : List Value).toArray c cX1_isGliding 1 RX1 := X
  have hS : va_S (mFA K) s.heap s.heap [] := va_S.rf
  have hl : lv_has ls 1 [(0, .ref a0)] := hl
  have hb23 : ∀ (t0 : Int32) (M : Mem) (H : Heap) (locs : List Loc) (ls : Array Slot), mh K M H → va_S (mFA K) s.heap H locs → lv_has ls 1 [] → f_X1_isGliding_b23 K k t0 M → W p l e rm_X1_isGliding s m ([.ref a0] : List Value).toArray below meth c H locs 0 0 (MQ below (mQ K Q) ([.ref a0] : List Value).toArray s rm_X1_isGliding.cells rm_X1_isGliding.slots (mFA K)) (F0 m 23 ls [.int t0]) := by
    intro t0 M H locs ls hM hS hl hP
    unfold f_X1_isGliding_b23 at hP
    obtain ⟨h9, hP⟩ := hP
    exact e_zret X hM hS h9 (hk _ _ hP) hr hlocks (by decide) (by decide) dX1_isGliding_23
  have hb22 : ∀ (M : Mem) (H : Heap) (locs : List Loc) (ls : Array Slot), mh K M H → va_S (mFA K) s.heap H locs → lv_has ls 1 [] → f_X1_isGliding_b22 K k M → W p l e rm_X1_isGliding s m ([.ref a0] : List Value).toArray below meth c H locs 0 0 (MQ below (mQ K Q) ([.ref a0] : List Value).toArray s rm_X1_isGliding.cells rm_X1_isGliding.slots (mFA K)) (F0 m 22 ls []) := by
    intro M H locs ls hM hS hl hP
    unfold f_X1_isGliding_b22 at hP
    refine lv_iconst (v := 0) hx hb dX1_isGliding_22 (by decide) ?_
    exact hb23 0 _ _ _ _ hM hS (lv_sub hl [] rfl) hP
  unfold f_X1_isGliding at hP
  refine lv_aload_n hx hb dX1_isGliding_0 rfl (lv_at hl 0 rfl) ?_
  refine r_geti X hM hP fl_X1_32 dX1_isGliding_1 (fun x1 hP => ?_)
  refine lv_aload_n hx hb dX1_isGliding_4 rfl (lv_at hl 0 rfl) ?_
  refine r_geti X hM hP fl_X1_9 dX1_isGliding_5 (fun x2 hP => ?_)
  refine lv_icmp_gt (tgt := 22) hx hb dX1_isGliding_8 (by decide) (fun hc => ?_) (fun hc => ?_)
  · have hP := mIf_t hP hc
    exact hb22 _ _ _ _ hM hS (lv_sub hl [] rfl) hP
  · have hP := mIf_f hP hc
    refine lv_aload_n hx hb dX1_isGliding_11 rfl (lv_at hl 0 rfl) ?_
    refine r_geti X hM hP fl_X1_32 dX1_isGliding_12 (fun x3 hP => ?_)
    refine lv_if_lt (tgt := 22) hx hb dX1_isGliding_15 (by decide) (fun hc => ?_) (fun hc => ?_)
    · have hP := mIf_t hP hc
      exact hb22 _ _ _ _ hM hS (lv_sub hl [] rfl) hP
    · have hP := mIf_f hP hc
      refine lv_iconst (v := 1) hx hb dX1_isGliding_18 (by decide) ?_
      refine lv_goto (tgt := 23) hx hb dX1_isGliding_19 (by decide) ?_
      exact hb23 1 _ _ _ _ hM hS (lv_sub hl [] rfl) hP
def f_X4_yOf_b20 (K : Cfg) (k : Int32 → Mem → Prop) (t0 : Int32) : Mem → Prop :=
 k t0
def f_X4_yOf_b19 (K : Cfg) (k : Int32 → Mem → Prop) : Mem → Prop :=
 f_X4_yOf_b20 K k 0
def f_X4_yOf (K : Cfg) (a0 : Nat) (a1 : Int32) (k : Int32 → Mem → Prop) : Mem → Prop :=
 mIf (a1 < 0)
 (f_X4_yOf_b19 K k)
 (mIf (10 ≤ a1)
 (f_X4_yOf_b19 K k)
 (mGetR a0 5 1 fun x1 =>
 mLdI K x1 a1 fun x2 =>
 f_X4_yOf_b20 K k x2))
abbrev rm_X4_yOf : Room := { frames := 0, cells := 0, slots := 0, locals := 0 }
set_option maxHeartbeats 4000000 in
set_option maxRecDepth 100000 in
theorem ct_X4_yOf {K : Cfg} {l : Launch} (hst : l.stackTraces = false) (a0 : Nat) (a1 : Int32) : mPi K l yX4_yOf cX4_yOf 2 (some .int) rm_X4_yOf [.ref a0, .int a1] (f_X4_yOf K a0 a1) := by
  refine mPi.of hst (by decide +kernel) (Nat.le_of_ble_eq_true rfl) ?_
  intro M k Q hk hP p e s m below meth c X hr hlocks hname hM ls hl
  have hx := X.1.1
  have hb := X.1.2.1
  have X : Cx K p l s m ([.ref a0, .int a1] : List Value).toArray c cX4_yOf 2 RX4 := X
  have hS : va_S (mFA K) s.heap s.heap [] := va_S.rf
  have hl : lv_has ls 2 [(0, .ref a0), (1, .int a1)] := hl
  have hb20 : ∀ (t0 : Int32) (M : Mem) (H : Heap) (locs : List Loc) (ls : Array Slot), mh K M H → va_S (mFA K) s.heap H locs → lv_has ls 2 [] → f_X4_yOf_b20 K k t0 M → W p l e rm_X4_yOf s m ([.ref a0, .int a1] : List Value).toArray below meth c H locs 0 0 (MQ below (mQ K Q) ([.ref a0, .int a1] : List Value).toArray s rm_X4_yOf.cells rm_X4_yOf.slots (mFA K)) (F0 m 20 ls [.int t0]) := by
    intro t0 M H locs ls hM hS hl hP
    unfold f_X4_yOf_b20 at hP
    exact e_iret X hM hS (hk _ _ hP) hr hlocks (by decide) (by decide) dX4_yOf_20
  have hb19 : ∀ (M : Mem) (H : Heap) (locs : List Loc) (ls : Array Slot), mh K M H → va_S (mFA K) s.heap H locs → lv_has ls 2 [] → f_X4_yOf_b19 K k M → W p l e rm_X4_yOf s m ([.ref a0, .int a1] : List Value).toArray below meth c H locs 0 0 (MQ below (mQ K Q) ([.ref a0, .int a1] : List Value).toArray s rm_X4_yOf.cells rm_X4_yOf.slots (mFA K)) (F0 m 19 ls []) := by
    intro M H locs ls hM hS hl hP
    unfold f_X4_yOf_b19 at hP
    refine lv_iconst (v := 0) hx hb dX4_yOf_19 (by decide) ?_
    exact hb20 0 _ _ _ _ hM hS (lv_sub hl [] rfl) hP
  unfold f_X4_yOf at hP
  refine lv_iload_n hx hb dX4_yOf_0 rfl (lv_at hl 1 rfl) ?_
  refine lv_if_lt (tgt := 19) hx hb dX4_yOf_1 (by decide) (fun hc => ?_) (fun hc => ?_)
  · have hP := mIf_t hP hc
    exact hb19 _ _ _ _ hM hS (lv_sub hl [] rfl) hP
  · have hP := mIf_f hP hc
    refine lv_iload_n hx hb dX4_yOf_4 rfl (lv_at hl 1 rfl) ?_
    refine lv_bipush (v := 10) hx hb dX4_yOf_5 (by decide) ?_
    refine lv_icmp_ge (tgt := 19) hx hb dX4_yOf_7 (by decide) (fun hc => ?_) (fun hc => ?_)
    · have hP := mIf_t hP hc
      exact hb19 _ _ _ _ hM hS (lv_sub hl [] rfl) hP
    · have hP := mIf_f hP hc
      refine lv_aload_n hx hb dX4_yOf_10 rfl (lv_at hl 0 rfl) ?_
      refine r_getr X hM hP fl_X4_15 dX4_yOf_11 (fun x1 hP => ?_)
      refine lv_iload_n hx hb dX4_yOf_14 rfl (lv_at hl 1 rfl) ?_
      refine r_ldi X hM hP dX4_yOf_15 (fun x2 hP => ?_)
      refine lv_goto (tgt := 20) hx hb dX4_yOf_16 (by decide) ?_
      exact hb20 x2 _ _ _ _ hM hS (lv_sub hl [] rfl) hP
def f_X1_sizeOf_b12 (K : Cfg) (k : UInt64 → Mem → Prop) (t0 : UInt64) : Mem → Prop :=
 k t0
def f_X1_sizeOf (K : Cfg) (a0 : UInt64) (k : UInt64 → Mem → Prop) : Mem → Prop :=
 mIf (0 ≤ (Op.cmpValue (FP.dcmp a0 FP.dconst0) .g))
 (f_X1_sizeOf_b12 K k a0)
 (f_X1_sizeOf_b12 K k (FP.dneg a0))
abbrev rm_X1_sizeOf : Room := { frames := 0, cells := 0, slots := 0, locals := 0 }
set_option maxHeartbeats 4000000 in
set_option maxRecDepth 100000 in
theorem ct_X1_sizeOf {K : Cfg} {l : Launch} (hst : l.stackTraces = false) (a0 : UInt64) : mPd K l yX1_sizeOf cX1_sizeOf 2 (some .double) rm_X1_sizeOf [.double a0] (f_X1_sizeOf K a0) := by
  refine mPd.of hst (by decide +kernel) (Nat.le_of_ble_eq_true rfl) ?_
  intro M k Q hk hP p e s m below meth c X hr hlocks hname hM ls hl
  have hx := X.1.1
  have hb := X.1.2.1
  have X : Cx K p l s m ([.double a0] : List Value).toArray c cX1_sizeOf 2 RX1 := X
  have hS : va_S (mFA K) s.heap s.heap [] := va_S.rf
  have hl : lv_has ls 2 [(0, .double a0)] := hl
  have hb12 : ∀ (t0 : UInt64) (M : Mem) (H : Heap) (locs : List Loc) (ls : Array Slot), mh K M H → va_S (mFA K) s.heap H locs → lv_has ls 2 [] → f_X1_sizeOf_b12 K k t0 M → W p l e rm_X1_sizeOf s m ([.double a0] : List Value).toArray below meth c H locs 0 0 (MQ below (mQ K Q) ([.double a0] : List Value).toArray s rm_X1_sizeOf.cells rm_X1_sizeOf.slots (mFA K)) (F0 m 12 ls [.double t0]) := by
    intro t0 M H locs ls hM hS hl hP
    unfold f_X1_sizeOf_b12 at hP
    exact e_dret X hM hS (hk _ _ hP) hr hlocks (by decide) (by decide) dX1_sizeOf_12
  unfold f_X1_sizeOf at hP
  refine lv_dload_n hx hb dX1_sizeOf_0 rfl (lv_at hl 0 rfl) ?_
  refine lv_dconst0 hx hb dX1_sizeOf_1 ?_
  refine lv_dcmp hx hb dX1_sizeOf_2 ?_
  refine lv_if_ge (tgt := 11) hx hb dX1_sizeOf_3 (by decide) (fun hc => ?_) (fun hc => ?_)
  · have hP := mIf_t hP hc
    refine lv_dload_n hx hb dX1_sizeOf_11 rfl (lv_at hl 0 rfl) ?_
    exact hb12 a0 _ _ _ _ hM hS (lv_sub hl [] rfl) hP
  · have hP := mIf_f hP hc
    refine lv_dload_n hx hb dX1_sizeOf_6 rfl (lv_at hl 0 rfl) ?_
    refine lv_dneg hx hb dX1_sizeOf_7 ?_
    refine lv_goto (tgt := 12) hx hb dX1_sizeOf_8 (by decide) ?_
    exact hb12 (FP.dneg a0) _ _ _ _ hM hS (lv_sub hl [] rfl) hP
def f_X1_nearer_b24 (K : Cfg) (k : UInt64 → Mem → Prop) (t0 : UInt64) : Mem → Prop :=
 k t0
def f_X1_nearer (K : Cfg) (a0 : UInt64) (a1 : UInt64) (k : UInt64 → Mem → Prop) : Mem → Prop :=
 mIf ((Op.cmpValue (FP.dcmp a0 a1) .l) ≤ 0)
 (mIf (0 ≤ (Op.cmpValue (FP.dcmp a0 (FP.dneg a1)) .g))
 (f_X1_nearer_b24 K k FP.dconst0)
 (mAs (vf_n64 (FP.dadd a0 a1)) <|
 f_X1_nearer_b24 K k (FP.dadd a0 a1)))
 (mAs (vf_n64 (FP.dsub a0 a1)) <|
 k (FP.dsub a0 a1))
abbrev rm_X1_nearer : Room := { frames := 0, cells := 0, slots := 0, locals := 0 }
set_option maxHeartbeats 4000000 in
set_option maxRecDepth 100000 in
theorem ct_X1_nearer {K : Cfg} {l : Launch} (hst : l.stackTraces = false) (a0 : UInt64) (a1 : UInt64) : mPd K l yX1_nearer cX1_nearer 4 (some .double) rm_X1_nearer [.double a0, .double a1] (f_X1_nearer K a0 a1) := by
  refine mPd.of hst (by decide +kernel) (Nat.le_of_ble_eq_true rfl) ?_
  intro M k Q hk hP p e s m below meth c X hr hlocks hname hM ls hl
  have hx := X.1.1
  have hb := X.1.2.1
  have X : Cx K p l s m ([.double a0, .double a1] : List Value).toArray c cX1_nearer 4 RX1 := X
  have hS : va_S (mFA K) s.heap s.heap [] := va_S.rf
  have hl : lv_has ls 4 [(0, .double a0), (2, .double a1)] := hl
  have hb24 : ∀ (t0 : UInt64) (M : Mem) (H : Heap) (locs : List Loc) (ls : Array Slot), mh K M H → va_S (mFA K) s.heap H locs → lv_has ls 4 [] → f_X1_nearer_b24 K k t0 M → W p l e rm_X1_nearer s m ([.double a0, .double a1] : List Value).toArray below meth c H locs 0 0 (MQ below (mQ K Q) ([.double a0, .double a1] : List Value).toArray s rm_X1_nearer.cells rm_X1_nearer.slots (mFA K)) (F0 m 24 ls [.double t0]) := by
    intro t0 M H locs ls hM hS hl hP
    unfold f_X1_nearer_b24 at hP
    exact e_dret X hM hS (hk _ _ hP) hr hlocks (by decide) (by decide) dX1_nearer_24
  unfold f_X1_nearer at hP
  refine lv_dload_n hx hb dX1_nearer_0 rfl (lv_at hl 0 rfl) ?_
  refine lv_dload_n hx hb dX1_nearer_1 rfl (lv_at hl 1 rfl) ?_
  refine lv_dcmp hx hb dX1_nearer_2 ?_
  refine lv_if_le (tgt := 10) hx hb dX1_nearer_3 (by decide) (fun hc => ?_) (fun hc => ?_)
  · have hP := mIf_t hP hc
    refine lv_dload_n hx hb dX1_nearer_10 rfl (lv_at hl 0 rfl) ?_
    refine lv_dload_n hx hb dX1_nearer_11 rfl (lv_at hl 1 rfl) ?_
    refine lv_dneg hx hb dX1_nearer_12 ?_
    refine lv_dcmp hx hb dX1_nearer_13 ?_
    refine lv_if_ge (tgt := 23) hx hb dX1_nearer_14 (by decide) (fun hc => ?_) (fun hc => ?_)
    · have hP := mIf_t hP hc
      refine lv_dconst0 hx hb dX1_nearer_23 ?_
      exact hb24 FP.dconst0 _ _ _ _ hM hS (lv_sub hl [] rfl) hP
    · have hP := mIf_f hP hc
      refine lv_dload_n hx hb dX1_nearer_17 rfl (lv_at hl 0 rfl) ?_
      refine lv_dload_n hx hb dX1_nearer_18 rfl (lv_at hl 1 rfl) ?_
      obtain ⟨h9, hP⟩ := hP
      refine lv_dadd hx hb dX1_nearer_19 h9 ?_
      refine lv_goto (tgt := 24) hx hb dX1_nearer_20 (by decide) ?_
      exact hb24 (FP.dadd a0 a1) _ _ _ _ hM hS (lv_sub hl [] rfl) hP
  · have hP := mIf_f hP hc
    refine lv_dload_n hx hb dX1_nearer_6 rfl (lv_at hl 0 rfl) ?_
    refine lv_dload_n hx hb dX1_nearer_7 rfl (lv_at hl 1 rfl) ?_
    obtain ⟨h9, hP⟩ := hP
    refine lv_dsub hx hb dX1_nearer_8 h9 ?_
    exact e_dret X hM hS (hk _ _ hP) hr hlocks (by decide) (by decide) dX1_nearer_9
def f_X1_steer_b51 (K : Cfg) (k : Mem → Prop) : Mem → Prop :=
 k
def f_X1_steer (K : Cfg) (a0 : Nat) (k : Mem → Prop) : Mem → Prop :=
 mGetD a0 2 8 fun x1 =>
 f_X1_sizeOf K x1 (fun r2 =>
 mGetD a0 2 9 fun x3 =>
 f_X1_sizeOf K x3 (fun r4 =>
 mIf ((Op.cmpValue (FP.dcmp r2 r4) .l) < 0)
 (mGetD a0 2 9 fun x5 =>
 mGetD a0 2 3 fun x6 =>
 f_X1_nearer K x5 x6 (fun r7 =>
 mPut a0 2 9 (.double r7) <|
 f_X1_steer_b51 K k))
 (mGetD a0 2 8 fun x8 =>
 mGetD a0 2 3 fun x9 =>
 f_X1_nearer K x8 x9 (fun r10 =>
 mPut a0 2 8 (.double r10) <|
 f_X1_steer_b51 K k))))
abbrev rm_X1_steer : Room := { frames := 1, cells := 0, slots := 0, locals := 23 }
set_option maxHeartbeats 4000000 in
set_option maxRecDepth 100000 in
theorem ct_X1_steer {K : Cfg} {l : Launch} (hst : l.stackTraces = false) (a0 : Nat) : mPv K l yX1_steer cX1_steer 1 none rm_X1_steer [.ref a0] (f_X1_steer K a0) := by
  refine mPv.of hst (by decide +kernel) (Nat.le_of_ble_eq_true rfl) ?_
  intro M k Q hk hP p e s m below meth c X hr hlocks hname hM ls hl
  have hx := X.1.1
  have hb := X.1.2.1
  have X : Cx K p l s m ([.ref a0] : List Value).toArray c cX1_steer 1 RX1 := X
  have hS : va_S (mFA K) s.heap s.heap [] := va_S.rf
  have hl : lv_has ls 1 [(0, .ref a0)] := hl
  have hb51 : ∀ (M : Mem) (H : Heap) (locs : List Loc) (ls : Array Slot), mh K M H → va_S (mFA K) s.heap H locs → lv_has ls 1 [] → f_X1_steer_b51 K k M → W p l e rm_X1_steer s m ([.ref a0] : List Value).toArray below meth c H locs 0 0 (MQ below (mQ K Q) ([.ref a0] : List Value).toArray s rm_X1_steer.cells rm_X1_steer.slots (mFA K)) (F0 m 51 ls []) := by
    intro M H locs ls hM hS hl hP
    unfold f_X1_steer_b51 at hP
    exact e_vret X hM hS (hk _ hP) hr hlocks (by decide) (by decide) dX1_steer_51
  unfold f_X1_steer at hP
  refine lv_aload_n hx hb dX1_steer_0 rfl (lv_at hl 0 rfl) ?_
  refine r_getd X hM hP fl_X1_38 dX1_steer_1 (fun x1 hP => ?_)
  refine r_callSd (rest := []) X hM hS (ct_X1_sizeOf hst x1) hP mS_X1_79 rfl rfl hl.1 (Nat.le_of_ble_eq_true rfl) ⟨⟨by decide, by decide⟩, ⟨by decide, by decide⟩⟩ dX1_steer_4 (fun r2 M H locs hM hS hP => ?_)
  refine lv_aload_n hx hb dX1_steer_7 rfl (lv_at hl 0 rfl) ?_
  refine r_getd X hM hP fl_X1_41 dX1_steer_8 (fun x3 hP => ?_)
  refine r_callSd (rest := [.double r2]) X hM hS (ct_X1_sizeOf hst x3) hP mS_X1_79 rfl rfl hl.1 (Nat.le_of_ble_eq_true rfl) ⟨⟨by decide, by decide⟩, ⟨by decide, by decide⟩⟩ dX1_steer_11 (fun r4 M H locs hM hS hP => ?_)
  refine lv_dcmp hx hb dX1_steer_14 ?_
  refine lv_if_lt (tgt := 36) hx hb dX1_steer_15 (by decide) (fun hc => ?_) (fun hc => ?_)
  · have hP := mIf_t hP hc
    refine lv_aload_n hx hb dX1_steer_36 rfl (lv_at hl 0 rfl) ?_
    refine lv_aload_n hx hb dX1_steer_37 rfl (lv_at hl 0 rfl) ?_
    refine r_getd X hM hP fl_X1_41 dX1_steer_38 (fun x5 hP => ?_)
    refine lv_aload_n hx hb dX1_steer_41 rfl (lv_at hl 0 rfl) ?_
    refine r_getd X hM hP fl_X1_21 dX1_steer_42 (fun x6 hP => ?_)
    refine r_callSd (rest := [.ref a0]) X hM hS (ct_X1_nearer hst x5 x6) hP mS_X1_83 rfl rfl hl.1 (Nat.le_of_ble_eq_true rfl) ⟨⟨by decide, by decide⟩, ⟨by decide, by decide⟩⟩ dX1_steer_45 (fun r7 M H locs hM hS hP => ?_)
    refine r_put X hM hS hP fl_X1_41 ft_X1 rfl (tyX1_ok 9 (Nat.le_of_ble_eq_true rfl)) rfl rfl dX1_steer_48 (fun M H locs hM hS hP => ?_)
    exact hb51 _ _ _ _ hM hS (lv_sub hl [] rfl) hP
  · have hP := mIf_f hP hc
    refine lv_aload_n hx hb dX1_steer_18 rfl (lv_at hl 0 rfl) ?_
    refine lv_aload_n hx hb dX1_steer_19 rfl (lv_at hl 0 rfl) ?_
    refine r_getd X hM hP fl_X1_38 dX1_steer_20 (fun x8 hP => ?_)
    refine lv_aload_n hx hb dX1_steer_23 rfl (lv_at hl 0 rfl) ?_
    refine r_getd X hM hP fl_X1_21 dX1_steer_24 (fun x9 hP => ?_)
    refine r_callSd (rest := [.ref a0]) X hM hS (ct_X1_nearer hst x8 x9) hP mS_X1_83 rfl rfl hl.1 (Nat.le_of_ble_eq_true rfl) ⟨⟨by decide, by decide⟩, ⟨by decide, by decide⟩⟩ dX1_steer_27 (fun r10 M H locs hM hS hP => ?_)
    refine r_put X hM hS hP fl_X1_38 ft_X1 rfl (tyX1_ok 8 (Nat.le_of_ble_eq_true rfl)) rfl rfl dX1_steer_30 (fun M H locs hM hS hP => ?_)
    refine lv_goto (tgt := 51) hx hb dX1_steer_33 (by decide) ?_
    exact hb51 _ _ _ _ hM hS (lv_sub hl [] rfl) hP
def f_X1_goOn_b143 (K : Cfg) (k : Mem → Prop) : Mem → Prop :=
 k
def f_X1_goOn_b125 (K : Cfg) (k : Mem → Prop) (v0 : Nat) (t0 : Int32) (t1 : Int32) : Mem → Prop :=
 mIf (t0 < t1)
 (f_X1_goOn_b143 K k)
 (mGetI v0 2 6 fun x1 =>
 mPut v0 2 6 (.int (x1 - 1)) <|
 mPut v0 2 7 (.int 0) <|
 f_X1_goOn_b143 K k)
def f_X1_goOn_b96 (K : Cfg) (k : Mem → Prop) (v0 : Nat) (v2 : Int32) : Mem → Prop :=
 mGetI v0 2 7 fun x1 =>
 mPut v0 2 7 (.int (x1 + 1)) <|
 mGetI v0 2 7 fun x2 =>
 mIf (v2 = 0)
 (mGetI v0 2 1 fun x3 =>
 f_X1_goOn_b125 K k v0 x2 x3)
 (mGetI v0 2 2 fun x4 =>
 f_X1_goOn_b125 K k v0 x2 x4)
def f_X1_goOn (K : Cfg) (a0 : Nat) (a1 : Nat) (k : Mem → Prop) : Mem → Prop :=
 mRecv a0 2 <|
 f_X1_isGliding K a0 (fun r1 =>
 mIf (r1 = 0)
 (mGetD a0 2 8 fun x2 =>
 mGetI a0 2 6 fun x3 =>
 mRecv a1 5 <|
 f_X4_xOf K a1 x3 (fun r4 =>
 mAs (vf_n64 (FP.dmul (FP.i2d r4) 4602678819172646912)) <|
 mAs (vf_n64 (FP.dadd x2 (FP.dmul (FP.i2d r4) 4602678819172646912))) <|
 mPut a0 2 8 (.double (FP.dadd x2 (FP.dmul (FP.i2d r4) 4602678819172646912))) <|
 mGetD a0 2 9 fun x5 =>
 mGetI a0 2 6 fun x6 =>
 mRecv a1 5 <|
 f_X4_yOf K a1 x6 (fun r7 =>
 mAs (vf_n64 (FP.dmul (FP.i2d r7) 4602678819172646912)) <|
 mAs (vf_n64 (FP.dadd x5 (FP.dmul (FP.i2d r7) 4602678819172646912))) <|
 mPut a0 2 9 (.double (FP.dadd x5 (FP.dmul (FP.i2d r7) 4602678819172646912))) <|
 f_X1_goOn_b96 K k a0 r1)))
 (mGetD a0 2 8 fun x8 =>
 mGetI a0 2 6 fun x9 =>
 mRecv a1 5 <|
 f_X4_xOf K a1 x9 (fun r10 =>
 mAs (vf_n64 (FP.dadd x8 (FP.i2d r10))) <|
 mPut a0 2 8 (.double (FP.dadd x8 (FP.i2d r10))) <|
 mGetD a0 2 9 fun x11 =>
 mGetI a0 2 6 fun x12 =>
 mRecv a1 5 <|
 f_X4_yOf K a1 x12 (fun r13 =>
 mAs (vf_n64 (FP.dadd x11 (FP.i2d r13))) <|
 mPut a0 2 9 (.double (FP.dadd x11 (FP.i2d r13))) <|
 mRecv a0 2 <|
 f_X1_steer K a0 (
 f_X1_goOn_b96 K k a0 r1)))))
abbrev rm_X1_goOn : Room := { frames := 2, cells := 0, slots := 0, locals := 43 }
set_option maxHeartbeats 4000000 in
set_option maxRecDepth 100000 in
theorem ct_X1_goOn {K : Cfg} {l : Launch} (hst : l.stackTraces = false) (a0 : Nat) (a1 : Nat) : mPv K l yX1_goOn cX1_goOn 3 none rm_X1_goOn [.ref a0, .ref a1] (f_X1_goOn K a0 a1) := by
  refine mPv.of hst (by decide +kernel) (Nat.le_of_ble_eq_true rfl) ?_
  intro M k Q hk hP p e s m below meth c X hr hlocks hname hM ls hl
  have hx := X.1.1
  have hb := X.1.2.1
  have X : Cx K p l s m ([.ref a0, .ref a1] : List Value).toArray c cX1_goOn 3 RX1 := X
  have hS : va_S (mFA K) s.heap s.heap [] := va_S.rf
  have hl : lv_has ls 3 [(0, .ref a0), (1, .ref a1)] := hl
  have hb143 : ∀ (M : Mem) (H : Heap) (locs : List Loc) (ls : Array Slot), mh K M H → va_S (mFA K) s.heap H locs → lv_has ls 3 [] → f_X1_goOn_b143 K k M → W p l e rm_X1_goOn s m ([.ref a0, .ref a1] : List Value).toArray below meth c H locs 0 0 (MQ below (mQ K Q) ([.ref a0, .ref a1] : List Value).toArray s rm_X1_goOn.cells rm_X1_goOn.slots (mFA K)) (F0 m 143 ls []) := by
    intro M H locs ls hM hS hl hP
    unfold f_X1_goOn_b143 at hP
    exact e_vret X hM hS (hk _ hP) hr hlocks (by decide) (by decide) dX1_goOn_143
  have hb125 : ∀ (v0 : Nat) (t0 : Int32) (t1 : Int32) (M : Mem) (H : Heap) (locs : List Loc) (ls : Array Slot), mh K M H → va_S (mFA K) s.heap H locs → lv_has ls 3 [(0, .ref v0)] → f_X1_goOn_b125 K k v0 t0 t1 M → W p l e rm_X1_goOn s m ([.ref a0, .ref a1] : List Value).toArray below meth c H locs 0 0 (MQ below (mQ K Q) ([.ref a0, .ref a1] : List Value).toArray s rm_X1_goOn.cells rm_X1_goOn.slots (mFA K)) (F0 m 125 ls [.int t1, .int t0]) := by
    intro v0 t0 t1 M H locs ls hM hS hl hP
    unfold f_X1_goOn_b125 at hP
    refine lv_icmp_lt (tgt := 143) hx hb dX1_goOn_125 (by decide) (fun hc => ?_) (fun hc => ?_)
    · have hP := mIf_t hP hc
      exact hb143 _ _ _ _ hM hS (lv_sub hl [] rfl) hP
    · have hP := mIf_f hP hc
      refine lv_aload_n hx hb dX1_goOn_128 rfl (lv_at hl 0 rfl) ?_
      refine lv_dup hx hb dX1_goOn_129 rfl ?_
      refine r_geti X hM hP fl_X1_32 dX1_goOn_130 (fun x1 hP => ?_)
      refine lv_iconst (v := 1) hx hb dX1_goOn_133 (by decide) ?_
      refine lv_isub hx hb dX1_goOn_134 ?_
      refine r_put X hM hS hP fl_X1_32 ft_X1 rfl (tyX1_ok 6 (Nat.le_of_ble_eq_true rfl)) rfl rfl dX1_goOn_135 (fun M H locs hM hS hP => ?_)
      refine lv_aload_n hx hb dX1_goOn_138 rfl (lv_at hl 0 rfl) ?_
      refine lv_iconst (v := 0) hx hb dX1_goOn_139 (by decide) ?_
      refine r_put X hM hS hP fl_X1_35 ft_X1 rfl (tyX1_ok 7 (Nat.le_of_ble_eq_true rfl)) rfl rfl dX1_goOn_140 (fun M H locs hM hS hP => ?_)
      exact hb143 _ _ _ _ hM hS (lv_sub hl [] rfl) hP
  have hb96 : ∀ (v0 : Nat) (v2 : Int32) (M : Mem) (H : Heap) (locs : List Loc) (ls : Array Slot), mh K M H → va_S (mFA K) s.heap H locs → lv_has ls 3 [(0, .ref v0), (2, .int v2)] → f_X1_goOn_b96 K k v0 v2 M → W p l e rm_X1_goOn s m ([.ref a0, .ref a1] : List Value).toArray below meth c H locs 0 0 (MQ below (mQ K Q) ([.ref a0, .ref a1] : List Value).toArray s rm_X1_goOn.cells rm_X1_goOn.slots (mFA K)) (F0 m 96 ls []) := by
    intro v0 v2 M H locs ls hM hS hl hP
    unfold f_X1_goOn_b96 at hP
    refine lv_aload_n hx hb dX1_goOn_96 rfl (lv_at hl 0 rfl) ?_
    refine lv_dup hx hb dX1_goOn_97 rfl ?_
    refine r_geti X hM hP fl_X1_35 dX1_goOn_98 (fun x1 hP => ?_)
    refine lv_iconst (v := 1) hx hb dX1_goOn_101 (by decide) ?_
    refine lv_iadd hx hb dX1_goOn_102 ?_
    refine r_put X hM hS hP fl_X1_35 ft_X1 rfl (tyX1_ok 7 (Nat.le_of_ble_eq_true rfl)) rfl rfl dX1_goOn_103 (fun M H locs hM hS hP => ?_)
    refine lv_aload_n hx hb dX1_goOn_106 rfl (lv_at hl 0 rfl) ?_
    refine r_geti X hM hP fl_X1_35 dX1_goOn_107 (fun x2 hP => ?_)
    refine lv_iload_n hx hb dX1_goOn_110 rfl (lv_at hl 1 rfl) ?_
    refine lv_if_eq (tgt := 121) hx hb dX1_goOn_111 (by decide) (fun hc => ?_) (fun hc => ?_)
    · have hP := mIf_t hP hc
      refine lv_aload_n hx hb dX1_goOn_121 rfl (lv_at hl 0 rfl) ?_
      refine r_geti X hM hP fl_X1_15 dX1_goOn_122 (fun x3 hP => ?_)
      exact hb125 v0 x2 x3 _ _ _ _ hM hS (lv_sub hl [0] rfl) hP
    · have hP := mIf_f hP hc
      refine lv_aload_n hx hb dX1_goOn_114 rfl (lv_at hl 0 rfl) ?_
      refine r_geti X hM hP fl_X1_18 dX1_goOn_115 (fun x4 hP => ?_)
      refine lv_goto (tgt := 125) hx hb dX1_goOn_118 (by decide) ?_
      exact hb125 v0 x2 x4 _ _ _ _ hM hS (lv_sub hl [0] rfl) hP
  unfold f_X1_goOn at hP
  refine lv_aload_n hx hb dX1_goOn_0 rfl (lv_at hl 0 rfl) ?_
  refine r_callVi (rest := []) (T := TX1) (N := 11) X hM hS (ct_X1_isGliding hst a0) hP mV_X1_62 rfl rfl rfl hl.1 (Nat.le_of_ble_eq_true rfl) ⟨⟨by decide, by decide⟩, ⟨by decide, by decide⟩⟩ dX1_goOn_1 (fun r1 M H locs hM hS hP => ?_)
  refine lv_istore_n (lv' := [(2, .int r1), (0, .ref a0), (1, .ref a1)]) hx hb dX1_goOn_4 rfl hl (by decide) rfl (fun ls hl => ?_)
  refine lv_iload_n hx hb dX1_goOn_5 rfl (lv_at hl 0 rfl) ?_
  refine lv_if_eq (tgt := 52) hx hb dX1_goOn_6 (by decide) (fun hc => ?_) (fun hc => ?_)
  · have hP := mIf_t hP hc
    refine lv_aload_n hx hb dX1_goOn_52 rfl (lv_at hl 1 rfl) ?_
    refine lv_dup hx hb dX1_goOn_53 rfl ?_
    refine r_getd X hM hP fl_X1_38 dX1_goOn_54 (fun x2 hP => ?_)
    refine lv_aload_n hx hb dX1_goOn_57 rfl (lv_at hl 2 rfl) ?_
    refine lv_aload_n hx hb dX1_goOn_58 rfl (lv_at hl 1 rfl) ?_
    refine r_geti X hM hP fl_X1_32 dX1_goOn_59 (fun x3 hP => ?_)
    refine r_callVi (rest := [.double x2, .ref a0]) (T := TX4) (N := 2) X hM hS (ct_X4_xOf hst a1 x3) hP mV_X1_65 rfl rfl rfl hl.1 (Nat.le_of_ble_eq_true rfl) ⟨⟨by decide, by decide⟩, ⟨by decide, by decide⟩⟩ dX1_goOn_62 (fun r4 M H locs hM hS hP => ?_)
    refine lv_i2d hx hb dX1_goOn_65 ?_
    refine r_ldcd (v := 4602678819172646912) X kc_X1_77 dX1_goOn_66 ?_
    obtain ⟨h9, hP⟩ := hP
    refine lv_dmul hx hb dX1_goOn_69 h9 ?_
    obtain ⟨h9, hP⟩ := hP
    refine lv_dadd hx hb dX1_goOn_70 h9 ?_
    refine r_put X hM hS hP fl_X1_38 ft_X1 rfl (tyX1_ok 8 (Nat.le_of_ble_eq_true rfl)) rfl rfl dX1_goOn_71 (fun M H locs hM hS hP => ?_)
    refine lv_aload_n hx hb dX1_goOn_74 rfl (lv_at hl 1 rfl) ?_
    refine lv_dup hx hb dX1_goOn_75 rfl ?_
    refine r_getd X hM hP fl_X1_41 dX1_goOn_76 (fun x5 hP => ?_)
    refine lv_aload_n hx hb dX1_goOn_79 rfl (lv_at hl 2 rfl) ?_
    refine lv_aload_n hx hb dX1_goOn_80 rfl (lv_at hl 1 rfl) ?_
    refine r_geti X hM hP fl_X1_32 dX1_goOn_81 (fun x6 hP => ?_)
    refine r_callVi (rest := [.double x5, .ref a0]) (T := TX4) (N := 2) X hM hS (ct_X4_yOf hst a1 x6) hP mV_X1_71 rfl rfl rfl hl.1 (Nat.le_of_ble_eq_true rfl) ⟨⟨by decide, by decide⟩, ⟨by decide, by decide⟩⟩ dX1_goOn_84 (fun r7 M H locs hM hS hP => ?_)
    refine lv_i2d hx hb dX1_goOn_87 ?_
    refine r_ldcd (v := 4602678819172646912) X kc_X1_77 dX1_goOn_88 ?_
    obtain ⟨h9, hP⟩ := hP
    refine lv_dmul hx hb dX1_goOn_91 h9 ?_
    obtain ⟨h9, hP⟩ := hP
    refine lv_dadd hx hb dX1_goOn_92 h9 ?_
    refine r_put X hM hS hP fl_X1_41 ft_X1 rfl (tyX1_ok 9 (Nat.le_of_ble_eq_true rfl)) rfl rfl dX1_goOn_93 (fun M H locs hM hS hP => ?_)
    exact hb96 a0 r1 _ _ _ _ hM hS (lv_sub hl [1, 0] rfl) hP
  · have hP := mIf_f hP hc
    refine lv_aload_n hx hb dX1_goOn_9 rfl (lv_at hl 1 rfl) ?_
    refine lv_dup hx hb dX1_goOn_10 rfl ?_
    refine r_getd X hM hP fl_X1_38 dX1_goOn_11 (fun x8 hP => ?_)
    refine lv_aload_n hx hb dX1_goOn_14 rfl (lv_at hl 2 rfl) ?_
    refine lv_aload_n hx hb dX1_goOn_15 rfl (lv_at hl 1 rfl) ?_
    refine r_geti X hM hP fl_X1_32 dX1_goOn_16 (fun x9 hP => ?_)
    refine r_callVi (rest := [.double x8, .ref a0]) (T := TX4) (N := 2) X hM hS (ct_X4_xOf hst a1 x9) hP mV_X1_65 rfl rfl rfl hl.1 (Nat.le_of_ble_eq_true rfl) ⟨⟨by decide, by decide⟩, ⟨by decide, by decide⟩⟩ dX1_goOn_19 (fun r10 M H locs hM hS hP => ?_)
    refine lv_i2d hx hb dX1_goOn_22 ?_
    obtain ⟨h9, hP⟩ := hP
    refine lv_dadd hx hb dX1_goOn_23 h9 ?_
    refine r_put X hM hS hP fl_X1_38 ft_X1 rfl (tyX1_ok 8 (Nat.le_of_ble_eq_true rfl)) rfl rfl dX1_goOn_24 (fun M H locs hM hS hP => ?_)
    refine lv_aload_n hx hb dX1_goOn_27 rfl (lv_at hl 1 rfl) ?_
    refine lv_dup hx hb dX1_goOn_28 rfl ?_
    refine r_getd X hM hP fl_X1_41 dX1_goOn_29 (fun x11 hP => ?_)
    refine lv_aload_n hx hb dX1_goOn_32 rfl (lv_at hl 2 rfl) ?_
    refine lv_aload_n hx hb dX1_goOn_33 rfl (lv_at hl 1 rfl) ?_
    refine r_geti X hM hP fl_X1_32 dX1_goOn_34 (fun x12 hP => ?_)
    refine r_callVi (rest := [.double x11, .ref a0]) (T := TX4) (N := 2) X hM hS (ct_X4_yOf hst a1 x12) hP mV_X1_71 rfl rfl rfl hl.1 (Nat.le_of_ble_eq_true rfl) ⟨⟨by decide, by decide⟩, ⟨by decide, by decide⟩⟩ dX1_goOn_37 (fun r13 M H locs hM hS hP => ?_)
    refine lv_i2d hx hb dX1_goOn_40 ?_
    obtain ⟨h9, hP⟩ := hP
    refine lv_dadd hx hb dX1_goOn_41 h9 ?_
    refine r_put X hM hS hP fl_X1_41 ft_X1 rfl (tyX1_ok 9 (Nat.le_of_ble_eq_true rfl)) rfl rfl dX1_goOn_42 (fun M H locs hM hS hP => ?_)
    refine lv_aload_n hx hb dX1_goOn_45 rfl (lv_at hl 1 rfl) ?_
    refine r_callVv (rest := []) (T := TX1) (N := 11) X hM hS (ct_X1_steer hst a0) hP mV_X1_74 rfl rfl rfl hl.1 (Nat.le_of_ble_eq_true rfl) ⟨⟨by decide, by decide⟩, ⟨by decide, by decide⟩⟩ dX1_goOn_46 (fun M H locs hM hS hP => ?_)
    refine lv_goto (tgt := 96) hx hb dX1_goOn_49 (by decide) ?_
    exact hb96 a0 r1 _ _ _ _ hM hS (lv_sub hl [1, 0] rfl) hP
def f_X0_goOn_b62 (K : Cfg) (k : Int32 → Mem → Prop) (lp5 : Nat → Int32 → Nat → Int32 → Int32 → Mem → Prop) (v0 : Nat) (v1 : Int32) (v2 : Nat) (v4 : Int32) (t0 : Int32) : Mem → Prop :=
 lp5 v0 v1 v2 t0 (v4 + 1)
def f_X0_goOn_b61 (K : Cfg) (k : Int32 → Mem → Prop) (lp5 : Nat → Int32 → Nat → Int32 → Int32 → Mem → Prop) (v0 : Nat) (v1 : Int32) (v2 : Nat) (v4 : Int32) : Mem → Prop :=
 f_X0_goOn_b62 K k lp5 v0 v1 v2 v4 0
def f_X0_goOn_b45 (K : Cfg) (k : Int32 → Mem → Prop) (lp5 : Nat → Int32 → Nat → Int32 → Int32 → Mem → Prop) (v0 : Nat) (v1 : Int32) (v2 : Nat) (v3 : Int32) (v4 : Int32) (v5 : Nat) : Mem → Prop :=
 mIf (v3 = 0)
 (f_X0_goOn_b61 K k lp5 v0 v1 v2 v4)
 (mRecv v5 2 <|
 f_X1_isDown K v5 (fun r1 =>
 mIf (r1 = 0)
 (f_X0_goOn_b61 K k lp5 v0 v1 v2 v4)
 (f_X0_goOn_b62 K k lp5 v0 v1 v2 v4 1)))
def f_X0_goOn_b5_body (K : Cfg) (k : Int32 → Mem → Prop) (lp5 : Nat → Int32 → Nat → Int32 → Int32 → Mem → Prop) (v0 : Nat) (v1 : Int32) (v2 : Nat) (v3 : Int32) (v4 : Int32) : Mem → Prop :=
 mGetI v0 1 1 fun x1 =>
 mIf (x1 ≤ v4)
 (mAs ((v3 : Int32) = 0 ∨ (v3 : Int32) = 1) <|
 k v3)
 (mRecv v0 1 <|
 f_X0_jumpAt K v0 v4 (fun r2 =>
 mGetI r2 2 5 fun x3 =>
 mIf (v1 < x3)
 (f_X0_goOn_b45 K k lp5 v0 v1 v2 v3 v4 r2)
 (mRecv r2 2 <|
 f_X1_isDown K r2 (fun r4 =>
 mIf (r4 = 0)
 (mRecv r2 2 <|
 f_X1_goOn K r2 v2 (
 f_X0_goOn_b45 K k lp5 v0 v1 v2 v3 v4 r2))
 (f_X0_goOn_b45 K k lp5 v0 v1 v2 v3 v4 r2)))))
def f_X0_goOn_b5 (K : Cfg) (k : Int32 → Mem → Prop) : Nat → Nat → Int32 → Nat → Int32 → Int32 → Mem → Prop
  | 0 => fun _ _ _ _ _ _ => False
  | n + 1 => f_X0_goOn_b5_body K k (f_X0_goOn_b5 K k n)
def f_X0_goOn (K : Cfg) (a0 : Nat) (a1 : Int32) (a2 : Nat) (k : Int32 → Mem → Prop) : Mem → Prop :=
 f_X0_goOn_b5 K k mFuel a0 a1 a2 1 0
abbrev rm_X0_goOn : Room := { frames := 3, cells := 0, slots := 0, locals := 65 }
set_option maxHeartbeats 4000000 in
set_option maxRecDepth 100000 in
theorem ct_X0_goOn {K : Cfg} {l : Launch} (hst : l.stackTraces = false) (a0 : Nat) (a1 : Int32) (a2 : Nat) : mPi K l yX0_goOn cX0_goOn 6 (some .boolean) rm_X0_goOn [.ref a0, .int a1, .ref a2] (f_X0_goOn K a0 a1 a2) := by
  refine mPi.of hst (by decide +kernel) (Nat.le_of_ble_eq_true rfl) ?_
  intro M k Q hk hP p e s m below meth c X hr hlocks hname hM ls hl
  have hx := X.1.1
  have hb := X.1.2.1
  have X : Cx K p l s m ([.ref a0, .int a1, .ref a2] : List Value).toArray c cX0_goOn 6 RX0 := X
  have hS : va_S (mFA K) s.heap s.heap [] := va_S.rf
  have hl : lv_has ls 6 [(0, .ref a0), (1, .int a1), (2, .ref a2)] := hl
  have hb5 : ∀ (n5 : Nat) (v0 : Nat) (v1 : Int32) (v2 : Nat) (v3 : Int32) (v4 : Int32) (M : Mem) (H : Heap) (locs : List Loc) (ls : Array Slot), mh K M H → va_S (mFA K) s.heap H locs → lv_has ls 6 [(0, .ref v0), (1, .int v1), (2, .ref v2), (3, .int v3), (4, .int v4)] → f_X0_goOn_b5 K k n5 v0 v1 v2 v3 v4 M → W p l e rm_X0_goOn s m ([.ref a0, .int a1, .ref a2] : List Value).toArray below meth c H locs 0 0 (MQ below (mQ K Q) ([.ref a0, .int a1, .ref a2] : List Value).toArray s rm_X0_goOn.cells rm_X0_goOn.slots (mFA K)) (F0 m 5 ls []) := by
    intro n5
    induction n5 with
    | zero =>
      intro v0 v1 v2 v3 v4 M H locs ls hM hS hl hP
      exact hP.elim
    | succ n5 ih5 =>
      have hb62 : ∀ (v0 : Nat) (v1 : Int32) (v2 : Nat) (v4 : Int32) (t0 : Int32) (M : Mem) (H : Heap) (locs : List Loc) (ls : Array Slot), mh K M H → va_S (mFA K) s.heap H locs → lv_has ls 6 [(0, .ref v0), (1, .int v1), (2, .ref v2), (4, .int v4)] → f_X0_goOn_b62 K k (f_X0_goOn_b5 K k n5) v0 v1 v2 v4 t0 M → W p l e rm_X0_goOn s m ([.ref a0, .int a1, .ref a2] : List Value).toArray below meth c H locs 0 0 (MQ below (mQ K Q) ([.ref a0, .int a1, .ref a2] : List Value).toArray s rm_X0_goOn.cells rm_X0_goOn.slots (mFA K)) (F0 m 62 ls [.int t0]) := by
        intro v0 v1 v2 v4 t0 M H locs ls hM hS hl hP
        unfold f_X0_goOn_b62 at hP
        refine lv_istore_n (lv' := [(3, .int t0), (0, .ref v0), (1, .int v1), (2, .ref v2), (4, .int v4)]) hx hb dX0_goOn_62 rfl hl (by decide) rfl (fun ls hl => ?_)
        refine lv_iinc (v := v4 + 1) (lv' := [(4, .int (v4 + 1)), (3, .int t0), (0, .ref v0), (1, .int v1), (2, .ref v2)]) hx hb dX0_goOn_63 hl (k := 4) rfl rfl (by decide) rfl (fun ls hl => ?_)
        refine lv_goto (tgt := 5) hx hb dX0_goOn_66 (by decide) ?_
        exact ih5 v0 v1 v2 t0 (v4 + 1) _ _ _ _ hM hS (lv_sub hl [2, 3, 4, 1, 0] rfl) hP
      have hb61 : ∀ (v0 : Nat) (v1 : Int32) (v2 : Nat) (v4 : Int32) (M : Mem) (H : Heap) (locs : List Loc) (ls : Array Slot), mh K M H → va_S (mFA K) s.heap H locs → lv_has ls 6 [(0, .ref v0), (1, .int v1), (2, .ref v2), (4, .int v4)] → f_X0_goOn_b61 K k (f_X0_goOn_b5 K k n5) v0 v1 v2 v4 M → W p l e rm_X0_goOn s m ([.ref a0, .int a1, .ref a2] : List Value).toArray below meth c H locs 0 0 (MQ below (mQ K Q) ([.ref a0, .int a1, .ref a2] : List Value).toArray s rm_X0_goOn.cells rm_X0_goOn.slots (mFA K)) (F0 m 61 ls []) := by
        intro v0 v1 v2 v4 M H locs ls hM hS hl hP
        unfold f_X0_goOn_b61 at hP
        refine lv_iconst (v := 0) hx hb dX0_goOn_61 (by decide) ?_
        exact hb62 v0 v1 v2 v4 0 _ _ _ _ hM hS (lv_sub hl [0, 1, 2, 3] rfl) hP
      have hb45 : ∀ (v0 : Nat) (v1 : Int32) (v2 : Nat) (v3 : Int32) (v4 : Int32) (v5 : Nat) (M : Mem) (H : Heap) (locs : List Loc) (ls : Array Slot), mh K M H → va_S (mFA K) s.heap H locs → lv_has ls 6 [(0, .ref v0), (1, .int v1), (2, .ref v2), (3, .int v3), (4, .int v4), (5, .ref v5)] → f_X0_goOn_b45 K k (f_X0_goOn_b5 K k n5) v0 v1 v2 v3 v4 v5 M → W p l e rm_X0_goOn s m ([.ref a0, .int a1, .ref a2] : List Value).toArray below meth c H locs 0 0 (MQ below (mQ K Q) ([.ref a0, .int a1, .ref a2] : List Value).toArray s rm_X0_goOn.cells rm_X0_goOn.slots (mFA K)) (F0 m 45 ls []) := by
        intro v0 v1 v2 v3 v4 v5 M H locs ls hM hS hl hP
        unfold f_X0_goOn_b45 at hP
        refine lv_iload_n hx hb dX0_goOn_45 rfl (lv_at hl 3 rfl) ?_
        refine lv_if_eq (tgt := 61) hx hb dX0_goOn_46 (by decide) (fun hc => ?_) (fun hc => ?_)
        · have hP := mIf_t hP hc
          exact hb61 v0 v1 v2 v4 _ _ _ _ hM hS (lv_sub hl [0, 1, 2, 4] rfl) hP
        · have hP := mIf_f hP hc
          refine lv_aload hx hb dX0_goOn_49 (lv_at hl 5 rfl) ?_
          refine r_callVi (rest := []) (T := TX1) (N := 11) X hM hS (ct_X1_isDown hst v5) hP mV_X0_49 rfl rfl rfl hl.1 (Nat.le_of_ble_eq_true rfl) ⟨⟨by decide, by decide⟩, ⟨by decide, by decide⟩⟩ dX0_goOn_51 (fun r1 M H locs hM hS hP => ?_)
          refine lv_if_eq (tgt := 61) hx hb dX0_goOn_54 (by decide) (fun hc => ?_) (fun hc => ?_)
          · have hP := mIf_t hP hc
            exact hb61 v0 v1 v2 v4 _ _ _ _ hM hS (lv_sub hl [0, 1, 2, 4] rfl) hP
          · have hP := mIf_f hP hc
            refine lv_iconst (v := 1) hx hb dX0_goOn_57 (by decide) ?_
            refine lv_goto (tgt := 62) hx hb dX0_goOn_58 (by decide) ?_
            exact hb62 v0 v1 v2 v4 1 _ _ _ _ hM hS (lv_sub hl [0, 1, 2, 4] rfl) hP
      intro v0 v1 v2 v3 v4 M H locs ls hM hS hl hP
      have hP : f_X0_goOn_b5_body K k (f_X0_goOn_b5 K k n5) v0 v1 v2 v3 v4 M := hP
      unfold f_X0_goOn_b5_body at hP
      refine lv_iload hx hb dX0_goOn_5 (lv_at hl 4 rfl) ?_
      refine lv_aload_n hx hb dX0_goOn_7 rfl (lv_at hl 0 rfl) ?_
      refine r_geti X hM hP fl_X0_17 dX0_goOn_8 (fun x1 hP => ?_)
      refine lv_icmp_ge (tgt := 69) hx hb dX0_goOn_11 (by decide) (fun hc => ?_) (fun hc => ?_)
      · have hP := mIf_t hP hc
        refine lv_iload_n hx hb dX0_goOn_69 rfl (lv_at hl 3 rfl) ?_
        obtain ⟨h9, hP⟩ := hP
        exact e_zret X hM hS h9 (hk _ _ hP) hr hlocks (by decide) (by decide) dX0_goOn_70
      · have hP := mIf_f hP hc
        refine lv_aload_n hx hb dX0_goOn_14 rfl (lv_at hl 0 rfl) ?_
        refine lv_iload hx hb dX0_goOn_15 (lv_at hl 4 rfl) ?_
        refine r_callVr (rest := []) (T := TX0) (N := 2) X hM hS (ct_X0_jumpAt hst v0 v4) hP mV_X0_22 rfl rfl rfl hl.1 (Nat.le_of_ble_eq_true rfl) ⟨⟨by decide, by decide⟩, ⟨by decide, by decide⟩⟩ dX0_goOn_17 (fun r2 M H locs hM hS hP => ?_)
        refine lv_astore (lv' := [(5, .ref r2), (0, .ref v0), (1, .int v1), (2, .ref v2), (3, .int v3), (4, .int v4)]) hx hb dX0_goOn_20 hl (by decide) rfl (fun ls hl => ?_)
        refine lv_iload_n hx hb dX0_goOn_22 rfl (lv_at hl 2 rfl) ?_
        refine lv_aload hx hb dX0_goOn_23 (lv_at hl 0 rfl) ?_
        refine r_geti X hM hP fl_X0_46 dX0_goOn_25 (fun x3 hP => ?_)
        refine lv_icmp_lt (tgt := 45) hx hb dX0_goOn_28 (by decide) (fun hc => ?_) (fun hc => ?_)
        · have hP := mIf_t hP hc
          exact hb45 v0 v1 v2 v3 v4 r2 _ _ _ _ hM hS (lv_sub hl [1, 2, 3, 4, 5, 0] rfl) hP
        · have hP := mIf_f hP hc
          refine lv_aload hx hb dX0_goOn_31 (lv_at hl 0 rfl) ?_
          refine r_callVi (rest := []) (T := TX1) (N := 11) X hM hS (ct_X1_isDown hst r2) hP mV_X0_49 rfl rfl rfl hl.1 (Nat.le_of_ble_eq_true rfl) ⟨⟨by decide, by decide⟩, ⟨by decide, by decide⟩⟩ dX0_goOn_33 (fun r4 M H locs hM hS hP => ?_)
          refine lv_if_ne (tgt := 45) hx hb dX0_goOn_36 (by decide) (fun hc => ?_) (fun hc => ?_)
          · have hP := mIf_f hP hc
            exact hb45 v0 v1 v2 v3 v4 r2 _ _ _ _ hM hS (lv_sub hl [1, 2, 3, 4, 5, 0] rfl) hP
          · have hP := mIf_t hP hc
            refine lv_aload hx hb dX0_goOn_39 (lv_at hl 0 rfl) ?_
            refine lv_aload_n hx hb dX0_goOn_41 rfl (lv_at hl 3 rfl) ?_
            refine r_callVv (rest := []) (T := TX1) (N := 11) X hM hS (ct_X1_goOn hst r2 v2) hP mV_X0_53 rfl rfl rfl hl.1 (Nat.le_of_ble_eq_true rfl) ⟨⟨by decide, by decide⟩, ⟨by decide, by decide⟩⟩ dX0_goOn_42 (fun M H locs hM hS hP => ?_)
            exact hb45 v0 v1 v2 v3 v4 r2 _ _ _ _ hM hS (lv_sub hl [1, 2, 3, 4, 5, 0] rfl) hP
  unfold f_X0_goOn at hP
  refine lv_iconst (v := 1) hx hb dX0_goOn_0 (by decide) ?_
  refine lv_istore_n (lv' := [(3, .int 1), (0, .ref a0), (1, .int a1), (2, .ref a2)]) hx hb dX0_goOn_1 rfl hl (by decide) rfl (fun ls hl => ?_)
  refine lv_iconst (v := 0) hx hb dX0_goOn_2 (by decide) ?_
  refine lv_istore (lv' := [(4, .int 0), (3, .int 1), (0, .ref a0), (1, .int a1), (2, .ref a2)]) hx hb dX0_goOn_3 hl (by decide) rfl (fun ls hl => ?_)
  exact hb5 mFuel a0 a1 a2 1 0 _ _ _ _ hM hS (lv_sub hl [2, 3, 4, 1, 0] rfl) hP
def f_X1_isNear_b68 (K : Cfg) (k : Int32 → Mem → Prop) (t0 : Int32) : Mem → Prop :=
 mAs ((t0 : Int32) = 0 ∨ (t0 : Int32) = 1) <|
 k t0
def f_X1_isNear_b67 (K : Cfg) (k : Int32 → Mem → Prop) : Mem → Prop :=
 f_X1_isNear_b68 K k 0
def f_X1_isNear (K : Cfg) (a0 : Nat) (a1 : Nat) (k : Int32 → Mem → Prop) : Mem → Prop :=
 mRecv a0 2 <|
 f_X1_isGliding K a0 (fun r1 =>
 mIf (r1 = 0)
 (f_X1_isNear_b67 K k)
 (mRecv a1 2 <|
 f_X1_isGliding K a1 (fun r2 =>
 mIf (r2 = 0)
 (f_X1_isNear_b67 K k)
 (mGetI a0 2 6 fun x3 =>
 mGetI a1 2 6 fun x4 =>
 mIf (x3 = x4)
 (mGetD a0 2 8 fun x5 =>
 mGetD a1 2 8 fun x6 =>
 mAs (vf_n64 (FP.dsub x5 x6)) <|
 f_X1_sizeOf K (FP.dsub x5 x6) (fun r7 =>
 mIf (0 ≤ (Op.cmpValue (FP.dcmp r7 4621819117588971520) .g))
 (f_X1_isNear_b67 K k)
 (mGetD a0 2 9 fun x8 =>
 mGetD a1 2 9 fun x9 =>
 mAs (vf_n64 (FP.dsub x8 x9)) <|
 f_X1_sizeOf K (FP.dsub x8 x9) (fun r10 =>
 mIf (0 ≤ (Op.cmpValue (FP.dcmp r10 4621819117588971520) .g))
 (f_X1_isNear_b67 K k)
 (f_X1_isNear_b68 K k 1)))))
 (f_X1_isNear_b67 K k)))))
abbrev rm_X1_isNear : Room := { frames := 1, cells := 0, slots := 0, locals := 21 }
set_option maxHeartbeats 4000000 in
set_option maxRecDepth 100000 in
theorem ct_X1_isNear {K : Cfg} {l : Launch} (hst : l.stackTraces = false) (a0 : Nat) (a1 : Nat) : mPi K l yX1_isNear cX1_isNear 2 (some .boolean) rm_X1_isNear [.ref a0, .ref a1] (f_X1_isNear K a0 a1) := by
  refine mPi.of hst (by decide +kernel) (Nat.le_of_ble_eq_true rfl) ?_
  intro M k Q hk hP p e s m below meth c X hr hlocks hname hM ls hl
  have hx := X.1.1
  have hb := X.1.2.1
  have X : Cx K p l s m ([.ref a0, .ref a1] : List Value).toArray c cX1_isNear 2 RX1 := X
  have hS : va_S (mFA K) s.heap s.heap [] := va_S.rf
  have hl : lv_has ls 2 [(0, .ref a0), (1, .ref a1)] := hl
  have hb68 : ∀ (t0 : Int32) (M : Mem) (H : Heap) (locs : List Loc) (ls : Array Slot), mh K M H → va_S (mFA K) s.heap H locs → lv_has ls 2 [] → f_X1_isNear_b68 K k t0 M → W p l e rm_X1_isNear s m ([.ref a0, .ref a1] : List Value).toArray below meth c H locs 0 0 (MQ below (mQ K Q) ([.ref a0, .ref a1] : List Value).toArray s rm_X1_isNear.cells rm_X1_isNear.slots (mFA K)) (F0 m 68 ls [.int t0]) := by
    intro t0 M H locs ls hM hS hl hP
    unfold f_X1_isNear_b68 at hP
    obtain ⟨h9, hP⟩ := hP
    exact e_zret X hM hS h9 (hk _ _ hP) hr hlocks (by decide) (by decide) dX1_isNear_68
  have hb67 : ∀ (M : Mem) (H : Heap) (locs : List Loc) (ls : Array Slot), mh K M H → va_S (mFA K) s.heap H locs → lv_has ls 2 [] → f_X1_isNear_b67 K k M → W p l e rm_X1_isNear s m ([.ref a0, .ref a1] : List Value).toArray below meth c H locs 0 0 (MQ below (mQ K Q) ([.ref a0, .ref a1] : List Value).toArray s rm_X1_isNear.cells rm_X1_isNear.slots (mFA K)) (F0 m 67 ls []) := by
    intro M H locs ls hM hS hl hP
    unfold f_X1_isNear_b67 at hP
    refine lv_iconst (v := 0) hx hb dX1_isNear_67 (by decide) ?_
    exact hb68 0 _ _ _ _ hM hS (lv_sub hl [] rfl) hP
  unfold f_X1_isNear at hP
  refine lv_aload_n hx hb dX1_isNear_0 rfl (lv_at hl 0 rfl) ?_
  refine r_callVi (rest := []) (T := TX1) (N := 11) X hM hS (ct_X1_isGliding hst a0) hP mV_X1_62 rfl rfl rfl hl.1 (Nat.le_of_ble_eq_true rfl) ⟨⟨by decide, by decide⟩, ⟨by decide, by decide⟩⟩ dX1_isNear_1 (fun r1 M H locs hM hS hP => ?_)
  refine lv_if_eq (tgt := 67) hx hb dX1_isNear_4 (by decide) (fun hc => ?_) (fun hc => ?_)
  · have hP := mIf_t hP hc
    exact hb67 _ _ _ _ hM hS (lv_sub hl [] rfl) hP
  · have hP := mIf_f hP hc
    refine lv_aload_n hx hb dX1_isNear_7 rfl (lv_at hl 1 rfl) ?_
    refine r_callVi (rest := []) (T := TX1) (N := 11) X hM hS (ct_X1_isGliding hst a1) hP mV_X1_62 rfl rfl rfl hl.1 (Nat.le_of_ble_eq_true rfl) ⟨⟨by decide, by decide⟩, ⟨by decide, by decide⟩⟩ dX1_isNear_8 (fun r2 M H locs hM hS hP => ?_)
    refine lv_if_eq (tgt := 67) hx hb dX1_isNear_11 (by decide) (fun hc => ?_) (fun hc => ?_)
    · have hP := mIf_t hP hc
      exact hb67 _ _ _ _ hM hS (lv_sub hl [] rfl) hP
    · have hP := mIf_f hP hc
      refine lv_aload_n hx hb dX1_isNear_14 rfl (lv_at hl 0 rfl) ?_
      refine r_geti X hM hP fl_X1_32 dX1_isNear_15 (fun x3 hP => ?_)
      refine lv_aload_n hx hb dX1_isNear_18 rfl (lv_at hl 1 rfl) ?_
      refine r_geti X hM hP fl_X1_32 dX1_isNear_19 (fun x4 hP => ?_)
      refine lv_icmp_ne (tgt := 67) hx hb dX1_isNear_22 (by decide) (fun hc => ?_) (fun hc => ?_)
      · have hP := mIf_f hP hc
        exact hb67 _ _ _ _ hM hS (lv_sub hl [] rfl) hP
      · have hP := mIf_t hP hc
        refine lv_aload_n hx hb dX1_isNear_25 rfl (lv_at hl 0 rfl) ?_
        refine r_getd X hM hP fl_X1_38 dX1_isNear_26 (fun x5 hP => ?_)
        refine lv_aload_n hx hb dX1_isNear_29 rfl (lv_at hl 1 rfl) ?_
        refine r_getd X hM hP fl_X1_38 dX1_isNear_30 (fun x6 hP => ?_)
        obtain ⟨h9, hP⟩ := hP
        refine lv_dsub hx hb dX1_isNear_33 h9 ?_
        refine r_callSd (rest := []) X hM hS (ct_X1_sizeOf hst (FP.dsub x5 x6)) hP mS_X1_79 rfl rfl hl.1 (Nat.le_of_ble_eq_true rfl) ⟨⟨by decide, by decide⟩, ⟨by decide, by decide⟩⟩ dX1_isNear_34 (fun r7 M H locs hM hS hP => ?_)
        refine r_ldcd (v := 4621819117588971520) X kc_X1_95 dX1_isNear_37 ?_
        refine lv_dcmp hx hb dX1_isNear_40 ?_
        refine lv_if_ge (tgt := 67) hx hb dX1_isNear_41 (by decide) (fun hc => ?_) (fun hc => ?_)
        · have hP := mIf_t hP hc
          exact hb67 _ _ _ _ hM hS (lv_sub hl [] rfl) hP
        · have hP := mIf_f hP hc
          refine lv_aload_n hx hb dX1_isNear_44 rfl (lv_at hl 0 rfl) ?_
          refine r_getd X hM hP fl_X1_41 dX1_isNear_45 (fun x8 hP => ?_)
          refine lv_aload_n hx hb dX1_isNear_48 rfl (lv_at hl 1 rfl) ?_
          refine r_getd X hM hP fl_X1_41 dX1_isNear_49 (fun x9 hP => ?_)
          obtain ⟨h9, hP⟩ := hP
          refine lv_dsub hx hb dX1_isNear_52 h9 ?_
          refine r_callSd (rest := []) X hM hS (ct_X1_sizeOf hst (FP.dsub x8 x9)) hP mS_X1_79 rfl rfl hl.1 (Nat.le_of_ble_eq_true rfl) ⟨⟨by decide, by decide⟩, ⟨by decide, by decide⟩⟩ dX1_isNear_53 (fun r10 M H locs hM hS hP => ?_)
          refine r_ldcd (v := 4621819117588971520) X kc_X1_95 dX1_isNear_56 ?_
          refine lv_dcmp hx hb dX1_isNear_59 ?_
          refine lv_if_ge (tgt := 67) hx hb dX1_isNear_60 (by decide) (fun hc => ?_) (fun hc => ?_)
          · have hP := mIf_t hP hc
            exact hb67 _ _ _ _ hM hS (lv_sub hl [] rfl) hP
          · have hP := mIf_f hP hc
            refine lv_iconst (v := 1) hx hb dX1_isNear_63 (by decide) ?_
            refine lv_goto (tgt := 68) hx hb dX1_isNear_64 (by decide) ?_
            exact hb68 1 _ _ _ _ hM hS (lv_sub hl [] rfl) hP
def f_X0_countNewPairs_b75 (K : Cfg) (k : Int32 → Mem → Prop) (lp4 : Nat → Int32 → Int32 → Mem → Prop) (lp23 : Nat → Int32 → Int32 → Nat → Int32 → Mem → Prop) (v0 : Nat) (v1 : Int32) (v2 : Int32) (v3 : Nat) (v4 : Int32) : Mem → Prop :=
 lp23 v0 v1 v2 v3 (v4 + 1)
def f_X0_countNewPairs_b23_body (K : Cfg) (k : Int32 → Mem → Prop) (lp4 : Nat → Int32 → Int32 → Mem → Prop) (lp23 : Nat → Int32 → Int32 → Nat → Int32 → Mem → Prop) (v0 : Nat) (v1 : Int32) (v2 : Int32) (v3 : Nat) (v4 : Int32) : Mem → Prop :=
 mGetI v0 1 1 fun x1 =>
 mIf (x1 ≤ v4)
 (lp4 v0 v1 (v2 + 1))
 (mGetI v3 2 10 fun x2 =>
 mIf ((x2 &&& (1 <<< (v4 &&& 31))) = 0)
 (mRecv v0 1 <|
 f_X0_jumpAt K v0 v4 (fun r3 =>
 mRecv v3 2 <|
 f_X1_isNear K v3 r3 (fun r4 =>
 mIf (r4 = 0)
 (f_X0_countNewPairs_b75 K k lp4 lp23 v0 v1 v2 v3 v4)
 (mGetI v3 2 10 fun x5 =>
 mPut v3 2 10 (.int (x5 ||| (1 <<< (v4 &&& 31)))) <|
 f_X0_countNewPairs_b75 K k lp4 lp23 v0 (v1 + 1) v2 v3 v4))))
 (f_X0_countNewPairs_b75 K k lp4 lp23 v0 v1 v2 v3 v4))
def f_X0_countNewPairs_b23 (K : Cfg) (k : Int32 → Mem → Prop) (lp4 : Nat → Int32 → Int32 → Mem → Prop) : Nat → Nat → Int32 → Int32 → Nat → Int32 → Mem → Prop
  | 0 => fun _ _ _ _ _ _ => False
  | n + 1 => f_X0_countNewPairs_b23_body K k lp4 (f_X0_countNewPairs_b23 K k lp4 n)
def f_X0_countNewPairs_b4_body (K : Cfg) (k : Int32 → Mem → Prop) (lp4 : Nat → Int32 → Int32 → Mem → Prop) (v0 : Nat) (v1 : Int32) (v2 : Int32) : Mem → Prop :=
 mGetI v0 1 1 fun x1 =>
 mIf (x1 ≤ v2)
 (k v1)
 (mRecv v0 1 <|
 f_X0_jumpAt K v0 v2 (fun r2 =>
 f_X0_countNewPairs_b23 K k lp4 mFuel v0 v1 v2 r2 (v2 + 1)))
def f_X0_countNewPairs_b4 (K : Cfg) (k : Int32 → Mem → Prop) : Nat → Nat → Int32 → Int32 → Mem → Prop
  | 0 => fun _ _ _ _ => False
  | n + 1 => f_X0_countNewPairs_b4_body K k (f_X0_countNewPairs_b4 K k n)
def f_X0_countNewPairs (K : Cfg) (a0 : Nat) (k : Int32 → Mem → Prop) : Mem → Prop :=
 f_X0_countNewPairs_b4 K k mFuel a0 0 0
abbrev rm_X0_countNewPairs : Room := { frames := 2, cells := 0, slots := 0, locals := 42 }
set_option maxHeartbeats 4000000 in
set_option maxRecDepth 100000 in
theorem ct_X0_countNewPairs {K : Cfg} {l : Launch} (hst : l.stackTraces = false) (a0 : Nat) : mPi K l yX0_countNewPairs cX0_countNewPairs 6 (some .int) rm_X0_countNewPairs [.ref a0] (f_X0_countNewPairs K a0) := by
  refine mPi.of hst (by decide +kernel) (Nat.le_of_ble_eq_true rfl) ?_
  intro M k Q hk hP p e s m below meth c X hr hlocks hname hM ls hl
  have hx := X.1.1
  have hb := X.1.2.1
  have X : Cx K p l s m ([.ref a0] : List Value).toArray c cX0_countNewPairs 6 RX0 := X
  have hS : va_S (mFA K) s.heap s.heap [] := va_S.rf
  have hl : lv_has ls 6 [(0, .ref a0)] := hl
  have hb4 : ∀ (n4 : Nat) (v0 : Nat) (v1 : Int32) (v2 : Int32) (M : Mem) (H : Heap) (locs : List Loc) (ls : Array Slot), mh K M H → va_S (mFA K) s.heap H locs → lv_has ls 6 [(0, .ref v0), (1, .int v1), (2, .int v2)] → f_X0_countNewPairs_b4 K k n4 v0 v1 v2 M → W p l e rm_X0_countNewPairs s m ([.ref a0] : List Value).toArray below meth c H locs 0 0 (MQ below (mQ K Q) ([.ref a0] : List Value).toArray s rm_X0_countNewPairs.cells rm_X0_countNewPairs.slots (mFA K)) (F0 m 4 ls []) := by
    intro n4
    induction n4 with
    | zero =>
      intro v0 v1 v2 M H locs ls hM hS hl hP
      exact hP.elim
    | succ n4 ih4 =>
      have hb23 : ∀ (n23 : Nat) (v0 : Nat) (v1 : Int32) (v2 : Int32) (v3 : Nat) (v4 : Int32) (M : Mem) (H : Heap) (locs : List Loc) (ls : Array Slot), mh K M H → va_S (mFA K) s.heap H locs → lv_has ls 6 [(0, .ref v0), (1, .int v1), (2, .int v2), (3, .ref v3), (4, .int v4)] → f_X0_countNewPairs_b23 K k (f_X0_countNewPairs_b4 K k n4) n23 v0 v1 v2 v3 v4 M → W p l e rm_X0_countNewPairs s m ([.ref a0] : List Value).toArray below meth c H locs 0 0 (MQ below (mQ K Q) ([.ref a0] : List Value).toArray s rm_X0_countNewPairs.cells rm_X0_countNewPairs.slots (mFA K)) (F0 m 23 ls []) := by
        intro n23
        induction n23 with
        | zero =>
          intro v0 v1 v2 v3 v4 M H locs ls hM hS hl hP
          exact hP.elim
        | succ n23 ih23 =>
          have hb75 : ∀ (v0 : Nat) (v1 : Int32) (v2 : Int32) (v3 : Nat) (v4 : Int32) (M : Mem) (H : Heap) (locs : List Loc) (ls : Array Slot), mh K M H → va_S (mFA K) s.heap H locs → lv_has ls 6 [(0, .ref v0), (1, .int v1), (2, .int v2), (3, .ref v3), (4, .int v4)] → f_X0_countNewPairs_b75 K k (f_X0_countNewPairs_b4 K k n4) (f_X0_countNewPairs_b23 K k (f_X0_countNewPairs_b4 K k n4) n23) v0 v1 v2 v3 v4 M → W p l e rm_X0_countNewPairs s m ([.ref a0] : List Value).toArray below meth c H locs 0 0 (MQ below (mQ K Q) ([.ref a0] : List Value).toArray s rm_X0_countNewPairs.cells rm_X0_countNewPairs.slots (mFA K)) (F0 m 75 ls []) := by
            intro v0 v1 v2 v3 v4 M H locs ls hM hS hl hP
            unfold f_X0_countNewPairs_b75 at hP
            refine lv_iinc (v := v4 + 1) (lv' := [(4, .int (v4 + 1)), (0, .ref v0), (1, .int v1), (2, .int v2), (3, .ref v3)]) hx hb dX0_countNewPairs_75 hl (k := 4) rfl rfl (by decide) rfl (fun ls hl => ?_)
            refine lv_goto (tgt := 23) hx hb dX0_countNewPairs_78 (by decide) ?_
            exact ih23 v0 v1 v2 v3 (v4 + 1) _ _ _ _ hM hS (lv_sub hl [1, 2, 3, 4, 0] rfl) hP
          intro v0 v1 v2 v3 v4 M H locs ls hM hS hl hP
          have hP : f_X0_countNewPairs_b23_body K k (f_X0_countNewPairs_b4 K k n4) (f_X0_countNewPairs_b23 K k (f_X0_countNewPairs_b4 K k n4) n23) v0 v1 v2 v3 v4 M := hP
          unfold f_X0_countNewPairs_b23_body at hP
          refine lv_iload hx hb dX0_countNewPairs_23 (lv_at hl 4 rfl) ?_
          refine lv_aload_n hx hb dX0_countNewPairs_25 rfl (lv_at hl 0 rfl) ?_
          refine r_geti X hM hP fl_X0_17 dX0_countNewPairs_26 (fun x1 hP => ?_)
          refine lv_icmp_ge (tgt := 81) hx hb dX0_countNewPairs_29 (by decide) (fun hc => ?_) (fun hc => ?_)
          · have hP := mIf_t hP hc
            refine lv_iinc (v := v2 + 1) (lv' := [(2, .int (v2 + 1)), (0, .ref v0), (1, .int v1), (3, .ref v3), (4, .int v4)]) hx hb dX0_countNewPairs_81 hl (k := 2) rfl rfl (by decide) rfl (fun ls hl => ?_)
            refine lv_goto (tgt := 4) hx hb dX0_countNewPairs_84 (by decide) ?_
            exact ih4 v0 v1 (v2 + 1) _ _ _ _ hM hS (lv_sub hl [1, 2, 0] rfl) hP
          · have hP := mIf_f hP hc
            refine lv_iconst (v := 1) hx hb dX0_countNewPairs_32 (by decide) ?_
            refine lv_iload hx hb dX0_countNewPairs_33 (lv_at hl 4 rfl) ?_
            refine lv_ishl hx hb dX0_countNewPairs_35 ?_
            refine lv_istore (lv' := [(5, .int (1 <<< (v4 &&& 31))), (0, .ref v0), (1, .int v1), (2, .int v2), (3, .ref v3), (4, .int v4)]) hx hb dX0_countNewPairs_36 hl (by decide) rfl (fun ls hl => ?_)
            refine lv_aload_n hx hb dX0_countNewPairs_38 rfl (lv_at hl 4 rfl) ?_
            refine r_geti X hM hP fl_X0_56 dX0_countNewPairs_39 (fun x2 hP => ?_)
            refine lv_iload hx hb dX0_countNewPairs_42 (lv_at hl 0 rfl) ?_
            refine lv_iand hx hb dX0_countNewPairs_44 ?_
            refine lv_if_ne (tgt := 75) hx hb dX0_countNewPairs_45 (by decide) (fun hc => ?_) (fun hc => ?_)
            · have hP := mIf_f hP hc
              exact hb75 v0 v1 v2 v3 v4 _ _ _ _ hM hS (lv_sub hl [1, 2, 3, 4, 5] rfl) hP
            · have hP := mIf_t hP hc
              refine lv_aload_n hx hb dX0_countNewPairs_48 rfl (lv_at hl 4 rfl) ?_
              refine lv_aload_n hx hb dX0_countNewPairs_49 rfl (lv_at hl 1 rfl) ?_
              refine lv_iload hx hb dX0_countNewPairs_50 (lv_at hl 5 rfl) ?_
              refine r_callVr (rest := [.ref v3]) (T := TX0) (N := 2) X hM hS (ct_X0_jumpAt hst v0 v4) hP mV_X0_22 rfl rfl rfl hl.1 (Nat.le_of_ble_eq_true rfl) ⟨⟨by decide, by decide⟩, ⟨by decide, by decide⟩⟩ dX0_countNewPairs_52 (fun r3 M H locs hM hS hP => ?_)
              refine r_callVi (rest := []) (T := TX1) (N := 11) X hM hS (ct_X1_isNear hst v3 r3) hP mV_X0_59 rfl rfl rfl hl.1 (Nat.le_of_ble_eq_true rfl) ⟨⟨by decide, by decide⟩, ⟨by decide, by decide⟩⟩ dX0_countNewPairs_55 (fun r4 M H locs hM hS hP => ?_)
              refine lv_if_eq (tgt := 75) hx hb dX0_countNewPairs_58 (by decide) (fun hc => ?_) (fun hc => ?_)
              · have hP := mIf_t hP hc
                exact hb75 v0 v1 v2 v3 v4 _ _ _ _ hM hS (lv_sub hl [1, 2, 3, 4, 5] rfl) hP
              · have hP := mIf_f hP hc
                refine lv_aload_n hx hb dX0_countNewPairs_61 rfl (lv_at hl 4 rfl) ?_
                refine lv_dup hx hb dX0_countNewPairs_62 rfl ?_
                refine r_geti X hM hP fl_X0_56 dX0_countNewPairs_63 (fun x5 hP => ?_)
                refine lv_iload hx hb dX0_countNewPairs_66 (lv_at hl 0 rfl) ?_
                refine lv_ior hx hb dX0_countNewPairs_68 ?_
                refine r_put X hM hS hP fl_X0_56 ft_X1 rfl (tyX1_ok 10 (Nat.le_of_ble_eq_true rfl)) rfl rfl dX0_countNewPairs_69 (fun M H locs hM hS hP => ?_)
                refine lv_iinc (v := v1 + 1) (lv' := [(1, .int (v1 + 1)), (5, .int (1 <<< (v4 &&& 31))), (0, .ref v0), (2, .int v2), (3, .ref v3), (4, .int v4)]) hx hb dX0_countNewPairs_72 hl (k := 2) rfl rfl (by decide) rfl (fun ls hl => ?_)
                exact hb75 v0 (v1 + 1) v2 v3 v4 _ _ _ _ hM hS (lv_sub hl [2, 0, 3, 4, 5] rfl) hP
      intro v0 v1 v2 M H locs ls hM hS hl hP
      have hP : f_X0_countNewPairs_b4_body K k (f_X0_countNewPairs_b4 K k n4) v0 v1 v2 M := hP
      unfold f_X0_countNewPairs_b4_body at hP
      refine lv_iload_n hx hb dX0_countNewPairs_4 rfl (lv_at hl 2 rfl) ?_
      refine lv_aload_n hx hb dX0_countNewPairs_5 rfl (lv_at hl 0 rfl) ?_
      refine r_geti X hM hP fl_X0_17 dX0_countNewPairs_6 (fun x1 hP => ?_)
      refine lv_icmp_ge (tgt := 87) hx hb dX0_countNewPairs_9 (by decide) (fun hc => ?_) (fun hc => ?_)
      · have hP := mIf_t hP hc
        refine lv_iload_n hx hb dX0_countNewPairs_87 rfl (lv_at hl 1 rfl) ?_
        exact e_iret X hM hS (hk _ _ hP) hr hlocks (by decide) (by decide) dX0_countNewPairs_88
      · have hP := mIf_f hP hc
        refine lv_aload_n hx hb dX0_countNewPairs_12 rfl (lv_at hl 0 rfl) ?_
        refine lv_iload_n hx hb dX0_countNewPairs_13 rfl (lv_at hl 2 rfl) ?_
        refine r_callVr (rest := []) (T := TX0) (N := 2) X hM hS (ct_X0_jumpAt hst v0 v2) hP mV_X0_22 rfl rfl rfl hl.1 (Nat.le_of_ble_eq_true rfl) ⟨⟨by decide, by decide⟩, ⟨by decide, by decide⟩⟩ dX0_countNewPairs_14 (fun r2 M H locs hM hS hP => ?_)
        refine lv_astore_n (lv' := [(3, .ref r2), (0, .ref v0), (1, .int v1), (2, .int v2)]) hx hb dX0_countNewPairs_17 rfl hl (by decide) rfl (fun ls hl => ?_)
        refine lv_iload_n hx hb dX0_countNewPairs_18 rfl (lv_at hl 3 rfl) ?_
        refine lv_iconst (v := 1) hx hb dX0_countNewPairs_19 (by decide) ?_
        refine lv_iadd hx hb dX0_countNewPairs_20 ?_
        refine lv_istore (lv' := [(4, .int (v2 + 1)), (3, .ref r2), (0, .ref v0), (1, .int v1), (2, .int v2)]) hx hb dX0_countNewPairs_21 hl (by decide) rfl (fun ls hl => ?_)
        exact hb23 mFuel v0 v1 v2 r2 (v2 + 1) _ _ _ _ hM hS (lv_sub hl [2, 3, 4, 1, 0] rfl) hP
  unfold f_X0_countNewPairs at hP
  refine lv_iconst (v := 0) hx hb dX0_countNewPairs_0 (by decide) ?_
  refine lv_istore_n (lv' := [(1, .int 0), (0, .ref a0)]) hx hb dX0_countNewPairs_1 rfl hl (by decide) rfl (fun ls hl => ?_)
  refine lv_iconst (v := 0) hx hb dX0_countNewPairs_2 (by decide) ?_
  refine lv_istore_n (lv' := [(2, .int 0), (1, .int 0), (0, .ref a0)]) hx hb dX0_countNewPairs_3 rfl hl (by decide) rfl (fun ls hl => ?_)
  exact hb4 mFuel a0 0 0 _ _ _ _ hM hS (lv_sub hl [2, 1, 0] rfl) hP
def f_X0_run_b40 (K : Cfg) (k : Int32 → Mem → Prop) (v2 : Int32) : Mem → Prop :=
 k v2
def f_X0_run_b7_body (K : Cfg) (k : Int32 → Mem → Prop) (lp7 : Nat → Nat → Int32 → Int32 → Int32 → Mem → Prop) (v0 : Nat) (v1 : Nat) (v2 : Int32) (v3 : Int32) (v4 : Int32) : Mem → Prop :=
 mIf (1000 ≤ v4)
 (f_X0_run_b40 K k v2)
 (mIf (v3 = 0)
 (mRecv v0 1 <|
 f_X0_goOn K v0 v4 v1 (fun r1 =>
 mRecv v0 1 <|
 f_X0_countNewPairs K v0 (fun r2 =>
 lp7 v0 v1 (v2 + r2) r1 (v4 + 1))))
 (f_X0_run_b40 K k v2))
def f_X0_run_b7 (K : Cfg) (k : Int32 → Mem → Prop) : Nat → Nat → Nat → Int32 → Int32 → Int32 → Mem → Prop
  | 0 => fun _ _ _ _ _ _ => False
  | n + 1 => f_X0_run_b7_body K k (f_X0_run_b7 K k n)
def f_X0_run (K : Cfg) (a0 : Nat) (a1 : Nat) (k : Int32 → Mem → Prop) : Mem → Prop :=
 f_X0_run_b7 K k mFuel a0 a1 0 0 0
abbrev rm_X0_run : Room := { frames := 4, cells := 0, slots := 0, locals := 90 }
set_option maxHeartbeats 4000000 in
set_option maxRecDepth 100000 in
theorem ct_X0_run {K : Cfg} {l : Launch} (hst : l.stackTraces = false) (a0 : Nat) (a1 : Nat) : mPi K l yX0_run cX0_run 5 (some .int) rm_X0_run [.ref a0, .ref a1] (f_X0_run K a0 a1) := by
  refine mPi.of hst (by decide +kernel) (Nat.le_of_ble_eq_true rfl) ?_
  intro M k Q hk hP p e s m below meth c X hr hlocks hname hM ls hl
  have hx := X.1.1
  have hb := X.1.2.1
  have X : Cx K p l s m ([.ref a0, .ref a1] : List Value).toArray c cX0_run 5 RX0 := X
  have hS : va_S (mFA K) s.heap s.heap [] := va_S.rf
  have hl : lv_has ls 5 [(0, .ref a0), (1, .ref a1)] := hl
  have hb40 : ∀ (v2 : Int32) (M : Mem) (H : Heap) (locs : List Loc) (ls : Array Slot), mh K M H → va_S (mFA K) s.heap H locs → lv_has ls 5 [(2, .int v2)] → f_X0_run_b40 K k v2 M → W p l e rm_X0_run s m ([.ref a0, .ref a1] : List Value).toArray below meth c H locs 0 0 (MQ below (mQ K Q) ([.ref a0, .ref a1] : List Value).toArray s rm_X0_run.cells rm_X0_run.slots (mFA K)) (F0 m 40 ls []) := by
    intro v2 M H locs ls hM hS hl hP
    unfold f_X0_run_b40 at hP
    refine lv_iload_n hx hb dX0_run_40 rfl (lv_at hl 0 rfl) ?_
    exact e_iret X hM hS (hk _ _ hP) hr hlocks (by decide) (by decide) dX0_run_41
  have hb7 : ∀ (n7 : Nat) (v0 : Nat) (v1 : Nat) (v2 : Int32) (v3 : Int32) (v4 : Int32) (M : Mem) (H : Heap) (locs : List Loc) (ls : Array Slot), mh K M H → va_S (mFA K) s.heap H locs → lv_has ls 5 [(0, .ref v0), (1, .ref v1), (2, .int v2), (3, .int v3), (4, .int v4)] → f_X0_run_b7 K k n7 v0 v1 v2 v3 v4 M → W p l e rm_X0_run s m ([.ref a0, .ref a1] : List Value).toArray below meth c H locs 0 0 (MQ below (mQ K Q) ([.ref a0, .ref a1] : List Value).toArray s rm_X0_run.cells rm_X0_run.slots (mFA K)) (F0 m 7 ls []) := by
    intro n7
    induction n7 with
    | zero =>
      intro v0 v1 v2 v3 v4 M H locs ls hM hS hl hP
      exact hP.elim
    | succ n7 ih7 =>
      intro v0 v1 v2 v3 v4 M H locs ls hM hS hl hP
      have hP : f_X0_run_b7_body K k (f_X0_run_b7 K k n7) v0 v1 v2 v3 v4 M := hP
      unfold f_X0_run_b7_body at hP
      refine lv_iload hx hb dX0_run_7 (lv_at hl 4 rfl) ?_
      refine lv_sipush (v := 1000) hx hb dX0_run_9 (by decide) ?_
      refine lv_icmp_ge (tgt := 40) hx hb dX0_run_12 (by decide) (fun hc => ?_) (fun hc => ?_)
      · have hP := mIf_t hP hc
        exact hb40 v2 _ _ _ _ hM hS (lv_sub hl [2] rfl) hP
      · have hP := mIf_f hP hc
        refine lv_iload_n hx hb dX0_run_15 rfl (lv_at hl 3 rfl) ?_
        refine lv_if_ne (tgt := 40) hx hb dX0_run_16 (by decide) (fun hc => ?_) (fun hc => ?_)
        · have hP := mIf_f hP hc
          exact hb40 v2 _ _ _ _ hM hS (lv_sub hl [2] rfl) hP
        · have hP := mIf_t hP hc
          refine lv_aload_n hx hb dX0_run_19 rfl (lv_at hl 0 rfl) ?_
          refine lv_iload hx hb dX0_run_20 (lv_at hl 4 rfl) ?_
          refine lv_aload_n hx hb dX0_run_22 rfl (lv_at hl 1 rfl) ?_
          refine r_callVi (rest := []) (T := TX0) (N := 2) X hM hS (ct_X0_goOn hst v0 v4 v1) hP mV_X0_38 rfl rfl rfl hl.1 (Nat.le_of_ble_eq_true rfl) ⟨⟨by decide, by decide⟩, ⟨by decide, by decide⟩⟩ dX0_run_23 (fun r1 M H locs hM hS hP => ?_)
          refine lv_istore_n (lv' := [(3, .int r1), (0, .ref v0), (1, .ref v1), (2, .int v2), (4, .int v4)]) hx hb dX0_run_26 rfl hl (by decide) rfl (fun ls hl => ?_)
          refine lv_iload_n hx hb dX0_run_27 rfl (lv_at hl 3 rfl) ?_
          refine lv_aload_n hx hb dX0_run_28 rfl (lv_at hl 1 rfl) ?_
          refine r_callVi (rest := [.int v2]) (T := TX0) (N := 2) X hM hS (ct_X0_countNewPairs hst v0) hP mV_X0_42 rfl rfl rfl hl.1 (Nat.le_of_ble_eq_true rfl) ⟨⟨by decide, by decide⟩, ⟨by decide, by decide⟩⟩ dX0_run_29 (fun r2 M H locs hM hS hP => ?_)
          refine lv_iadd hx hb dX0_run_32 ?_
          refine lv_istore_n (lv' := [(2, .int (v2 + r2)), (3, .int r1), (0, .ref v0), (1, .ref v1), (4, .int v4)]) hx hb dX0_run_33 rfl hl (by decide) rfl (fun ls hl => ?_)
          refine lv_iinc (v := v4 + 1) (lv' := [(4, .int (v4 + 1)), (2, .int (v2 + r2)), (3, .int r1), (0, .ref v0), (1, .ref v1)]) hx hb dX0_run_34 hl (k := 4) rfl rfl (by decide) rfl (fun ls hl => ?_)
          refine lv_goto (tgt := 7) hx hb dX0_run_37 (by decide) ?_
          exact ih7 v0 v1 (v2 + r2) r1 (v4 + 1) _ _ _ _ hM hS (lv_sub hl [3, 4, 1, 2, 0] rfl) hP
  unfold f_X0_run at hP
  refine lv_iconst (v := 0) hx hb dX0_run_0 (by decide) ?_
  refine lv_istore_n (lv' := [(2, .int 0), (0, .ref a0), (1, .ref a1)]) hx hb dX0_run_1 rfl hl (by decide) rfl (fun ls hl => ?_)
  refine lv_iconst (v := 0) hx hb dX0_run_2 (by decide) ?_
  refine lv_istore_n (lv' := [(3, .int 0), (2, .int 0), (0, .ref a0), (1, .ref a1)]) hx hb dX0_run_3 rfl hl (by decide) rfl (fun ls hl => ?_)
  refine lv_iconst (v := 0) hx hb dX0_run_4 (by decide) ?_
  refine lv_istore (lv' := [(4, .int 0), (3, .int 0), (2, .int 0), (0, .ref a0), (1, .ref a1)]) hx hb dX0_run_5 hl (by decide) rfl (fun ls hl => ?_)
  exact hb7 mFuel a0 a1 0 0 0 _ _ _ _ hM hS (lv_sub hl [3, 4, 2, 1, 0] rfl) hP
def f_X1_plan_b66 (K : Cfg) (k : Mem → Prop) (v0 : Nat) (t0 : Nat) (t1 : UInt64) : Mem → Prop :=
 mPut t0 2 3 (.double t1) <|
 mPutZ v0 2 4 0 <|
 k
def f_X1_plan_b38 (K : Cfg) (k : Mem → Prop) (v0 : Nat) (v1 : Int32) (v4 : UInt32) (t0 : Nat) (t1 : Int32) : Mem → Prop :=
 mPut t0 2 2 (.int t1) <|
 mAs (vf_n64 (FP.f2d v4)) <|
 mAs (vf_n64 (FP.dadd 4616189618054758400 (FP.f2d v4))) <|
 mIf (v1 = 0)
 (mAs (vf_n64 (FP.ddiv (FP.dadd 4616189618054758400 (FP.f2d v4)) 4611686018427387904)) <|
 f_X1_plan_b66 K k v0 v0 (FP.ddiv (FP.dadd 4616189618054758400 (FP.f2d v4)) 4611686018427387904))
 (f_X1_plan_b66 K k v0 v0 (FP.dadd 4616189618054758400 (FP.f2d v4)))
def f_X1_plan_b15 (K : Cfg) (k : Mem → Prop) (v0 : Nat) (v1 : Int32) (v4 : UInt32) (t0 : Nat) (t1 : Int32) : Mem → Prop :=
 mPut t0 2 1 (.int t1) <|
 mIf ((Op.cmpValue (FP.fcmp v4 FP.fconst0) .l) ≤ 0)
 (f_X1_plan_b38 K k v0 v1 v4 v0 1)
 (mAs (vf_n32 (FP.fdiv 1090519040 v4)) <|
 f_X1_plan_b38 K k v0 v1 v4 v0 (1 + (FP.f2i (FP.fdiv 1090519040 v4))))
def f_X1_plan (K : Cfg) (a0 : Nat) (a1 : Int32) (a2 : Int32) (a3 : Int32) (a4 : UInt32) (k : Mem → Prop) : Mem → Prop :=
 mPut a0 2 0 (.int a3) <|
 mIf (a2 = 0)
 (f_X1_plan_b15 K k a0 a1 a4 a0 2)
 (f_X1_plan_b15 K k a0 a1 a4 a0 1)
abbrev rm_X1_plan : Room := { frames := 0, cells := 0, slots := 0, locals := 0 }
set_option maxHeartbeats 4000000 in
set_option maxRecDepth 100000 in
theorem ct_X1_plan {K : Cfg} {l : Launch} (hst : l.stackTraces = false) (a0 : Nat) (a1 : Int32) (a2 : Int32) (a3 : Int32) (a4 : UInt32) : mPv K l yX1_plan cX1_plan 7 none rm_X1_plan [.ref a0, .int a1, .int a2, .int a3, .float a4] (f_X1_plan K a0 a1 a2 a3 a4) := by
  refine mPv.of hst (by decide +kernel) (Nat.le_of_ble_eq_true rfl) ?_
  intro M k Q hk hP p e s m below meth c X hr hlocks hname hM ls hl
  have hx := X.1.1
  have hb := X.1.2.1
  have X : Cx K p l s m ([.ref a0, .int a1, .int a2, .int a3, .float a4] : List Value).toArray c cX1_plan 7 RX1 := X
  have hS : va_S (mFA K) s.heap s.heap [] := va_S.rf
  have hl : lv_has ls 7 [(0, .ref a0), (1, .int a1), (2, .int a2), (3, .int a3), (4, .float a4)] := hl
  have hb66 : ∀ (v0 : Nat) (t0 : Nat) (t1 : UInt64) (M : Mem) (H : Heap) (locs : List Loc) (ls : Array Slot), mh K M H → va_S (mFA K) s.heap H locs → lv_has ls 7 [(0, .ref v0)] → f_X1_plan_b66 K k v0 t0 t1 M → W p l e rm_X1_plan s m ([.ref a0, .int a1, .int a2, .int a3, .float a4] : List Value).toArray below meth c H locs 0 0 (MQ below (mQ K Q) ([.ref a0, .int a1, .int a2, .int a3, .float a4] : List Value).toArray s rm_X1_plan.cells rm_X1_plan.slots (mFA K)) (F0 m 66 ls [.double t1, .ref t0]) := by
    intro v0 t0 t1 M H locs ls hM hS hl hP
    unfold f_X1_plan_b66 at hP
    refine r_put X hM hS hP fl_X1_21 ft_X1 rfl (tyX1_ok 3 (Nat.le_of_ble_eq_true rfl)) rfl rfl dX1_plan_66 (fun M H locs hM hS hP => ?_)
    refine lv_aload_n hx hb dX1_plan_69 rfl (lv_at hl 0 rfl) ?_
    refine lv_iconst (v := 0) hx hb dX1_plan_70 (by decide) ?_
    refine r_putz X hM hS hP fl_X1_25 ft_X1 rfl (tyX1_ok 4 (Nat.le_of_ble_eq_true rfl)) dX1_plan_71 (fun M H locs hM hS hP => ?_)
    exact e_vret X hM hS (hk _ hP) hr hlocks (by decide) (by decide) dX1_plan_74
  have hb38 : ∀ (v0 : Nat) (v1 : Int32) (v4 : UInt32) (t0 : Nat) (t1 : Int32) (M : Mem) (H : Heap) (locs : List Loc) (ls : Array Slot), mh K M H → va_S (mFA K) s.heap H locs → lv_has ls 7 [(0, .ref v0), (1, .int v1), (4, .float v4)] → f_X1_plan_b38 K k v0 v1 v4 t0 t1 M → W p l e rm_X1_plan s m ([.ref a0, .int a1, .int a2, .int a3, .float a4] : List Value).toArray below meth c H locs 0 0 (MQ below (mQ K Q) ([.ref a0, .int a1, .int a2, .int a3, .float a4] : List Value).toArray s rm_X1_plan.cells rm_X1_plan.slots (mFA K)) (F0 m 38 ls [.int t1, .ref t0]) := by
    intro v0 v1 v4 t0 t1 M H locs ls hM hS hl hP
    unfold f_X1_plan_b38 at hP
    refine r_put X hM hS hP fl_X1_18 ft_X1 rfl (tyX1_ok 2 (Nat.le_of_ble_eq_true rfl)) rfl rfl dX1_plan_38 (fun M H locs hM hS hP => ?_)
    refine r_ldcd (v := 4616189618054758400) X kc_X1_48 dX1_plan_41 ?_
    refine lv_fload hx hb dX1_plan_44 (lv_at hl 2 rfl) ?_
    obtain ⟨h9, hP⟩ := hP
    refine lv_f2d hx hb dX1_plan_46 h9 ?_
    obtain ⟨h9, hP⟩ := hP
    refine lv_dadd hx hb dX1_plan_47 h9 ?_
    refine lv_dstore (lv' := [(5, .double (FP.dadd 4616189618054758400 (FP.f2d v4))), (0, .ref v0), (1, .int v1), (4, .float v4)]) hx hb dX1_plan_48 hl (by decide) rfl (fun ls hl => ?_)
    refine lv_aload_n hx hb dX1_plan_50 rfl (lv_at hl 1 rfl) ?_
    refine lv_iload_n hx hb dX1_plan_51 rfl (lv_at hl 2 rfl) ?_
    refine lv_if_ne (tgt := 64) hx hb dX1_plan_52 (by decide) (fun hc => ?_) (fun hc => ?_)
    · have hP := mIf_f hP hc
      refine lv_dload hx hb dX1_plan_64 (lv_at hl 0 rfl) ?_
      exact hb66 v0 v0 (FP.dadd 4616189618054758400 (FP.f2d v4)) _ _ _ _ hM hS (lv_sub hl [1] rfl) hP
    · have hP := mIf_t hP hc
      refine lv_dload hx hb dX1_plan_55 (lv_at hl 0 rfl) ?_
      refine r_ldcd (v := 4611686018427387904) X kc_X1_50 dX1_plan_57 ?_
      obtain ⟨h9, hP⟩ := hP
      refine lv_ddiv hx hb dX1_plan_60 h9 ?_
      refine lv_goto (tgt := 66) hx hb dX1_plan_61 (by decide) ?_
      exact hb66 v0 v0 (FP.ddiv (FP.dadd 4616189618054758400 (FP.f2d v4)) 4611686018427387904) _ _ _ _ hM hS (lv_sub hl [1] rfl) hP
  have hb15 : ∀ (v0 : Nat) (v1 : Int32) (v4 : UInt32) (t0 : Nat) (t1 : Int32) (M : Mem) (H : Heap) (locs : List Loc) (ls : Array Slot), mh K M H → va_S (mFA K) s.heap H locs → lv_has ls 7 [(0, .ref v0), (1, .int v1), (4, .float v4)] → f_X1_plan_b15 K k v0 v1 v4 t0 t1 M → W p l e rm_X1_plan s m ([.ref a0, .int a1, .int a2, .int a3, .float a4] : List Value).toArray below meth c H locs 0 0 (MQ below (mQ K Q) ([.ref a0, .int a1, .int a2, .int a3, .float a4] : List Value).toArray s rm_X1_plan.cells rm_X1_plan.slots (mFA K)) (F0 m 15 ls [.int t1, .ref t0]) := by
    intro v0 v1 v4 t0 t1 M H locs ls hM hS hl hP
    unfold f_X1_plan_b15 at hP
    refine r_put X hM hS hP fl_X1_15 ft_X1 rfl (tyX1_ok 1 (Nat.le_of_ble_eq_true rfl)) rfl rfl dX1_plan_15 (fun M H locs hM hS hP => ?_)
    refine lv_aload_n hx hb dX1_plan_18 rfl (lv_at hl 0 rfl) ?_
    refine lv_fload hx hb dX1_plan_19 (lv_at hl 2 rfl) ?_
    refine lv_fconst0 hx hb dX1_plan_21 ?_
    refine lv_fcmp hx hb dX1_plan_22 ?_
    refine lv_if_le (tgt := 37) hx hb dX1_plan_23 (by decide) (fun hc => ?_) (fun hc => ?_)
    · have hP := mIf_t hP hc
      refine lv_iconst (v := 1) hx hb dX1_plan_37 (by decide) ?_
      exact hb38 v0 v1 v4 v0 1 _ _ _ _ hM hS (lv_sub hl [0, 1, 2] rfl) hP
    · have hP := mIf_f hP hc
      refine lv_iconst (v := 1) hx hb dX1_plan_26 (by decide) ?_
      refine r_ldcf (v := 1090519040) X kc_X1_47 dX1_plan_27 ?_
      refine lv_fload hx hb dX1_plan_29 (lv_at hl 2 rfl) ?_
      obtain ⟨h9, hP⟩ := hP
      refine lv_fdiv hx hb dX1_plan_31 h9 ?_
      refine lv_f2i hx hb dX1_plan_32 ?_
      refine lv_iadd hx hb dX1_plan_33 ?_
      refine lv_goto (tgt := 38) hx hb dX1_plan_34 (by decide) ?_
      exact hb38 v0 v1 v4 v0 (1 + (FP.f2i (FP.fdiv 1090519040 v4))) _ _ _ _ hM hS (lv_sub hl [0, 1, 2] rfl) hP
  unfold f_X1_plan at hP
  refine lv_aload_n hx hb dX1_plan_0 rfl (lv_at hl 0 rfl) ?_
  refine lv_iload_n hx hb dX1_plan_1 rfl (lv_at hl 3 rfl) ?_
  refine r_put X hM hS hP fl_X1_9 ft_X1 rfl (tyX1_ok 0 (Nat.le_of_ble_eq_true rfl)) rfl rfl dX1_plan_2 (fun M H locs hM hS hP => ?_)
  refine lv_aload_n hx hb dX1_plan_5 rfl (lv_at hl 0 rfl) ?_
  refine lv_iload_n hx hb dX1_plan_6 rfl (lv_at hl 2 rfl) ?_
  refine lv_if_ne (tgt := 14) hx hb dX1_plan_7 (by decide) (fun hc => ?_) (fun hc => ?_)
  · have hP := mIf_f hP hc
    refine lv_iconst (v := 1) hx hb dX1_plan_14 (by decide) ?_
    exact hb15 a0 a1 a4 a0 1 _ _ _ _ hM hS (lv_sub hl [0, 1, 4] rfl) hP
  · have hP := mIf_t hP hc
    refine lv_iconst (v := 2) hx hb dX1_plan_10 (by decide) ?_
    refine lv_goto (tgt := 15) hx hb dX1_plan_11 (by decide) ?_
    exact hb15 a0 a1 a4 a0 2 _ _ _ _ hM hS (lv_sub hl [0, 1, 4] rfl) hP
def f_X1_planReserve (K : Cfg) (a0 : Nat) (k : Mem → Prop) : Mem → Prop :=
 mGetI a0 2 0 fun x1 =>
 mPut a0 2 0 (.int (x1 - 1)) <|
 mPut a0 2 2 (.int 4) <|
 mPut a0 2 3 (.double 4613937818241073152) <|
 mPutZ a0 2 4 1 <|
 k
abbrev rm_X1_planReserve : Room := { frames := 0, cells := 0, slots := 0, locals := 0 }
set_option maxHeartbeats 4000000 in
set_option maxRecDepth 100000 in
theorem ct_X1_planReserve {K : Cfg} {l : Launch} (hst : l.stackTraces = false) (a0 : Nat) : mPv K l yX1_planReserve cX1_planReserve 1 none rm_X1_planReserve [.ref a0] (f_X1_planReserve K a0) := by
  refine mPv.of hst (by decide +kernel) (Nat.le_of_ble_eq_true rfl) ?_
  intro M k Q hk hP p e s m below meth c X hr hlocks hname hM ls hl
  have hx := X.1.1
  have hb := X.1.2.1
  have X : Cx K p l s m ([.ref a0] : List Value).toArray c cX1_planReserve 1 RX1 := X
  have hS : va_S (mFA K) s.heap s.heap [] := va_S.rf
  have hl : lv_has ls 1 [(0, .ref a0)] := hl
  unfold f_X1_planReserve at hP
  refine lv_aload_n hx hb dX1_planReserve_0 rfl (lv_at hl 0 rfl) ?_
  refine lv_dup hx hb dX1_planReserve_1 rfl ?_
  refine r_geti X hM hP fl_X1_9 dX1_planReserve_2 (fun x1 hP => ?_)
  refine lv_iconst (v := 1) hx hb dX1_planReserve_5 (by decide) ?_
  refine lv_isub hx hb dX1_planReserve_6 ?_
  refine r_put X hM hS hP fl_X1_9 ft_X1 rfl (tyX1_ok 0 (Nat.le_of_ble_eq_true rfl)) rfl rfl dX1_planReserve_7 (fun M H locs hM hS hP => ?_)
  refine lv_aload_n hx hb dX1_planReserve_10 rfl (lv_at hl 0 rfl) ?_
  refine lv_iconst (v := 4) hx hb dX1_planReserve_11 (by decide) ?_
  refine r_put X hM hS hP fl_X1_18 ft_X1 rfl (tyX1_ok 2 (Nat.le_of_ble_eq_true rfl)) rfl rfl dX1_planReserve_12 (fun M H locs hM hS hP => ?_)
  refine lv_aload_n hx hb dX1_planReserve_15 rfl (lv_at hl 0 rfl) ?_
  refine r_ldcd (v := 4613937818241073152) X kc_X1_52 dX1_planReserve_16 ?_
  refine r_put X hM hS hP fl_X1_21 ft_X1 rfl (tyX1_ok 3 (Nat.le_of_ble_eq_true rfl)) rfl rfl dX1_planReserve_19 (fun M H locs hM hS hP => ?_)
  refine lv_aload_n hx hb dX1_planReserve_22 rfl (lv_at hl 0 rfl) ?_
  refine lv_iconst (v := 1) hx hb dX1_planReserve_23 (by decide) ?_
  refine r_putz X hM hS hP fl_X1_25 ft_X1 rfl (tyX1_ok 4 (Nat.le_of_ble_eq_true rfl)) dX1_planReserve_24 (fun M H locs hM hS hP => ?_)
  exact e_vret X hM hS (hk _ hP) hr hlocks (by decide) (by decide) dX1_planReserve_27
def f_X1_comeDown_b27 (K : Cfg) (k : Int32 → Mem → Prop) (v2 : Int32) : Mem → Prop :=
 k v2
def f_X1_comeDown_b2_body (K : Cfg) (k : Int32 → Mem → Prop) (lp2 : Nat → Nat → Int32 → Mem → Prop) (v0 : Nat) (v1 : Nat) (v2 : Int32) : Mem → Prop :=
 mRecv v0 2 <|
 f_X1_isDown K v0 (fun r1 =>
 mIf (r1 = 0)
 (mIf (1000 ≤ v2)
 (f_X1_comeDown_b27 K k v2)
 (mRecv v0 2 <|
 f_X1_goOn K v0 v1 (
 lp2 v0 v1 (v2 + 1))))
 (f_X1_comeDown_b27 K k v2))
def f_X1_comeDown_b2 (K : Cfg) (k : Int32 → Mem → Prop) : Nat → Nat → Nat → Int32 → Mem → Prop
  | 0 => fun _ _ _ _ => False
  | n + 1 => f_X1_comeDown_b2_body K k (f_X1_comeDown_b2 K k n)
def f_X1_comeDown (K : Cfg) (a0 : Nat) (a1 : Nat) (k : Int32 → Mem → Prop) : Mem → Prop :=
 f_X1_comeDown_b2 K k mFuel a0 a1 0
abbrev rm_X1_comeDown : Room := { frames := 3, cells := 0, slots := 0, locals := 65 }
set_option maxHeartbeats 4000000 in
set_option maxRecDepth 100000 in
theorem ct_X1_comeDown {K : Cfg} {l : Launch} (hst : l.stackTraces = false) (a0 : Nat) (a1 : Nat) : mPi K l yX1_comeDown cX1_comeDown 3 (some .int) rm_X1_comeDown [.ref a0, .ref a1] (f_X1_comeDown K a0 a1) := by
  refine mPi.of hst (by decide +kernel) (Nat.le_of_ble_eq_true rfl) ?_
  intro M k Q hk hP p e s m below meth c X hr hlocks hname hM ls hl
  have hx := X.1.1
  have hb := X.1.2.1
  have X : Cx K p l s m ([.ref a0, .ref a1] : List Value).toArray c cX1_comeDown 3 RX1 := X
  have hS : va_S (mFA K) s.heap s.heap [] := va_S.rf
  have hl : lv_has ls 3 [(0, .ref a0), (1, .ref a1)] := hl
  have hb27 : ∀ (v2 : Int32) (M : Mem) (H : Heap) (locs : List Loc) (ls : Array Slot), mh K M H → va_S (mFA K) s.heap H locs → lv_has ls 3 [(2, .int v2)] → f_X1_comeDown_b27 K k v2 M → W p l e rm_X1_comeDown s m ([.ref a0, .ref a1] : List Value).toArray below meth c H locs 0 0 (MQ below (mQ K Q) ([.ref a0, .ref a1] : List Value).toArray s rm_X1_comeDown.cells rm_X1_comeDown.slots (mFA K)) (F0 m 27 ls []) := by
    intro v2 M H locs ls hM hS hl hP
    unfold f_X1_comeDown_b27 at hP
    refine lv_iload_n hx hb dX1_comeDown_27 rfl (lv_at hl 0 rfl) ?_
    exact e_iret X hM hS (hk _ _ hP) hr hlocks (by decide) (by decide) dX1_comeDown_28
  have hb2 : ∀ (n2 : Nat) (v0 : Nat) (v1 : Nat) (v2 : Int32) (M : Mem) (H : Heap) (locs : List Loc) (ls : Array Slot), mh K M H → va_S (mFA K) s.heap H locs → lv_has ls 3 [(0, .ref v0), (1, .ref v1), (2, .int v2)] → f_X1_comeDown_b2 K k n2 v0 v1 v2 M → W p l e rm_X1_comeDown s m ([.ref a0, .ref a1] : List Value).toArray below meth c H locs 0 0 (MQ below (mQ K Q) ([.ref a0, .ref a1] : List Value).toArray s rm_X1_comeDown.cells rm_X1_comeDown.slots (mFA K)) (F0 m 2 ls []) := by
    intro n2
    induction n2 with
    | zero =>
      intro v0 v1 v2 M H locs ls hM hS hl hP
      exact hP.elim
    | succ n2 ih2 =>
      intro v0 v1 v2 M H locs ls hM hS hl hP
      have hP : f_X1_comeDown_b2_body K k (f_X1_comeDown_b2 K k n2) v0 v1 v2 M := hP
      unfold f_X1_comeDown_b2_body at hP
      refine lv_aload_n hx hb dX1_comeDown_2 rfl (lv_at hl 0 rfl) ?_
      refine r_callVi (rest := []) (T := TX1) (N := 11) X hM hS (ct_X1_isDown hst v0) hP mV_X1_54 rfl rfl rfl hl.1 (Nat.le_of_ble_eq_true rfl) ⟨⟨by decide, by decide⟩, ⟨by decide, by decide⟩⟩ dX1_comeDown_3 (fun r1 M H locs hM hS hP => ?_)
      refine lv_if_ne (tgt := 27) hx hb dX1_comeDown_6 (by decide) (fun hc => ?_) (fun hc => ?_)
      · have hP := mIf_f hP hc
        exact hb27 v2 _ _ _ _ hM hS (lv_sub hl [2] rfl) hP
      · have hP := mIf_t hP hc
        refine lv_iload_n hx hb dX1_comeDown_9 rfl (lv_at hl 2 rfl) ?_
        refine lv_sipush (v := 1000) hx hb dX1_comeDown_10 (by decide) ?_
        refine lv_icmp_ge (tgt := 27) hx hb dX1_comeDown_13 (by decide) (fun hc => ?_) (fun hc => ?_)
        · have hP := mIf_t hP hc
          exact hb27 v2 _ _ _ _ hM hS (lv_sub hl [2] rfl) hP
        · have hP := mIf_f hP hc
          refine lv_aload_n hx hb dX1_comeDown_16 rfl (lv_at hl 0 rfl) ?_
          refine lv_aload_n hx hb dX1_comeDown_17 rfl (lv_at hl 1 rfl) ?_
          refine r_callVv (rest := []) (T := TX1) (N := 11) X hM hS (ct_X1_goOn hst v0 v1) hP mV_X1_58 rfl rfl rfl hl.1 (Nat.le_of_ble_eq_true rfl) ⟨⟨by decide, by decide⟩, ⟨by decide, by decide⟩⟩ dX1_comeDown_18 (fun M H locs hM hS hP => ?_)
          refine lv_iinc (v := v2 + 1) (lv' := [(2, .int (v2 + 1)), (0, .ref v0), (1, .ref v1)]) hx hb dX1_comeDown_21 hl (k := 2) rfl rfl (by decide) rfl (fun ls hl => ?_)
          refine lv_goto (tgt := 2) hx hb dX1_comeDown_24 (by decide) ?_
          exact ih2 v0 v1 (v2 + 1) _ _ _ _ hM hS (lv_sub hl [1, 2, 0] rfl) hP
  unfold f_X1_comeDown at hP
  refine lv_iconst (v := 0) hx hb dX1_comeDown_0 (by decide) ?_
  refine lv_istore_n (lv' := [(2, .int 0), (0, .ref a0), (1, .ref a1)]) hx hb dX1_comeDown_1 rfl hl (by decide) rfl (fun ls hl => ?_)
  exact hb2 mFuel a0 a1 0 _ _ _ _ hM hS (lv_sub hl [1, 2, 0] rfl) hP
def f_X1_far_b35 (K : Cfg) (k : UInt64 → Mem → Prop) (t0 : UInt64) : Mem → Prop :=
 k t0
def f_X1_far (K : Cfg) (a0 : Nat) (k : UInt64 → Mem → Prop) : Mem → Prop :=
 mGetD a0 2 8 fun x1 =>
 f_X1_sizeOf K x1 (fun r2 =>
 mGetD a0 2 9 fun x3 =>
 f_X1_sizeOf K x3 (fun r4 =>
 mIf ((Op.cmpValue (FP.dcmp r2 r4) .l) < 0)
 (mGetD a0 2 9 fun x5 =>
 f_X1_sizeOf K x5 (fun r6 =>
 f_X1_far_b35 K k r6))
 (mGetD a0 2 8 fun x7 =>
 f_X1_sizeOf K x7 (fun r8 =>
 f_X1_far_b35 K k r8))))
abbrev rm_X1_far : Room := { frames := 1, cells := 0, slots := 0, locals := 21 }
set_option maxHeartbeats 4000000 in
set_option maxRecDepth 100000 in
theorem ct_X1_far {K : Cfg} {l : Launch} (hst : l.stackTraces = false) (a0 : Nat) : mPd K l yX1_far cX1_far 1 (some .double) rm_X1_far [.ref a0] (f_X1_far K a0) := by
  refine mPd.of hst (by decide +kernel) (Nat.le_of_ble_eq_true rfl) ?_
  intro M k Q hk hP p e s m below meth c X hr hlocks hname hM ls hl
  have hx := X.1.1
  have hb := X.1.2.1
  have X : Cx K p l s m ([.ref a0] : List Value).toArray c cX1_far 1 RX1 := X
  have hS : va_S (mFA K) s.heap s.heap [] := va_S.rf
  have hl : lv_has ls 1 [(0, .ref a0)] := hl
  have hb35 : ∀ (t0 : UInt64) (M : Mem) (H : Heap) (locs : List Loc) (ls : Array Slot), mh K M H → va_S (mFA K) s.heap H locs → lv_has ls 1 [] → f_X1_far_b35 K k t0 M → W p l e rm_X1_far s m ([.ref a0] : List Value).toArray below meth c H locs 0 0 (MQ below (mQ K Q) ([.ref a0] : List Value).toArray s rm_X1_far.cells rm_X1_far.slots (mFA K)) (F0 m 35 ls [.double t0]) := by
    intro t0 M H locs ls hM hS hl hP
    unfold f_X1_far_b35 at hP
    exact e_dret X hM hS (hk _ _ hP) hr hlocks (by decide) (by decide) dX1_far_35
  unfold f_X1_far at hP
  refine lv_aload_n hx hb dX1_far_0 rfl (lv_at hl 0 rfl) ?_
  refine r_getd X hM hP fl_X1_38 dX1_far_1 (fun x1 hP => ?_)
  refine r_callSd (rest := []) X hM hS (ct_X1_sizeOf hst x1) hP mS_X1_79 rfl rfl hl.1 (Nat.le_of_ble_eq_true rfl) ⟨⟨by decide, by decide⟩, ⟨by decide, by decide⟩⟩ dX1_far_4 (fun r2 M H locs hM hS hP => ?_)
  refine lv_aload_n hx hb dX1_far_7 rfl (lv_at hl 0 rfl) ?_
  refine r_getd X hM hP fl_X1_41 dX1_far_8 (fun x3 hP => ?_)
  refine r_callSd (rest := [.double r2]) X hM hS (ct_X1_sizeOf hst x3) hP mS_X1_79 rfl rfl hl.1 (Nat.le_of_ble_eq_true rfl) ⟨⟨by decide, by decide⟩, ⟨by decide, by decide⟩⟩ dX1_far_11 (fun r4 M H locs hM hS hP => ?_)
  refine lv_dcmp hx hb dX1_far_14 ?_
  refine lv_if_lt (tgt := 28) hx hb dX1_far_15 (by decide) (fun hc => ?_) (fun hc => ?_)
  · have hP := mIf_t hP hc
    refine lv_aload_n hx hb dX1_far_28 rfl (lv_at hl 0 rfl) ?_
    refine r_getd X hM hP fl_X1_41 dX1_far_29 (fun x5 hP => ?_)
    refine r_callSd (rest := []) X hM hS (ct_X1_sizeOf hst x5) hP mS_X1_79 rfl rfl hl.1 (Nat.le_of_ble_eq_true rfl) ⟨⟨by decide, by decide⟩, ⟨by decide, by decide⟩⟩ dX1_far_32 (fun r6 M H locs hM hS hP => ?_)
    exact hb35 r6 _ _ _ _ hM hS (lv_sub hl [] rfl) hP
  · have hP := mIf_f hP hc
    refine lv_aload_n hx hb dX1_far_18 rfl (lv_at hl 0 rfl) ?_
    refine r_getd X hM hP fl_X1_38 dX1_far_19 (fun x7 hP => ?_)
    refine r_callSd (rest := []) X hM hS (ct_X1_sizeOf hst x7) hP mS_X1_79 rfl rfl hl.1 (Nat.le_of_ble_eq_true rfl) ⟨⟨by decide, by decide⟩, ⟨by decide, by decide⟩⟩ dX1_far_22 (fun r8 M H locs hM hS hP => ?_)
    refine lv_goto (tgt := 35) hx hb dX1_far_25 (by decide) ?_
    exact hb35 r8 _ _ _ _ hM hS (lv_sub hl [] rfl) hP
def f_X1_points_b28 (K : Cfg) (k : Int32 → Mem → Prop) (t0 : Int32) : Mem → Prop :=
 k t0
def f_X1_points (K : Cfg) (a0 : Nat) (k : Int32 → Mem → Prop) : Mem → Prop :=
 mRecv a0 2 <|
 f_X1_far K a0 (fun r1 =>
 mIf (0 < (Op.cmpValue (FP.dcmp r1 4617315517961601024) .g))
 (mIf (0 < (Op.cmpValue (FP.dcmp r1 4626322717216342016) .g))
 (f_X1_points_b28 K k 0)
 (f_X1_points_b28 K k 1))
 (k 3))
abbrev rm_X1_points : Room := { frames := 2, cells := 0, slots := 0, locals := 41 }
set_option maxHeartbeats 4000000 in
set_option maxRecDepth 100000 in
theorem ct_X1_points {K : Cfg} {l : Launch} (hst : l.stackTraces = false) (a0 : Nat) : mPi K l yX1_points cX1_points 3 (some .int) rm_X1_points [.ref a0] (f_X1_points K a0) := by
  refine mPi.of hst (by decide +kernel) (Nat.le_of_ble_eq_true rfl) ?_
  intro M k Q hk hP p e s m below meth c X hr hlocks hname hM ls hl
  have hx := X.1.1
  have hb := X.1.2.1
  have X : Cx K p l s m ([.ref a0] : List Value).toArray c cX1_points 3 RX1 := X
  have hS : va_S (mFA K) s.heap s.heap [] := va_S.rf
  have hl : lv_has ls 3 [(0, .ref a0)] := hl
  have hb28 : ∀ (t0 : Int32) (M : Mem) (H : Heap) (locs : List Loc) (ls : Array Slot), mh K M H → va_S (mFA K) s.heap H locs → lv_has ls 3 [] → f_X1_points_b28 K k t0 M → W p l e rm_X1_points s m ([.ref a0] : List Value).toArray below meth c H locs 0 0 (MQ below (mQ K Q) ([.ref a0] : List Value).toArray s rm_X1_points.cells rm_X1_points.slots (mFA K)) (F0 m 28 ls [.int t0]) := by
    intro t0 M H locs ls hM hS hl hP
    unfold f_X1_points_b28 at hP
    exact e_iret X hM hS (hk _ _ hP) hr hlocks (by decide) (by decide) dX1_points_28
  unfold f_X1_points at hP
  refine lv_aload_n hx hb dX1_points_0 rfl (lv_at hl 0 rfl) ?_
  refine r_callVd (rest := []) (T := TX1) (N := 11) X hM hS (ct_X1_far hst a0) hP mV_X1_87 rfl rfl rfl hl.1 (Nat.le_of_ble_eq_true rfl) ⟨⟨by decide, by decide⟩, ⟨by decide, by decide⟩⟩ dX1_points_1 (fun r1 M H locs hM hS hP => ?_)
  refine lv_dstore_n (lv' := [(1, .double r1), (0, .ref a0)]) hx hb dX1_points_4 rfl hl (by decide) rfl (fun ls hl => ?_)
  refine lv_dload_n hx hb dX1_points_5 rfl (lv_at hl 0 rfl) ?_
  refine r_ldcd (v := 4617315517961601024) X kc_X1_91 dX1_points_6 ?_
  refine lv_dcmp hx hb dX1_points_9 ?_
  refine lv_if_gt (tgt := 15) hx hb dX1_points_10 (by decide) (fun hc => ?_) (fun hc => ?_)
  · have hP := mIf_t hP hc
    refine lv_dload_n hx hb dX1_points_15 rfl (lv_at hl 0 rfl) ?_
    refine r_ldcd (v := 4626322717216342016) X kc_X1_93 dX1_points_16 ?_
    refine lv_dcmp hx hb dX1_points_19 ?_
    refine lv_if_gt (tgt := 27) hx hb dX1_points_20 (by decide) (fun hc => ?_) (fun hc => ?_)
    · have hP := mIf_t hP hc
      refine lv_iconst (v := 0) hx hb dX1_points_27 (by decide) ?_
      exact hb28 0 _ _ _ _ hM hS (lv_sub hl [] rfl) hP
    · have hP := mIf_f hP hc
      refine lv_iconst (v := 1) hx hb dX1_points_23 (by decide) ?_
      refine lv_goto (tgt := 28) hx hb dX1_points_24 (by decide) ?_
      exact hb28 1 _ _ _ _ hM hS (lv_sub hl [] rfl) hP
  · have hP := mIf_f hP hc
    refine lv_iconst (v := 3) hx hb dX1_points_13 (by decide) ?_
    exact e_iret X hM hS (hk _ _ hP) hr hlocks (by decide) (by decide) dX1_points_14
def f_X2_init (K : Cfg) (a0 : Nat) (k : Mem → Prop) : Mem → Prop :=
 mPut a0 3 0 (.int 0) <|
 mPut a0 3 1 (.int 0) <|
 mPut a0 3 2 (.int (-1)) <|
 mPut a0 3 3 (.int 0) <|
 mPut a0 3 4 (.int 0) <|
 mPut a0 3 5 (.int 0) <|
 mPut a0 3 6 (.int 0) <|
 mPut a0 3 7 (.int 0) <|
 mPut a0 3 8 (.double FP.dconst0) <|
 mPut a0 3 9 (.double FP.dconst0) <|
 mPut a0 3 10 (.int 0) <|
 mPut a0 3 11 (.int 6) <|
 k
abbrev rm_X2_init : Room := { frames := 1, cells := 0, slots := 0, locals := 12 }
set_option maxHeartbeats 4000000 in
set_option maxRecDepth 100000 in
theorem ct_X2_init {K : Cfg} {l : Launch} (hst : l.stackTraces = false) (a0 : Nat) : mPv K l yX2_init cX2_init 1 none rm_X2_init [.ref a0] (f_X2_init K a0) := by
  refine mPv.of hst (by decide +kernel) (Nat.le_of_ble_eq_true rfl) ?_
  intro M k Q hk hP p e s m below meth c X hr hlocks hname hM ls hl
  have hx := X.1.1
  have hb := X.1.2.1
  have X : Cx K p l s m ([.ref a0] : List Value).toArray c cX2_init 1 RX2 := X
  have hS : va_S (mFA K) s.heap s.heap [] := va_S.rf
  have hl : lv_has ls 1 [(0, .ref a0)] := hl
  unfold f_X2_init at hP
  refine lv_aload_n hx hb dX2_init_0 rfl (lv_at hl 0 rfl) ?_
  refine r_objInit X ol_X2_3 mLA_oi mLA_oc hl.1 (by decide) (by decide) dX2_init_1 ?_
  refine lv_aload_n hx hb dX2_init_4 rfl (lv_at hl 0 rfl) ?_
  refine lv_iconst (v := 0) hx hb dX2_init_5 (by decide) ?_
  refine r_put X hM hS hP fl_X2_9 ft_X2 rfl (tyX2_ok 0 (Nat.le_of_ble_eq_true rfl)) rfl rfl dX2_init_6 (fun M H locs hM hS hP => ?_)
  refine lv_aload_n hx hb dX2_init_9 rfl (lv_at hl 0 rfl) ?_
  refine lv_iconst (v := 0) hx hb dX2_init_10 (by decide) ?_
  refine r_put X hM hS hP fl_X2_15 ft_X2 rfl (tyX2_ok 1 (Nat.le_of_ble_eq_true rfl)) rfl rfl dX2_init_11 (fun M H locs hM hS hP => ?_)
  refine lv_aload_n hx hb dX2_init_14 rfl (lv_at hl 0 rfl) ?_
  refine lv_iconst (v := (-1)) hx hb dX2_init_15 (by decide) ?_
  refine r_put X hM hS hP fl_X2_18 ft_X2 rfl (tyX2_ok 2 (Nat.le_of_ble_eq_true rfl)) rfl rfl dX2_init_16 (fun M H locs hM hS hP => ?_)
  refine lv_aload_n hx hb dX2_init_19 rfl (lv_at hl 0 rfl) ?_
  refine lv_iconst (v := 0) hx hb dX2_init_20 (by decide) ?_
  refine r_put X hM hS hP fl_X2_21 ft_X2 rfl (tyX2_ok 3 (Nat.le_of_ble_eq_true rfl)) rfl rfl dX2_init_21 (fun M H locs hM hS hP => ?_)
  refine lv_aload_n hx hb dX2_init_24 rfl (lv_at hl 0 rfl) ?_
  refine lv_iconst (v := 0) hx hb dX2_init_25 (by decide) ?_
  refine r_put X hM hS hP fl_X2_24 ft_X2 rfl (tyX2_ok 4 (Nat.le_of_ble_eq_true rfl)) rfl rfl dX2_init_26 (fun M H locs hM hS hP => ?_)
  refine lv_aload_n hx hb dX2_init_29 rfl (lv_at hl 0 rfl) ?_
  refine lv_iconst (v := 0) hx hb dX2_init_30 (by decide) ?_
  refine r_put X hM hS hP fl_X2_27 ft_X2 rfl (tyX2_ok 5 (Nat.le_of_ble_eq_true rfl)) rfl rfl dX2_init_31 (fun M H locs hM hS hP => ?_)
  refine lv_aload_n hx hb dX2_init_34 rfl (lv_at hl 0 rfl) ?_
  refine lv_iconst (v := 0) hx hb dX2_init_35 (by decide) ?_
  refine r_put X hM hS hP fl_X2_30 ft_X2 rfl (tyX2_ok 6 (Nat.le_of_ble_eq_true rfl)) rfl rfl dX2_init_36 (fun M H locs hM hS hP => ?_)
  refine lv_aload_n hx hb dX2_init_39 rfl (lv_at hl 0 rfl) ?_
  refine lv_iconst (v := 0) hx hb dX2_init_40 (by decide) ?_
  refine r_put X hM hS hP fl_X2_33 ft_X2 rfl (tyX2_ok 7 (Nat.le_of_ble_eq_true rfl)) rfl rfl dX2_init_41 (fun M H locs hM hS hP => ?_)
  refine lv_aload_n hx hb dX2_init_44 rfl (lv_at hl 0 rfl) ?_
  refine lv_dconst0 hx hb dX2_init_45 ?_
  refine r_put X hM hS hP fl_X2_36 ft_X2 rfl (tyX2_ok 8 (Nat.le_of_ble_eq_true rfl)) rfl rfl dX2_init_46 (fun M H locs hM hS hP => ?_)
  refine lv_aload_n hx hb dX2_init_49 rfl (lv_at hl 0 rfl) ?_
  refine lv_dconst0 hx hb dX2_init_50 ?_
  refine r_put X hM hS hP fl_X2_40 ft_X2 rfl (tyX2_ok 9 (Nat.le_of_ble_eq_true rfl)) rfl rfl dX2_init_51 (fun M H locs hM hS hP => ?_)
  refine lv_aload_n hx hb dX2_init_54 rfl (lv_at hl 0 rfl) ?_
  refine lv_iconst (v := 0) hx hb dX2_init_55 (by decide) ?_
  refine r_put X hM hS hP fl_X2_43 ft_X2 rfl (tyX2_ok 10 (Nat.le_of_ble_eq_true rfl)) rfl rfl dX2_init_56 (fun M H locs hM hS hP => ?_)
  refine lv_aload_n hx hb dX2_init_59 rfl (lv_at hl 0 rfl) ?_
  refine lv_bipush (v := 6) hx hb dX2_init_60 (by decide) ?_
  refine r_put X hM hS hP fl_X2_46 ft_X2 rfl (tyX2_ok 11 (Nat.le_of_ble_eq_true rfl)) rfl rfl dX2_init_62 (fun M H locs hM hS hP => ?_)
  exact e_vret X hM hS (hk _ hP) hr hlocks (by decide) (by decide) dX2_init_65
def f_X3_init (K : Cfg) (a0 : Nat) (k : Mem → Prop) : Mem → Prop :=
 mPut a0 4 0 (.int 0) <|
 mPut a0 4 1 (.int 0) <|
 mPut a0 4 2 (.int 0) <|
 mPutZ a0 4 3 0 <|
 mPut a0 4 4 (.float FP.fconst0) <|
 k
abbrev rm_X3_init : Room := { frames := 1, cells := 0, slots := 0, locals := 12 }
set_option maxHeartbeats 4000000 in
set_option maxRecDepth 100000 in
theorem ct_X3_init {K : Cfg} {l : Launch} (hst : l.stackTraces = false) (a0 : Nat) : mPv K l yX3_init cX3_init 1 none rm_X3_init [.ref a0] (f_X3_init K a0) := by
  refine mPv.of hst (by decide +kernel) (Nat.le_of_ble_eq_true rfl) ?_
  intro M k Q hk hP p e s m below meth c X hr hlocks hname hM ls hl
  have hx := X.1.1
  have hb := X.1.2.1
  have X : Cx K p l s m ([.ref a0] : List Value).toArray c cX3_init 1 RX3 := X
  have hS : va_S (mFA K) s.heap s.heap [] := va_S.rf
  have hl : lv_has ls 1 [(0, .ref a0)] := hl
  unfold f_X3_init at hP
  refine lv_aload_n hx hb dX3_init_0 rfl (lv_at hl 0 rfl) ?_
  refine r_objInit X ol_X3_1 mLA_oi mLA_oc hl.1 (by decide) (by decide) dX3_init_1 ?_
  refine lv_aload_n hx hb dX3_init_4 rfl (lv_at hl 0 rfl) ?_
  refine lv_iconst (v := 0) hx hb dX3_init_5 (by decide) ?_
  refine r_put X hM hS hP fl_X3_7 ft_X3 rfl (tyX3_ok 0 (Nat.le_of_ble_eq_true rfl)) rfl rfl dX3_init_6 (fun M H locs hM hS hP => ?_)
  refine lv_aload_n hx hb dX3_init_9 rfl (lv_at hl 0 rfl) ?_
  refine lv_iconst (v := 0) hx hb dX3_init_10 (by decide) ?_
  refine r_put X hM hS hP fl_X3_13 ft_X3 rfl (tyX3_ok 1 (Nat.le_of_ble_eq_true rfl)) rfl rfl dX3_init_11 (fun M H locs hM hS hP => ?_)
  refine lv_aload_n hx hb dX3_init_14 rfl (lv_at hl 0 rfl) ?_
  refine lv_iconst (v := 0) hx hb dX3_init_15 (by decide) ?_
  refine r_put X hM hS hP fl_X3_16 ft_X3 rfl (tyX3_ok 2 (Nat.le_of_ble_eq_true rfl)) rfl rfl dX3_init_16 (fun M H locs hM hS hP => ?_)
  refine lv_aload_n hx hb dX3_init_19 rfl (lv_at hl 0 rfl) ?_
  refine lv_iconst (v := 0) hx hb dX3_init_20 (by decide) ?_
  refine r_putz X hM hS hP fl_X3_19 ft_X3 rfl (tyX3_ok 3 (Nat.le_of_ble_eq_true rfl)) dX3_init_21 (fun M H locs hM hS hP => ?_)
  refine lv_aload_n hx hb dX3_init_24 rfl (lv_at hl 0 rfl) ?_
  refine lv_fconst0 hx hb dX3_init_25 ?_
  refine r_put X hM hS hP fl_X3_23 ft_X3 rfl (tyX3_ok 4 (Nat.le_of_ble_eq_true rfl)) rfl rfl dX3_init_26 (fun M H locs hM hS hP => ?_)
  exact e_vret X hM hS (hk _ hP) hr hlocks (by decide) (by decide) dX3_init_29
def f_X4_init (K : Cfg) (a0 : Nat) (k : Mem → Prop) : Mem → Prop :=
 mNewA K 0 (10, .inl (fun _ => 0)) fun x1 =>
 mPut a0 5 0 (.ref x1) <|
 mNewA K 0 (10, .inl (fun _ => 0)) fun x2 =>
 mPut a0 5 1 (.ref x2) <|
 k
abbrev rm_X4_init : Room := { frames := 1, cells := 2, slots := 20, locals := 12 }
set_option maxHeartbeats 4000000 in
set_option maxRecDepth 100000 in
theorem ct_X4_init {K : Cfg} {l : Launch} (hst : l.stackTraces = false) (a0 : Nat) : mPv K l yX4_init cX4_init 1 none rm_X4_init [.ref a0] (f_X4_init K a0) := by
  refine mPv.of hst (by decide +kernel) (Nat.le_of_ble_eq_true rfl) ?_
  intro M k Q hk hP p e s m below meth c X hr hlocks hname hM ls hl
  have hx := X.1.1
  have hb := X.1.2.1
  have X : Cx K p l s m ([.ref a0] : List Value).toArray c cX4_init 1 RX4 := X
  have hS : va_S (mFA K) s.heap s.heap [] := va_S.rf
  have hl : lv_has ls 1 [(0, .ref a0)] := hl
  unfold f_X4_init at hP
  refine lv_aload_n hx hb dX4_init_0 rfl (lv_at hl 0 rfl) ?_
  refine r_objInit X ol_X4_3 mLA_oi mLA_oc hl.1 (by decide) (by decide) dX4_init_1 ?_
  refine lv_aload_n hx hb dX4_init_4 rfl (lv_at hl 0 rfl) ?_
  refine lv_bipush (v := 10) hx hb dX4_init_5 (by decide) ?_
  refine r_newa (t := 0) (atype := .int) (fun _ => rfl) (fun _ _ h => h) X hM hS ac_int hP (fun _ => rfl) (by decide) (by decide) (by decide) ⟨by decide, by decide⟩ dX4_init_7 (fun x1 M H hM hS hP => ?_)
  refine r_putF X hM hS hP fl_X4_9 ft_X4 rfl hname rfl (tyX4_ok 0 (Nat.le_of_ble_eq_true rfl)) rfl rfl dX4_init_9 (fun M H locs hM hS hP => ?_)
  refine lv_aload_n hx hb dX4_init_12 rfl (lv_at hl 0 rfl) ?_
  refine lv_bipush (v := 10) hx hb dX4_init_13 (by decide) ?_
  refine r_newa (t := 0) (atype := .int) (fun _ => rfl) (fun _ _ h => h) X hM hS ac_int hP (fun _ => rfl) (by decide) (by decide) (by decide) ⟨by decide, by decide⟩ dX4_init_15 (fun x2 M H hM hS hP => ?_)
  refine r_putF X hM hS hP fl_X4_15 ft_X4 rfl hname rfl (tyX4_ok 1 (Nat.le_of_ble_eq_true rfl)) rfl rfl dX4_init_17 (fun M H locs hM hS hP => ?_)
  exact e_vret X hM hS (hk _ hP) hr hlocks (by decide) (by decide) dX4_init_20
def f_X4_tell_b24 (K : Cfg) (k : Mem → Prop) : Mem → Prop :=
 k
def f_X4_tell (K : Cfg) (a0 : Nat) (a1 : Int32) (a2 : Int32) (a3 : Int32) (k : Mem → Prop) : Mem → Prop :=
 mIf (a1 < 0)
 (f_X4_tell_b24 K k)
 (mIf (10 ≤ a1)
 (f_X4_tell_b24 K k)
 (mGetR a0 5 0 fun x1 =>
 mStI K x1 a1 a2 <|
 mGetR a0 5 1 fun x2 =>
 mStI K x2 a1 a3 <|
 f_X4_tell_b24 K k))
abbrev rm_X4_tell : Room := { frames := 0, cells := 0, slots := 0, locals := 0 }
set_option maxHeartbeats 4000000 in
set_option maxRecDepth 100000 in
theorem ct_X4_tell {K : Cfg} {l : Launch} (hst : l.stackTraces = false) (a0 : Nat) (a1 : Int32) (a2 : Int32) (a3 : Int32) : mPv K l yX4_tell cX4_tell 4 none rm_X4_tell [.ref a0, .int a1, .int a2, .int a3] (f_X4_tell K a0 a1 a2 a3) := by
  refine mPv.of hst (by decide +kernel) (Nat.le_of_ble_eq_true rfl) ?_
  intro M k Q hk hP p e s m below meth c X hr hlocks hname hM ls hl
  have hx := X.1.1
  have hb := X.1.2.1
  have X : Cx K p l s m ([.ref a0, .int a1, .int a2, .int a3] : List Value).toArray c cX4_tell 4 RX4 := X
  have hS : va_S (mFA K) s.heap s.heap [] := va_S.rf
  have hl : lv_has ls 4 [(0, .ref a0), (1, .int a1), (2, .int a2), (3, .int a3)] := hl
  have hb24 : ∀ (M : Mem) (H : Heap) (locs : List Loc) (ls : Array Slot), mh K M H → va_S (mFA K) s.heap H locs → lv_has ls 4 [] → f_X4_tell_b24 K k M → W p l e rm_X4_tell s m ([.ref a0, .int a1, .int a2, .int a3] : List Value).toArray below meth c H locs 0 0 (MQ below (mQ K Q) ([.ref a0, .int a1, .int a2, .int a3] : List Value).toArray s rm_X4_tell.cells rm_X4_tell.slots (mFA K)) (F0 m 24 ls []) := by
    intro M H locs ls hM hS hl hP
    unfold f_X4_tell_b24 at hP
    exact e_vret X hM hS (hk _ hP) hr hlocks (by decide) (by decide) dX4_tell_24
  unfold f_X4_tell at hP
  refine lv_iload_n hx hb dX4_tell_0 rfl (lv_at hl 1 rfl) ?_
  refine lv_if_lt (tgt := 24) hx hb dX4_tell_1 (by decide) (fun hc => ?_) (fun hc => ?_)
  · have hP := mIf_t hP hc
    exact hb24 _ _ _ _ hM hS (lv_sub hl [] rfl) hP
  · have hP := mIf_f hP hc
    refine lv_iload_n hx hb dX4_tell_4 rfl (lv_at hl 1 rfl) ?_
    refine lv_bipush (v := 10) hx hb dX4_tell_5 (by decide) ?_
    refine lv_icmp_ge (tgt := 24) hx hb dX4_tell_7 (by decide) (fun hc => ?_) (fun hc => ?_)
    · have hP := mIf_t hP hc
      exact hb24 _ _ _ _ hM hS (lv_sub hl [] rfl) hP
    · have hP := mIf_f hP hc
      refine lv_aload_n hx hb dX4_tell_10 rfl (lv_at hl 0 rfl) ?_
      refine r_getr X hM hP fl_X4_9 dX4_tell_11 (fun x1 hP => ?_)
      refine lv_iload_n hx hb dX4_tell_14 rfl (lv_at hl 1 rfl) ?_
      refine lv_iload_n hx hb dX4_tell_15 rfl (lv_at hl 2 rfl) ?_
      refine r_sti X hM hS hP dX4_tell_16 (fun M H locs hM hS hP => ?_)
      refine lv_aload_n hx hb dX4_tell_17 rfl (lv_at hl 0 rfl) ?_
      refine r_getr X hM hP fl_X4_15 dX4_tell_18 (fun x2 hP => ?_)
      refine lv_iload_n hx hb dX4_tell_21 rfl (lv_at hl 1 rfl) ?_
      refine lv_iload_n hx hb dX4_tell_22 rfl (lv_at hl 3 rfl) ?_
      refine r_sti X hM hS hP dX4_tell_23 (fun M H locs hM hS hP => ?_)
      exact hb24 _ _ _ _ hM hS (lv_sub hl [] rfl) hP
def f_X4_ground (K : Cfg) (a0 : Nat) (k : Int32 → Mem → Prop) : Mem → Prop :=
 mGetR a0 5 0 fun x1 =>
 mLdI K x1 0 fun x2 =>
 f_J9_abs_0f7a4 K x2 (fun r3 =>
 mGetR a0 5 1 fun x4 =>
 mLdI K x4 0 fun x5 =>
 f_J9_abs_0f7a4 K x5 (fun r6 =>
 k (r3 + r6)))
abbrev rm_X4_ground : Room := { frames := 1, cells := 0, slots := 0, locals := 20 }
set_option maxHeartbeats 4000000 in
set_option maxRecDepth 100000 in
theorem ct_X4_ground {K : Cfg} {l : Launch} (hst : l.stackTraces = false) (a0 : Nat) : mPi K l yX4_ground cX4_ground 1 (some .int) rm_X4_ground [.ref a0] (f_X4_ground K a0) := by
  refine mPi.of hst (by decide +kernel) (Nat.le_of_ble_eq_true rfl) ?_
  intro M k Q hk hP p e s m below meth c X hr hlocks hname hM ls hl
  have hx := X.1.1
  have hb := X.1.2.1
  have X : Cx K p l s m ([.ref a0] : List Value).toArray c cX4_ground 1 RX4 := X
  have hS : va_S (mFA K) s.heap s.heap [] := va_S.rf
  have hl : lv_has ls 1 [(0, .ref a0)] := hl
  unfold f_X4_ground at hP
  refine lv_aload_n hx hb dX4_ground_0 rfl (lv_at hl 0 rfl) ?_
  refine r_getr X hM hP fl_X4_9 dX4_ground_1 (fun x1 hP => ?_)
  refine lv_iconst (v := 0) hx hb dX4_ground_4 (by decide) ?_
  refine r_ldi X hM hP dX4_ground_5 (fun x2 hP => ?_)
  refine r_callSi (rest := []) X hM hS (ct_J9_abs_0f7a4 hst x2) hP mS_X4_18 rfl rfl hl.1 (Nat.le_of_ble_eq_true rfl) ⟨⟨by decide, by decide⟩, ⟨by decide, by decide⟩⟩ dX4_ground_6 (fun r3 M H locs hM hS hP => ?_)
  refine lv_aload_n hx hb dX4_ground_9 rfl (lv_at hl 0 rfl) ?_
  refine r_getr X hM hP fl_X4_15 dX4_ground_10 (fun x4 hP => ?_)
  refine lv_iconst (v := 0) hx hb dX4_ground_13 (by decide) ?_
  refine r_ldi X hM hP dX4_ground_14 (fun x5 hP => ?_)
  refine r_callSi (rest := [.int r3]) X hM hS (ct_J9_abs_0f7a4 hst x5) hP mS_X4_18 rfl rfl hl.1 (Nat.le_of_ble_eq_true rfl) ⟨⟨by decide, by decide⟩, ⟨by decide, by decide⟩⟩ dX4_ground_15 (fun r6 M H locs hM hS hP => ?_)
  refine lv_iadd hx hb dX4_ground_18 ?_
  exact e_iret X hM hS (hk _ _ hP) hr hlocks (by decide) (by decide) dX4_ground_19
