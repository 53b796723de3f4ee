/-! ===== shadows and walks, laid by program ===== -/
def f_X5_init_b152_body (K : Cfg) (k : Mem → Prop) (lp152 : Nat → Nat → Nat → Int32 → Mem → Prop) (u w : Nat) (v0 : Nat) (v1 : Int32) : Mem → Prop :=
 mIf (8 ≤ v1)
 (mAs (u ≤ 31 ∧ w ≤ 265) <|
 k)
 (mGetR v0 6 2 fun x1 =>
 mAs (u + 1 ≤ 31 ∧ w + 5 ≤ 265) <|
 mNew K 4 [.int 0, .int 0, .int 0, .int 0, .float 0] fun x2 =>
 mAs (u + 1 ≤ 31 ∧ w + 5 ≤ 265) <|
 f_X3_init K x2 (
 mStQ K 5 4 x1 v1 x2 <|
 lp152 (u + 1) (w + 5) v0 (v1 + 1)))
def f_X5_init_b152 (K : Cfg) (k : Mem → Prop) : Nat → Nat → Nat → Nat → Int32 → Mem → Prop
  | 0 => fun _ _ _ _ _ => False
  | n + 1 => f_X5_init_b152_body K k (f_X5_init_b152 K k n)
def f_X5_init_b125_body (K : Cfg) (k : Mem → Prop) (lp125 : Nat → Nat → Nat → Int32 → Mem → Prop) (u w : Nat) (v0 : Nat) (v1 : Int32) : Mem → Prop :=
 mIf (8 ≤ v1)
 (f_X5_init_b152 K k mFuel u w v0 0)
 (mGetR v0 6 0 fun x1 =>
 mAs (u + 1 ≤ 31 ∧ w + 12 ≤ 265) <|
 mNew K 3 [.int 0, .int 0, .int 0, .int 0, .int 0, .int 0, .int 0, .int 0, .double 0, .double 0, .int 0, .int 0] fun x2 =>
 mAs (u + 1 ≤ 31 ∧ w + 12 ≤ 265) <|
 f_X2_init K x2 (
 mStQ K 4 3 x1 v1 x2 <|
 lp125 (u + 1) (w + 12) v0 (v1 + 1)))
def f_X5_init_b125 (K : Cfg) (k : Mem → Prop) : Nat → Nat → Nat → Nat → Int32 → Mem → Prop
  | 0 => fun _ _ _ _ _ => False
  | n + 1 => f_X5_init_b125_body K k (f_X5_init_b125 K k n)
def f_X5_init (K : Cfg) (a0 : Nat) (k : Mem → Prop) : Mem → Prop :=
 mAs (0 + 1 ≤ 31 ∧ 0 + 8 ≤ 265) <|
 mNewA K 4 (8, .inr (.inr (.inr (.inr (fun _ => none))))) fun x1 =>
 mPut a0 6 0 (.ref x1) <|
 mPut a0 6 1 (.int 0) <|
 mAs (0 + 1 + 1 ≤ 31 ∧ 0 + 8 + 8 ≤ 265) <|
 mNewA K 5 (8, .inr (.inr (.inr (.inr (fun _ => none))))) fun x2 =>
 mPut a0 6 2 (.ref x2) <|
 mPut a0 6 3 (.int 0) <|
 mAs (0 + 1 + 1 + 1 ≤ 31 ∧ 0 + 8 + 8 + 2 ≤ 265) <|
 mNew K 5 [.null, .null] fun x3 =>
 mAs (0 + 1 + 1 + 1 + 2 ≤ 31 ∧ 0 + 8 + 8 + 2 + 20 ≤ 265) <|
 f_X4_init K x3 (
 mPut a0 6 4 (.ref x3) <|
 mAs (0 + 1 + 1 + 1 + 2 + 1 ≤ 31 ∧ 0 + 8 + 8 + 2 + 20 + 6 ≤ 265) <|
 mNewA K 0 (6, .inl (fun _ => 0)) fun x5 =>
 mPut a0 6 5 (.ref x5) <|
 mPut a0 6 6 (.int 0) <|
 mPutZ a0 6 7 0 <|
 mAs (0 + 1 + 1 + 1 + 2 + 1 + 1 ≤ 31 ∧ 0 + 8 + 8 + 2 + 20 + 6 + 2 ≤ 265) <|
 mNew K 1 [.null, .int 0] fun x6 =>
 mAs (0 + 1 + 1 + 1 + 2 + 1 + 1 + 7 ≤ 31 ∧ 0 + 8 + 8 + 2 + 20 + 6 + 2 + 72 ≤ 265) <|
 f_X0_init K x6 (
 mPut a0 6 8 (.ref x6) <|
 mAs (0 + 1 + 1 + 1 + 2 + 1 + 1 + 7 + 1 ≤ 31 ∧ 0 + 8 + 8 + 2 + 20 + 6 + 2 + 72 + 11 ≤ 265) <|
 mNew K 2 [.int 0, .int 0, .int 0, .double 0, .int 0, .int 0, .int 0, .int 0, .double 0, .double 0, .int 0] fun x8 =>
 mAs (0 + 1 + 1 + 1 + 2 + 1 + 1 + 7 + 1 ≤ 31 ∧ 0 + 8 + 8 + 2 + 20 + 6 + 2 + 72 + 11 ≤ 265) <|
 f_X1_init K x8 (
 mPut a0 6 9 (.ref x8) <|
 mPut a0 6 10 (.int 0) <|
 mPut a0 6 11 (.int 3) <|
 mPut a0 6 12 (.int 0) <|
 mPut a0 6 13 (.int 0) <|
 mPut a0 6 14 (.int 0) <|
 mPut a0 6 15 (.int 0) <|
 mPut a0 6 16 (.int 0) <|
 mPut a0 6 17 (.int 0) <|
 f_X5_init_b125 K k mFuel (0 + 1 + 1 + 1 + 2 + 1 + 1 + 7 + 1) (0 + 8 + 8 + 2 + 20 + 6 + 2 + 72 + 11) a0 0)))
abbrev rm_X5_init : Room := { frames := 3, cells := 31, slots := 265, locals := 53 }
set_option maxHeartbeats 4000000 in
set_option maxRecDepth 100000 in
theorem ct_X5_init {K : Cfg} {l : Launch} (hst : l.stackTraces = false) (a0 : Nat) : mPv K l yX5_init cX5_init 2 none rm_X5_init [.ref a0] (f_X5_init K a0) := by
  refine mPv.of hst (by decide +kernel) (Nat.le_of_ble_eq_true rfl) ?_
  intro M k Q hk hP p e s m below meth c X hr hlocks hname hM ls hl
  have hx := X.1.1
  have hb := X.1.2.1
  have X : Cx K p l s m ([.ref a0] : List Value).toArray c cX5_init 2 RX5 := X
  have hS : va_S (mFA K) s.heap s.heap [] := va_S.rf
  have hl : lv_has ls 2 [(0, .ref a0)] := hl
  have hb152 : ∀ (n152 : Nat) (u w : Nat) (v0 : Nat) (v1 : Int32) (M : Mem) (H : Heap) (locs : List Loc) (ls : Array Slot), mh K M H → va_S (mFA K) s.heap H locs → lv_has ls 2 [(0, .ref v0), (1, .int v1)] → f_X5_init_b152 K k n152 u w v0 v1 M → W p l e rm_X5_init s m ([.ref a0] : List Value).toArray below meth c H locs u w (MQ below (mQ K Q) ([.ref a0] : List Value).toArray s rm_X5_init.cells rm_X5_init.slots (mFA K)) (F0 m 152 ls []) := by
    intro n152
    induction n152 with
    | zero =>
      intro u w v0 v1 M H locs ls hM hS hl hP
      exact hP.elim
    | succ n152 ih152 =>
      intro u w v0 v1 M H locs ls hM hS hl hP
      have hP : f_X5_init_b152_body K k (f_X5_init_b152 K k n152) u w v0 v1 M := hP
      unfold f_X5_init_b152_body at hP
      refine lv_iload_n hx hb dX5_init_152 rfl (lv_at hl 1 rfl) ?_
      refine lv_bipush (v := 8) hx hb dX5_init_153 (by decide) ?_
      refine lv_icmp_ge (tgt := 177) hx hb dX5_init_155 (by decide) (fun hc => ?_) (fun hc => ?_)
      · have hP := mIf_t hP hc
        obtain ⟨⟨h97, h98⟩, hP⟩ := hP
        exact e_vret X hM hS (hk _ hP) hr hlocks h97 h98 dX5_init_177
      · have hP := mIf_f hP hc
        refine lv_aload_n hx hb dX5_init_158 rfl (lv_at hl 0 rfl) ?_
        refine r_getr X hM hP fl_X5_21 dX5_init_159 (fun x1 hP => ?_)
        refine lv_iload_n hx hb dX5_init_162 rfl (lv_at hl 1 rfl) ?_
        obtain ⟨hcs, hP⟩ := hP
        refine r_new X hM hS hP nl_X5_19 ft_X3 df_X3 hcs dX5_init_163 (fun x2 M H hM hS hP => ?_)
        refine lv_dup hx hb dX5_init_166 rfl ?_
        obtain ⟨hcs, hP⟩ := hP
        refine r_callINv (n := 0) (rest := [.ref x2, .int v1, .ref x1]) (host := "ChuteLoft") X hM hS (ct_X3_init hst x2) hP (List.mem_of_getElem? (i := 4) rfl) cw_X3_init iw_ChuteLoft_Rig (by decide +kernel) rfl in9_X3_init rfl rfl hl.1 (Nat.le_of_ble_eq_true rfl) ⟨⟨by decide, by decide⟩, hcs⟩ dX5_init_167 (fun M H locs hM hS hP => ?_)
        refine r_stq (C := RX3) (T := TX3) (N := 5) (fun _ => rfl) rfl X hM hS hP dX5_init_170 (fun M H locs hM hS hP => ?_)
        refine lv_iinc (v := v1 + 1) (lv' := [(1, .int (v1 + 1)), (0, .ref v0)]) hx hb dX5_init_171 hl (k := 1) rfl rfl (by decide) rfl (fun ls hl => ?_)
        refine lv_goto (tgt := 152) hx hb dX5_init_174 (by decide) ?_
        exact ih152 (u + 1) (w + 5) v0 (v1 + 1) _ _ _ _ hM hS (lv_sub hl [1, 0] rfl) hP
  have hb125 : ∀ (n125 : Nat) (u w : Nat) (v0 : Nat) (v1 : Int32) (M : Mem) (H : Heap) (locs : List Loc) (ls : Array Slot), mh K M H → va_S (mFA K) s.heap H locs → lv_has ls 2 [(0, .ref v0), (1, .int v1)] → f_X5_init_b125 K k n125 u w v0 v1 M → W p l e rm_X5_init s m ([.ref a0] : List Value).toArray below meth c H locs u w (MQ below (mQ K Q) ([.ref a0] : List Value).toArray s rm_X5_init.cells rm_X5_init.slots (mFA K)) (F0 m 125 ls []) := by
    intro n125
    induction n125 with
    | zero =>
      intro u w v0 v1 M H locs ls hM hS hl hP
      exact hP.elim
    | succ n125 ih125 =>
      intro u w v0 v1 M H locs ls hM hS hl hP
      have hP : f_X5_init_b125_body K k (f_X5_init_b125 K k n125) u w v0 v1 M := hP
      unfold f_X5_init_b125_body at hP
      refine lv_iload_n hx hb dX5_init_125 rfl (lv_at hl 1 rfl) ?_
      refine lv_bipush (v := 8) hx hb dX5_init_126 (by decide) ?_
      refine lv_icmp_ge (tgt := 150) hx hb dX5_init_128 (by decide) (fun hc => ?_) (fun hc => ?_)
      · have hP := mIf_t hP hc
        refine lv_iconst (v := 0) hx hb dX5_init_150 (by decide) ?_
        refine lv_istore_n (lv' := [(1, .int 0), (0, .ref v0)]) hx hb dX5_init_151 rfl hl (by decide) rfl (fun ls hl => ?_)
        exact hb152 mFuel u w v0 0 _ _ _ _ hM hS (lv_sub hl [1, 0] rfl) hP
      · have hP := mIf_f hP hc
        refine lv_aload_n hx hb dX5_init_131 rfl (lv_at hl 0 rfl) ?_
        refine r_getr X hM hP fl_X5_11 dX5_init_132 (fun x1 hP => ?_)
        refine lv_iload_n hx hb dX5_init_135 rfl (lv_at hl 1 rfl) ?_
        obtain ⟨hcs, hP⟩ := hP
        refine r_new X hM hS hP nl_X5_9 ft_X2 df_X2 hcs dX5_init_136 (fun x2 M H hM hS hP => ?_)
        refine lv_dup hx hb dX5_init_139 rfl ?_
        obtain ⟨hcs, hP⟩ := hP
        refine r_callINv (n := 0) (rest := [.ref x2, .int v1, .ref x1]) (host := "ChuteLoft") X hM hS (ct_X2_init hst x2) hP (List.mem_of_getElem? (i := 3) rfl) cw_X2_init iw_ChuteLoft_Jumper (by decide +kernel) rfl in9_X2_init rfl rfl hl.1 (Nat.le_of_ble_eq_true rfl) ⟨⟨by decide, by decide⟩, hcs⟩ dX5_init_140 (fun M H locs hM hS hP => ?_)
        refine r_stq (C := RX2) (T := TX2) (N := 12) (fun _ => rfl) rfl X hM hS hP dX5_init_143 (fun M H locs hM hS hP => ?_)
        refine lv_iinc (v := v1 + 1) (lv' := [(1, .int (v1 + 1)), (0, .ref v0)]) hx hb dX5_init_144 hl (k := 1) rfl rfl (by decide) rfl (fun ls hl => ?_)
        refine lv_goto (tgt := 125) hx hb dX5_init_147 (by decide) ?_
        exact ih125 (u + 1) (w + 12) v0 (v1 + 1) _ _ _ _ hM hS (lv_sub hl [1, 0] rfl) hP
  unfold f_X5_init at hP
  refine lv_aload_n hx hb dX5_init_0 rfl (lv_at hl 0 rfl) ?_
  refine r_objInit X ol_X5_3 mLA_oi mLA_oc hl.1 (by decide) (by decide) dX5_init_1 ?_
  refine lv_aload_n hx hb dX5_init_4 rfl (lv_at hl 0 rfl) ?_
  refine lv_bipush (v := 8) hx hb dX5_init_5 (by decide) ?_
  obtain ⟨hcs, hP⟩ := hP
  refine r_newq (t := 4) (fun _ => rfl) (List.mem_of_getElem? (i := 0) rfl) al_X5_9 X hM hS hP (by decide) (by decide) (by decide) hcs dX5_init_7 (fun x1 M H hM hS hP => ?_)
  refine r_putF X hM hS hP fl_X5_11 ft_X5 rfl hname rfl (tyX5_ok 0 (Nat.le_of_ble_eq_true rfl)) rfl rfl dX5_init_10 (fun M H locs hM hS hP => ?_)
  refine lv_aload_n hx hb dX5_init_13 rfl (lv_at hl 0 rfl) ?_
  refine lv_iconst (v := 0) hx hb dX5_init_14 (by decide) ?_
  refine r_put X hM hS hP fl_X5_15 ft_X5 rfl (tyX5_ok 1 (Nat.le_of_ble_eq_true rfl)) rfl rfl dX5_init_15 (fun M H locs hM hS hP => ?_)
  refine lv_aload_n hx hb dX5_init_18 rfl (lv_at hl 0 rfl) ?_
  refine lv_bipush (v := 8) hx hb dX5_init_19 (by decide) ?_
  obtain ⟨hcs, hP⟩ := hP
  refine r_newq (t := 5) (fun _ => rfl) (List.mem_of_getElem? (i := 1) rfl) al_X5_19 X hM hS hP (by decide) (by decide) (by decide) hcs dX5_init_21 (fun x2 M H hM hS hP => ?_)
  refine r_putF X hM hS hP fl_X5_21 ft_X5 rfl hname rfl (tyX5_ok 2 (Nat.le_of_ble_eq_true rfl)) rfl rfl dX5_init_24 (fun M H locs hM hS hP => ?_)
  refine lv_aload_n hx hb dX5_init_27 rfl (lv_at hl 0 rfl) ?_
  refine lv_iconst (v := 0) hx hb dX5_init_28 (by decide) ?_
  refine r_put X hM hS hP fl_X5_25 ft_X5 rfl (tyX5_ok 3 (Nat.le_of_ble_eq_true rfl)) rfl rfl dX5_init_29 (fun M H locs hM hS hP => ?_)
  refine lv_aload_n hx hb dX5_init_32 rfl (lv_at hl 0 rfl) ?_
  obtain ⟨hcs, hP⟩ := hP
  refine r_new X hM hS hP nl_X5_28 ft_X4 df_X4 hcs dX5_init_33 (fun x3 M H hM hS hP => ?_)
  refine lv_dup hx hb dX5_init_36 rfl ?_
  obtain ⟨hcs, hP⟩ := hP
  refine r_callINv (n := 0) (rest := [.ref x3, .ref a0]) (host := "ChuteLoft") X hM hS (ct_X4_init hst x3) hP (List.mem_of_getElem? (i := 0) rfl) cw_X4_init iw_ChuteLoft_Winds (by decide +kernel) rfl in9_X4_init rfl rfl hl.1 (Nat.le_of_ble_eq_true rfl) ⟨⟨by decide, by decide⟩, hcs⟩ dX5_init_37 (fun M H locs hM hS hP => ?_)
  refine r_putF X hM hS hP fl_X5_31 ft_X5 rfl hname rfl (tyX5_ok 4 (Nat.le_of_ble_eq_true rfl)) rfl rfl dX5_init_40 (fun M H locs hM hS hP => ?_)
  refine lv_aload_n hx hb dX5_init_43 rfl (lv_at hl 0 rfl) ?_
  refine lv_bipush (v := 6) hx hb dX5_init_44 (by decide) ?_
  obtain ⟨hcs, hP⟩ := hP
  refine r_newa (t := 0) (atype := .int) (fun _ => rfl) (fun _ _ h => h) X hM hS ac_int hP (fun _ => rfl) (by decide) (by decide) (by decide) hcs dX5_init_46 (fun x5 M H hM hS hP => ?_)
  refine r_putF X hM hS hP fl_X5_35 ft_X5 rfl hname rfl (tyX5_ok 5 (Nat.le_of_ble_eq_true rfl)) rfl rfl dX5_init_48 (fun M H locs hM hS hP => ?_)
  refine lv_aload_n hx hb dX5_init_51 rfl (lv_at hl 0 rfl) ?_
  refine lv_iconst (v := 0) hx hb dX5_init_52 (by decide) ?_
  refine r_put X hM hS hP fl_X5_39 ft_X5 rfl (tyX5_ok 6 (Nat.le_of_ble_eq_true rfl)) rfl rfl dX5_init_53 (fun M H locs hM hS hP => ?_)
  refine lv_aload_n hx hb dX5_init_56 rfl (lv_at hl 0 rfl) ?_
  refine lv_iconst (v := 0) hx hb dX5_init_57 (by decide) ?_
  refine r_putz X hM hS hP fl_X5_42 ft_X5 rfl (tyX5_ok 7 (Nat.le_of_ble_eq_true rfl)) dX5_init_58 (fun M H locs hM hS hP => ?_)
  refine lv_aload_n hx hb dX5_init_61 rfl (lv_at hl 0 rfl) ?_
  obtain ⟨hcs, hP⟩ := hP
  refine r_new X hM hS hP nl_X5_46 ft_X0 df_X0 hcs dX5_init_62 (fun x6 M H hM hS hP => ?_)
  refine lv_dup hx hb dX5_init_65 rfl ?_
  obtain ⟨hcs, hP⟩ := hP
  refine r_callIv (rest := [.ref x6, .ref a0]) X hM hS (ct_X0_init hst x6) hP mI_X5_48 rfl rfl hl.1 (Nat.le_of_ble_eq_true rfl) ⟨⟨by decide, by decide⟩, hcs⟩ dX5_init_66 (fun M H locs hM hS hP => ?_)
  refine r_putF X hM hS hP fl_X5_49 ft_X5 rfl hname rfl (tyX5_ok 8 (Nat.le_of_ble_eq_true rfl)) rfl rfl dX5_init_69 (fun M H locs hM hS hP => ?_)
  refine lv_aload_n hx hb dX5_init_72 rfl (lv_at hl 0 rfl) ?_
  obtain ⟨hcs, hP⟩ := hP
  refine r_new X hM hS hP nl_X5_53 ft_X1 df_X1 hcs dX5_init_73 (fun x8 M H hM hS hP => ?_)
  refine lv_dup hx hb dX5_init_76 rfl ?_
  obtain ⟨hcs, hP⟩ := hP
  refine r_callINv (n := 0) (rest := [.ref x8, .ref a0]) (host := "ChuteLoft") X hM hS (ct_X1_init hst x8) hP (List.mem_of_getElem? (i := 2) rfl) cw_X1_init iw_ChuteLoft_Jump (by decide +kernel) rfl in9_X1_init rfl rfl hl.1 (Nat.le_of_ble_eq_true rfl) ⟨⟨by decide, by decide⟩, hcs⟩ dX5_init_77 (fun M H locs hM hS hP => ?_)
  refine r_putF X hM hS hP fl_X5_56 ft_X5 rfl hname rfl (tyX5_ok 9 (Nat.le_of_ble_eq_true rfl)) rfl rfl dX5_init_80 (fun M H locs hM hS hP => ?_)
  refine lv_aload_n hx hb dX5_init_83 rfl (lv_at hl 0 rfl) ?_
  refine lv_iconst (v := 0) hx hb dX5_init_84 (by decide) ?_
  refine r_put X hM hS hP fl_X5_60 ft_X5 rfl (tyX5_ok 10 (Nat.le_of_ble_eq_true rfl)) rfl rfl dX5_init_85 (fun M H locs hM hS hP => ?_)
  refine lv_aload_n hx hb dX5_init_88 rfl (lv_at hl 0 rfl) ?_
  refine lv_iconst (v := 3) hx hb dX5_init_89 (by decide) ?_
  refine r_put X hM hS hP fl_X5_63 ft_X5 rfl (tyX5_ok 11 (Nat.le_of_ble_eq_true rfl)) rfl rfl dX5_init_90 (fun M H locs hM hS hP => ?_)
  refine lv_aload_n hx hb dX5_init_93 rfl (lv_at hl 0 rfl) ?_
  refine lv_iconst (v := 0) hx hb dX5_init_94 (by decide) ?_
  refine r_put X hM hS hP fl_X5_66 ft_X5 rfl (tyX5_ok 12 (Nat.le_of_ble_eq_true rfl)) rfl rfl dX5_init_95 (fun M H locs hM hS hP => ?_)
  refine lv_aload_n hx hb dX5_init_98 rfl (lv_at hl 0 rfl) ?_
  refine lv_iconst (v := 0) hx hb dX5_init_99 (by decide) ?_
  refine r_put X hM hS hP fl_X5_69 ft_X5 rfl (tyX5_ok 13 (Nat.le_of_ble_eq_true rfl)) rfl rfl dX5_init_100 (fun M H locs hM hS hP => ?_)
  refine lv_aload_n hx hb dX5_init_103 rfl (lv_at hl 0 rfl) ?_
  refine lv_iconst (v := 0) hx hb dX5_init_104 (by decide) ?_
  refine r_put X hM hS hP fl_X5_72 ft_X5 rfl (tyX5_ok 14 (Nat.le_of_ble_eq_true rfl)) rfl rfl dX5_init_105 (fun M H locs hM hS hP => ?_)
  refine lv_aload_n hx hb dX5_init_108 rfl (lv_at hl 0 rfl) ?_
  refine lv_iconst (v := 0) hx hb dX5_init_109 (by decide) ?_
  refine r_put X hM hS hP fl_X5_75 ft_X5 rfl (tyX5_ok 15 (Nat.le_of_ble_eq_true rfl)) rfl rfl dX5_init_110 (fun M H locs hM hS hP => ?_)
  refine lv_aload_n hx hb dX5_init_113 rfl (lv_at hl 0 rfl) ?_
  refine lv_iconst (v := 0) hx hb dX5_init_114 (by decide) ?_
  refine r_put X hM hS hP fl_X5_78 ft_X5 rfl (tyX5_ok 16 (Nat.le_of_ble_eq_true rfl)) rfl rfl dX5_init_115 (fun M H locs hM hS hP => ?_)
  refine lv_aload_n hx hb dX5_init_118 rfl (lv_at hl 0 rfl) ?_
  refine lv_iconst (v := 0) hx hb dX5_init_119 (by decide) ?_
  refine r_put X hM hS hP fl_X5_81 ft_X5 rfl (tyX5_ok 17 (Nat.le_of_ble_eq_true rfl)) rfl rfl dX5_init_120 (fun M H locs hM hS hP => ?_)
  refine lv_iconst (v := 0) hx hb dX5_init_123 (by decide) ?_
  refine lv_istore_n (lv' := [(1, .int 0), (0, .ref a0)]) hx hb dX5_init_124 rfl hl (by decide) rfl (fun ls hl => ?_)
  exact hb125 mFuel (0 + 1 + 1 + 1 + 2 + 1 + 1 + 7 + 1) (0 + 8 + 8 + 2 + 20 + 6 + 2 + 72 + 11) a0 0 _ _ _ _ hM hS (lv_sub hl [1, 0] rfl) hP
def f_X5_checkArgument_b10 (K : Cfg) (k : Mem → Prop) (QX : String → Mem → Prop) : Mem → Prop :=
 QX "java/lang/IllegalArgumentException"
def f_X5_checkArgument (K : Cfg) (a0 : Int32) (a1 : Int32) (a2 : Int32) (k : Mem → Prop) (QX : String → Mem → Prop) : Mem → Prop :=
 mIf (a0 < a1)
 (f_X5_checkArgument_b10 K k QX)
 (mIf (a0 ≤ a2)
 (k)
 (f_X5_checkArgument_b10 K k QX))
abbrev rm_X5_checkArgument : Room := { frames := 6, cells := 1, slots := 6, locals := 82 }
set_option maxHeartbeats 4000000 in
set_option maxRecDepth 100000 in
theorem ct_X5_checkArgument {K : Cfg} {l : Launch} (hst : l.stackTraces = false) (a0 : Int32) (a1 : Int32) (a2 : Int32) : mXPv K l yX5_checkArgument cX5_checkArgument 3 none rm_X5_checkArgument [.int a0, .int a1, .int a2] (f_X5_checkArgument K a0 a1 a2) := by
  refine mXPv.of hst (by decide +kernel) (Nat.le_of_ble_eq_true rfl) ?_
  intro M k Q QX hk hP p e s m below meth c X hr hlocks hno hM ls hl
  have hx := X.1.1
  have hb := X.1.2.1
  have X : Cx K p l s m ([.int a0, .int a1, .int a2] : List Value).toArray c cX5_checkArgument 3 RX5 := X
  have hS : va_S (mFA K) s.heap s.heap [] := va_S.rf
  have hl : lv_has ls 3 [(0, .int a0), (1, .int a1), (2, .int a2)] := hl
  have hb10 : ∀ (M : Mem) (H : Heap) (locs : List Loc) (ls : Array Slot), mh K M H → va_S (mFA K) s.heap H locs → lv_has ls 3 [] → f_X5_checkArgument_b10 K k QX M → W p l e rm_X5_checkArgument s m ([.int a0, .int a1, .int a2] : List Value).toArray below meth c H locs 0 0 (vy_MQ below (mQ K Q) (mX K QX) ([.int a0, .int a1, .int a2] : List Value).toArray s 0 0 1 6 (mFA K)) (F0 m 10 ls []) := by
    intro M H locs ls hM hS hl hP
    unfold f_X5_checkArgument_b10 at hP
    exact e_throwW X hM hS hP th_X5_210_322 hno hlocks hl.1 rfl rfl ⟨by decide, by decide, by decide, by decide⟩ dX5_checkArgument_10 dX5_checkArgument_13 dX5_checkArgument_14 dX5_checkArgument_17 dX5_checkArgument_20
  unfold f_X5_checkArgument at hP
  refine lv_iload_n hx hb dX5_checkArgument_0 rfl (lv_at hl 0 rfl) ?_
  refine lv_iload_n hx hb dX5_checkArgument_1 rfl (lv_at hl 1 rfl) ?_
  refine lv_icmp_lt (tgt := 10) hx hb dX5_checkArgument_2 (by decide) (fun hc => ?_) (fun hc => ?_)
  · have hP := mIf_t hP hc
    exact hb10 _ _ _ _ hM hS (lv_sub hl [] rfl) hP
  · have hP := mIf_f hP hc
    refine lv_iload_n hx hb dX5_checkArgument_5 rfl (lv_at hl 0 rfl) ?_
    refine lv_iload_n hx hb dX5_checkArgument_6 rfl (lv_at hl 2 rfl) ?_
    refine lv_icmp_le (tgt := 21) hx hb dX5_checkArgument_7 (by decide) (fun hc => ?_) (fun hc => ?_)
    · have hP := mIf_t hP hc
      exact vy_ret (e_vret X hM hS (hk _ hP) hr hlocks (by decide) (by decide) dX5_checkArgument_21)
    · have hP := mIf_f hP hc
      exact hb10 _ _ _ _ hM hS (lv_sub hl [] rfl) hP
def f_X5_jumper (K : Cfg) (a0 : Nat) (a1 : Int32) (a2 : Int32) (k : Int32 → Mem → Prop) (QX : String → Mem → Prop) : Mem → Prop :=
 f_X5_checkArgument K a1 50 130 (
 f_X5_checkArgument K a2 0 3 (
 mGetI a0 6 1 fun x3 =>
 mIf (x3 < 8)
 (mGetR a0 6 0 fun x4 =>
 mGetI a0 6 1 fun x5 =>
 mLdQ K 4 x4 x5 fun x6 =>
 mPut x6 3 0 (.int a1) <|
 mPut x6 3 1 (.int a2) <|
 mGetI a0 6 10 fun x7 =>
 mPut x6 3 3 (.int x7) <|
 mGetI a0 6 1 fun x8 =>
 mPut a0 6 1 (.int (x8 + 1)) <|
 mGetI a0 6 1 fun x9 =>
 k (x9 - 1))
 (QX "java/lang/IllegalStateException")) QX) QX
abbrev rm_X5_jumper : Room := { frames := 7, cells := 1, slots := 6, locals := 104 }
set_option maxHeartbeats 4000000 in
set_option maxRecDepth 100000 in
theorem ct_X5_jumper {K : Cfg} {l : Launch} (hst : l.stackTraces = false) (a0 : Nat) (a1 : Int32) (a2 : Int32) : mXPi K l yX5_jumper cX5_jumper 4 (some .int) rm_X5_jumper [.ref a0, .int a1, .int a2] (f_X5_jumper K a0 a1 a2) := by
  refine mXPi.of hst (by decide +kernel) (Nat.le_of_ble_eq_true rfl) ?_
  intro M k Q QX hk hP p e s m below meth c X hr hlocks hno hM ls hl
  have hx := X.1.1
  have hb := X.1.2.1
  have X : Cx K p l s m ([.ref a0, .int a1, .int a2] : List Value).toArray c cX5_jumper 4 RX5 := X
  have hS : va_S (mFA K) s.heap s.heap [] := va_S.rf
  have hl : lv_has ls 4 [(0, .ref a0), (1, .int a1), (2, .int a2)] := hl
  unfold f_X5_jumper at hP
  refine lv_iload_n hx hb dX5_jumper_0 rfl (lv_at hl 1 rfl) ?_
  refine lv_bipush (v := 50) hx hb dX5_jumper_1 (by decide) ?_
  refine lv_sipush (v := 130) hx hb dX5_jumper_3 (by decide) ?_
  refine rx_callSv (rest := []) X hM hS (ct_X5_checkArgument hst a1 50 130) hP mS_X5_86 rfl rfl hl.1 (Nat.le_of_ble_eq_true rfl) ⟨⟨by decide, by decide⟩, by decide, by decide⟩ dX5_jumper_6 (x_out hno hlocks rfl rfl) (fun M H locs hM hS hP => ?_)
  refine lv_iload_n hx hb dX5_jumper_9 rfl (lv_at hl 2 rfl) ?_
  refine lv_iconst (v := 0) hx hb dX5_jumper_10 (by decide) ?_
  refine lv_iconst (v := 3) hx hb dX5_jumper_11 (by decide) ?_
  refine rx_callSv (rest := []) X hM hS (ct_X5_checkArgument hst a2 0 3) hP mS_X5_86 rfl rfl hl.1 (Nat.le_of_ble_eq_true rfl) ⟨⟨by decide, by decide⟩, by decide, by decide⟩ dX5_jumper_12 (x_out hno hlocks rfl rfl) (fun M H locs hM hS hP => ?_)
  refine lv_aload_n hx hb dX5_jumper_15 rfl (lv_at hl 0 rfl) ?_
  refine r_geti X hM hP fl_X5_15 dX5_jumper_16 (fun x3 hP => ?_)
  refine lv_bipush (v := 8) hx hb dX5_jumper_19 (by decide) ?_
  refine lv_icmp_lt (tgt := 34) hx hb dX5_jumper_21 (by decide) (fun hc => ?_) (fun hc => ?_)
  · have hP := mIf_t hP hc
    refine lv_aload_n hx hb dX5_jumper_34 rfl (lv_at hl 0 rfl) ?_
    refine r_getr X hM hP fl_X5_11 dX5_jumper_35 (fun x4 hP => ?_)
    refine lv_aload_n hx hb dX5_jumper_38 rfl (lv_at hl 0 rfl) ?_
    refine r_geti X hM hP fl_X5_15 dX5_jumper_39 (fun x5 hP => ?_)
    refine r_ldq (t := 4) (fun _ => rfl) X hM hP dX5_jumper_42 (fun x6 hP => ?_)
    refine lv_astore_n (lv' := [(3, .ref x6), (0, .ref a0), (1, .int a1), (2, .int a2)]) hx hb dX5_jumper_43 rfl hl (by decide) rfl (fun ls hl => ?_)
    refine lv_aload_n hx hb dX5_jumper_44 rfl (lv_at hl 0 rfl) ?_
    refine lv_iload_n hx hb dX5_jumper_45 rfl (lv_at hl 2 rfl) ?_
    refine r_put X hM hS hP fl_X5_97 ft_X2 rfl (tyX2_ok 0 (Nat.le_of_ble_eq_true rfl)) rfl rfl dX5_jumper_46 (fun M H locs hM hS hP => ?_)
    refine lv_aload_n hx hb dX5_jumper_49 rfl (lv_at hl 0 rfl) ?_
    refine lv_iload_n hx hb dX5_jumper_50 rfl (lv_at hl 3 rfl) ?_
    refine r_put X hM hS hP fl_X5_100 ft_X2 rfl (tyX2_ok 1 (Nat.le_of_ble_eq_true rfl)) rfl rfl dX5_jumper_51 (fun M H locs hM hS hP => ?_)
    refine lv_aload_n hx hb dX5_jumper_54 rfl (lv_at hl 0 rfl) ?_
    refine lv_aload_n hx hb dX5_jumper_55 rfl (lv_at hl 1 rfl) ?_
    refine r_geti X hM hP fl_X5_60 dX5_jumper_56 (fun x7 hP => ?_)
    refine r_put X hM hS hP fl_X5_103 ft_X2 rfl (tyX2_ok 3 (Nat.le_of_ble_eq_true rfl)) rfl rfl dX5_jumper_59 (fun M H locs hM hS hP => ?_)
    refine lv_aload_n hx hb dX5_jumper_62 rfl (lv_at hl 1 rfl) ?_
    refine lv_dup hx hb dX5_jumper_63 rfl ?_
    refine r_geti X hM hP fl_X5_15 dX5_jumper_64 (fun x8 hP => ?_)
    refine lv_iconst (v := 1) hx hb dX5_jumper_67 (by decide) ?_
    refine lv_iadd hx hb dX5_jumper_68 ?_
    refine r_put X hM hS hP fl_X5_15 ft_X5 rfl (tyX5_ok 1 (Nat.le_of_ble_eq_true rfl)) rfl rfl dX5_jumper_69 (fun M H locs hM hS hP => ?_)
    refine lv_aload_n hx hb dX5_jumper_72 rfl (lv_at hl 1 rfl) ?_
    refine r_geti X hM hP fl_X5_15 dX5_jumper_73 (fun x9 hP => ?_)
    refine lv_iconst (v := 1) hx hb dX5_jumper_76 (by decide) ?_
    refine lv_isub hx hb dX5_jumper_77 ?_
    exact vy_ret (e_iret X hM hS (hk _ _ hP) hr hlocks (by decide) (by decide) dX5_jumper_78)
  · have hP := mIf_f hP hc
    exact e_throw X hM hS hP th_X5_90_92 hno hlocks hl.1 rfl rfl ⟨by decide, by decide, by decide, by decide⟩ dX5_jumper_24 dX5_jumper_27 dX5_jumper_28 dX5_jumper_30 dX5_jumper_33
def f_X5_rig (K : Cfg) (a0 : Nat) (a1 : Int32) (a2 : Int32) (k : Int32 → Mem → Prop) (QX : String → Mem → Prop) : Mem → Prop :=
 f_X5_checkArgument K a1 80 300 (
 f_X5_checkArgument K a2 0 60 (
 mGetI a0 6 3 fun x3 =>
 mIf (x3 < 8)
 (mGetR a0 6 2 fun x4 =>
 mGetI a0 6 3 fun x5 =>
 mLdQ K 5 x4 x5 fun x6 =>
 mPut x6 4 0 (.int a1) <|
 mGetI a0 6 10 fun x7 =>
 mPut x6 4 1 (.int (x7 + a2)) <|
 mGetI a0 6 3 fun x8 =>
 mPut a0 6 3 (.int (x8 + 1)) <|
 mGetI a0 6 3 fun x9 =>
 k (x9 - 1))
 (QX "java/lang/IllegalStateException")) QX) QX
abbrev rm_X5_rig : Room := { frames := 7, cells := 1, slots := 6, locals := 104 }
set_option maxHeartbeats 4000000 in
set_option maxRecDepth 100000 in
theorem ct_X5_rig {K : Cfg} {l : Launch} (hst : l.stackTraces = false) (a0 : Nat) (a1 : Int32) (a2 : Int32) : mXPi K l yX5_rig cX5_rig 4 (some .int) rm_X5_rig [.ref a0, .int a1, .int a2] (f_X5_rig K a0 a1 a2) := by
  refine mXPi.of hst (by decide +kernel) (Nat.le_of_ble_eq_true rfl) ?_
  intro M k Q QX hk hP p e s m below meth c X hr hlocks hno hM ls hl
  have hx := X.1.1
  have hb := X.1.2.1
  have X : Cx K p l s m ([.ref a0, .int a1, .int a2] : List Value).toArray c cX5_rig 4 RX5 := X
  have hS : va_S (mFA K) s.heap s.heap [] := va_S.rf
  have hl : lv_has ls 4 [(0, .ref a0), (1, .int a1), (2, .int a2)] := hl
  unfold f_X5_rig at hP
  refine lv_iload_n hx hb dX5_rig_0 rfl (lv_at hl 1 rfl) ?_
  refine lv_bipush (v := 80) hx hb dX5_rig_1 (by decide) ?_
  refine lv_sipush (v := 300) hx hb dX5_rig_3 (by decide) ?_
  refine rx_callSv (rest := []) X hM hS (ct_X5_checkArgument hst a1 80 300) hP mS_X5_86 rfl rfl hl.1 (Nat.le_of_ble_eq_true rfl) ⟨⟨by decide, by decide⟩, by decide, by decide⟩ dX5_rig_6 (x_out hno hlocks rfl rfl) (fun M H locs hM hS hP => ?_)
  refine lv_iload_n hx hb dX5_rig_9 rfl (lv_at hl 2 rfl) ?_
  refine lv_iconst (v := 0) hx hb dX5_rig_10 (by decide) ?_
  refine lv_bipush (v := 60) hx hb dX5_rig_11 (by decide) ?_
  refine rx_callSv (rest := []) X hM hS (ct_X5_checkArgument hst a2 0 60) hP mS_X5_86 rfl rfl hl.1 (Nat.le_of_ble_eq_true rfl) ⟨⟨by decide, by decide⟩, by decide, by decide⟩ dX5_rig_13 (x_out hno hlocks rfl rfl) (fun M H locs hM hS hP => ?_)
  refine lv_aload_n hx hb dX5_rig_16 rfl (lv_at hl 0 rfl) ?_
  refine r_geti X hM hP fl_X5_25 dX5_rig_17 (fun x3 hP => ?_)
  refine lv_bipush (v := 8) hx hb dX5_rig_20 (by decide) ?_
  refine lv_icmp_lt (tgt := 35) hx hb dX5_rig_22 (by decide) (fun hc => ?_) (fun hc => ?_)
  · have hP := mIf_t hP hc
    refine lv_aload_n hx hb dX5_rig_35 rfl (lv_at hl 0 rfl) ?_
    refine r_getr X hM hP fl_X5_21 dX5_rig_36 (fun x4 hP => ?_)
    refine lv_aload_n hx hb dX5_rig_39 rfl (lv_at hl 0 rfl) ?_
    refine r_geti X hM hP fl_X5_25 dX5_rig_40 (fun x5 hP => ?_)
    refine r_ldq (t := 5) (fun _ => rfl) X hM hP dX5_rig_43 (fun x6 hP => ?_)
    refine lv_astore_n (lv' := [(3, .ref x6), (0, .ref a0), (1, .int a1), (2, .int a2)]) hx hb dX5_rig_44 rfl hl (by decide) rfl (fun ls hl => ?_)
    refine lv_aload_n hx hb dX5_rig_45 rfl (lv_at hl 0 rfl) ?_
    refine lv_iload_n hx hb dX5_rig_46 rfl (lv_at hl 2 rfl) ?_
    refine r_put X hM hS hP fl_X5_108 ft_X3 rfl (tyX3_ok 0 (Nat.le_of_ble_eq_true rfl)) rfl rfl dX5_rig_47 (fun M H locs hM hS hP => ?_)
    refine lv_aload_n hx hb dX5_rig_50 rfl (lv_at hl 0 rfl) ?_
    refine lv_aload_n hx hb dX5_rig_51 rfl (lv_at hl 1 rfl) ?_
    refine r_geti X hM hP fl_X5_60 dX5_rig_52 (fun x7 hP => ?_)
    refine lv_iload_n hx hb dX5_rig_55 rfl (lv_at hl 3 rfl) ?_
    refine lv_iadd hx hb dX5_rig_56 ?_
    refine r_put X hM hS hP fl_X5_111 ft_X3 rfl (tyX3_ok 1 (Nat.le_of_ble_eq_true rfl)) rfl rfl dX5_rig_57 (fun M H locs hM hS hP => ?_)
    refine lv_aload_n hx hb dX5_rig_60 rfl (lv_at hl 1 rfl) ?_
    refine lv_dup hx hb dX5_rig_61 rfl ?_
    refine r_geti X hM hP fl_X5_25 dX5_rig_62 (fun x8 hP => ?_)
    refine lv_iconst (v := 1) hx hb dX5_rig_65 (by decide) ?_
    refine lv_iadd hx hb dX5_rig_66 ?_
    refine r_put X hM hS hP fl_X5_25 ft_X5 rfl (tyX5_ok 3 (Nat.le_of_ble_eq_true rfl)) rfl rfl dX5_rig_67 (fun M H locs hM hS hP => ?_)
    refine lv_aload_n hx hb dX5_rig_70 rfl (lv_at hl 1 rfl) ?_
    refine r_geti X hM hP fl_X5_25 dX5_rig_71 (fun x9 hP => ?_)
    refine lv_iconst (v := 1) hx hb dX5_rig_74 (by decide) ?_
    refine lv_isub hx hb dX5_rig_75 ?_
    exact vy_ret (e_iret X hM hS (hk _ _ hP) hr hlocks (by decide) (by decide) dX5_rig_76)
  · have hP := mIf_f hP hc
    exact e_throw X hM hS hP th_X5_90_106 hno hlocks hl.1 rfl rfl ⟨by decide, by decide, by decide, by decide⟩ dX5_rig_25 dX5_rig_28 dX5_rig_29 dX5_rig_31 dX5_rig_34
def f_X5_rigAt_b18 (K : Cfg) (k : Nat → Mem → Prop) (QX : String → Mem → Prop) : Mem → Prop :=
 QX "java/lang/IndexOutOfBoundsException"
def f_X5_rigAt (K : Cfg) (a0 : Nat) (a1 : Int32) (k : Nat → Mem → Prop) (QX : String → Mem → Prop) : Mem → Prop :=
 mIf (a1 < 0)
 (f_X5_rigAt_b18 K k QX)
 (mGetI a0 6 3 fun x1 =>
 mIf (x1 ≤ a1)
 (f_X5_rigAt_b18 K k QX)
 (mIf (a1 < 8)
 (mGetR a0 6 2 fun x2 =>
 mLdQ K 5 x2 a1 fun x3 =>
 k x3)
 (f_X5_rigAt_b18 K k QX)))
abbrev rm_X5_rigAt : Room := { frames := 6, cells := 1, slots := 6, locals := 82 }
set_option maxHeartbeats 4000000 in
set_option maxRecDepth 100000 in
theorem ct_X5_rigAt {K : Cfg} {l : Launch} (hst : l.stackTraces = false) (a0 : Nat) (a1 : Int32) : mXPr K l yX5_rigAt cX5_rigAt 2 (some (.object "ChuteLoft$Rig")) rm_X5_rigAt [.ref a0, .int a1] (f_X5_rigAt K a0 a1) := by
  refine mXPr.of hst (by decide +kernel) (Nat.le_of_ble_eq_true rfl) ?_
  intro M k Q QX hk hP p e s m below meth c X hr hlocks hno hM ls hl
  have hx := X.1.1
  have hb := X.1.2.1
  have X : Cx K p l s m ([.ref a0, .int a1] : List Value).toArray c cX5_rigAt 2 RX5 := X
  have hS : va_S (mFA K) s.heap s.heap [] := va_S.rf
  have hl : lv_has ls 2 [(0, .ref a0), (1, .int a1)] := hl
  have hb18 : ∀ (M : Mem) (H : Heap) (locs : List Loc) (ls : Array Slot), mh K M H → va_S (mFA K) s.heap H locs → lv_has ls 2 [] → f_X5_rigAt_b18 K k QX M → W p l e rm_X5_rigAt s m ([.ref a0, .int a1] : List Value).toArray below meth c H locs 0 0 (vy_MQ below (mQ K Q) (mX K QX) ([.ref a0, .int a1] : List Value).toArray s 0 0 1 6 (mFA K)) (F0 m 18 ls []) := by
    intro M H locs ls hM hS hl hP
    unfold f_X5_rigAt_b18 at hP
    exact e_throwW X hM hS hP th_X5_240_328 hno hlocks hl.1 rfl rfl ⟨by decide, by decide, by decide, by decide⟩ dX5_rigAt_18 dX5_rigAt_21 dX5_rigAt_22 dX5_rigAt_25 dX5_rigAt_28
  unfold f_X5_rigAt at hP
  refine lv_iload_n hx hb dX5_rigAt_0 rfl (lv_at hl 1 rfl) ?_
  refine lv_if_lt (tgt := 18) hx hb dX5_rigAt_1 (by decide) (fun hc => ?_) (fun hc => ?_)
  · have hP := mIf_t hP hc
    exact hb18 _ _ _ _ hM hS (lv_sub hl [] rfl) hP
  · have hP := mIf_f hP hc
    refine lv_iload_n hx hb dX5_rigAt_4 rfl (lv_at hl 1 rfl) ?_
    refine lv_aload_n hx hb dX5_rigAt_5 rfl (lv_at hl 0 rfl) ?_
    refine r_geti X hM hP fl_X5_25 dX5_rigAt_6 (fun x1 hP => ?_)
    refine lv_icmp_ge (tgt := 18) hx hb dX5_rigAt_9 (by decide) (fun hc => ?_) (fun hc => ?_)
    · have hP := mIf_t hP hc
      exact hb18 _ _ _ _ hM hS (lv_sub hl [] rfl) hP
    · have hP := mIf_f hP hc
      refine lv_iload_n hx hb dX5_rigAt_12 rfl (lv_at hl 1 rfl) ?_
      refine lv_bipush (v := 8) hx hb dX5_rigAt_13 (by decide) ?_
      refine lv_icmp_lt (tgt := 29) hx hb dX5_rigAt_15 (by decide) (fun hc => ?_) (fun hc => ?_)
      · have hP := mIf_t hP hc
        refine lv_aload_n hx hb dX5_rigAt_29 rfl (lv_at hl 0 rfl) ?_
        refine r_getr X hM hP fl_X5_21 dX5_rigAt_30 (fun x2 hP => ?_)
        refine lv_iload_n hx hb dX5_rigAt_33 rfl (lv_at hl 1 rfl) ?_
        refine r_ldq (t := 5) (fun _ => rfl) X hM hP dX5_rigAt_34 (fun x3 hP => ?_)
        exact vy_ret (e_aret X hM hS (hk _ _ hP) hr (Or.inl ⟨_, rfl⟩) hlocks (by decide) (by decide) dX5_rigAt_35)
      · have hP := mIf_f hP hc
        exact hb18 _ _ _ _ hM hS (lv_sub hl [] rfl) hP
def f_X5_jumperAt_b18 (K : Cfg) (k : Nat → Mem → Prop) (QX : String → Mem → Prop) : Mem → Prop :=
 QX "java/lang/IndexOutOfBoundsException"
def f_X5_jumperAt (K : Cfg) (a0 : Nat) (a1 : Int32) (k : Nat → Mem → Prop) (QX : String → Mem → Prop) : Mem → Prop :=
 mIf (a1 < 0)
 (f_X5_jumperAt_b18 K k QX)
 (mGetI a0 6 1 fun x1 =>
 mIf (x1 ≤ a1)
 (f_X5_jumperAt_b18 K k QX)
 (mIf (a1 < 8)
 (mGetR a0 6 0 fun x2 =>
 mLdQ K 4 x2 a1 fun x3 =>
 k x3)
 (f_X5_jumperAt_b18 K k QX)))
abbrev rm_X5_jumperAt : Room := { frames := 6, cells := 1, slots := 6, locals := 82 }
set_option maxHeartbeats 4000000 in
set_option maxRecDepth 100000 in
theorem ct_X5_jumperAt {K : Cfg} {l : Launch} (hst : l.stackTraces = false) (a0 : Nat) (a1 : Int32) : mXPr K l yX5_jumperAt cX5_jumperAt 2 (some (.object "ChuteLoft$Jumper")) rm_X5_jumperAt [.ref a0, .int a1] (f_X5_jumperAt K a0 a1) := by
  refine mXPr.of hst (by decide +kernel) (Nat.le_of_ble_eq_true rfl) ?_
  intro M k Q QX hk hP p e s m below meth c X hr hlocks hno hM ls hl
  have hx := X.1.1
  have hb := X.1.2.1
  have X : Cx K p l s m ([.ref a0, .int a1] : List Value).toArray c cX5_jumperAt 2 RX5 := X
  have hS : va_S (mFA K) s.heap s.heap [] := va_S.rf
  have hl : lv_has ls 2 [(0, .ref a0), (1, .int a1)] := hl
  have hb18 : ∀ (M : Mem) (H : Heap) (locs : List Loc) (ls : Array Slot), mh K M H → va_S (mFA K) s.heap H locs → lv_has ls 2 [] → f_X5_jumperAt_b18 K k QX M → W p l e rm_X5_jumperAt s m ([.ref a0, .int a1] : List Value).toArray below meth c H locs 0 0 (vy_MQ below (mQ K Q) (mX K QX) ([.ref a0, .int a1] : List Value).toArray s 0 0 1 6 (mFA K)) (F0 m 18 ls []) := by
    intro M H locs ls hM hS hl hP
    unfold f_X5_jumperAt_b18 at hP
    exact e_throwW X hM hS hP th_X5_240_326 hno hlocks hl.1 rfl rfl ⟨by decide, by decide, by decide, by decide⟩ dX5_jumperAt_18 dX5_jumperAt_21 dX5_jumperAt_22 dX5_jumperAt_25 dX5_jumperAt_28
  unfold f_X5_jumperAt at hP
  refine lv_iload_n hx hb dX5_jumperAt_0 rfl (lv_at hl 1 rfl) ?_
  refine lv_if_lt (tgt := 18) hx hb dX5_jumperAt_1 (by decide) (fun hc => ?_) (fun hc => ?_)
  · have hP := mIf_t hP hc
    exact hb18 _ _ _ _ hM hS (lv_sub hl [] rfl) hP
  · have hP := mIf_f hP hc
    refine lv_iload_n hx hb dX5_jumperAt_4 rfl (lv_at hl 1 rfl) ?_
    refine lv_aload_n hx hb dX5_jumperAt_5 rfl (lv_at hl 0 rfl) ?_
    refine r_geti X hM hP fl_X5_15 dX5_jumperAt_6 (fun x1 hP => ?_)
    refine lv_icmp_ge (tgt := 18) hx hb dX5_jumperAt_9 (by decide) (fun hc => ?_) (fun hc => ?_)
    · have hP := mIf_t hP hc
      exact hb18 _ _ _ _ hM hS (lv_sub hl [] rfl) hP
    · have hP := mIf_f hP hc
      refine lv_iload_n hx hb dX5_jumperAt_12 rfl (lv_at hl 1 rfl) ?_
      refine lv_bipush (v := 8) hx hb dX5_jumperAt_13 (by decide) ?_
      refine lv_icmp_lt (tgt := 29) hx hb dX5_jumperAt_15 (by decide) (fun hc => ?_) (fun hc => ?_)
      · have hP := mIf_t hP hc
        refine lv_aload_n hx hb dX5_jumperAt_29 rfl (lv_at hl 0 rfl) ?_
        refine r_getr X hM hP fl_X5_11 dX5_jumperAt_30 (fun x2 hP => ?_)
        refine lv_iload_n hx hb dX5_jumperAt_33 rfl (lv_at hl 1 rfl) ?_
        refine r_ldq (t := 4) (fun _ => rfl) X hM hP dX5_jumperAt_34 (fun x3 hP => ?_)
        exact vy_ret (e_aret X hM hS (hk _ _ hP) hr (Or.inl ⟨_, rfl⟩) hlocks (by decide) (by decide) dX5_jumperAt_35)
      · have hP := mIf_f hP hc
        exact hb18 _ _ _ _ hM hS (lv_sub hl [] rfl) hP
def f_X5_holderOf_b2_body (K : Cfg) (k : Int32 → Mem → Prop) (QX : String → Mem → Prop) (lp2 : Nat → Int32 → Int32 → Mem → Prop) (v0 : Nat) (v1 : Int32) (v2 : Int32) : Mem → Prop :=
 mGetI v0 6 1 fun x1 =>
 mIf (x1 ≤ v2)
 (k (-1))
 (mRecv v0 6 <|
 f_X5_jumperAt K v0 v2 (fun r2 =>
 mGetI r2 3 2 fun x3 =>
 mIf (x3 = v1)
 (k v2)
 (lp2 v0 v1 (v2 + 1))) QX)
def f_X5_holderOf_b2 (K : Cfg) (k : Int32 → Mem → Prop) (QX : String → Mem → Prop) : Nat → Nat → Int32 → Int32 → Mem → Prop
  | 0 => fun _ _ _ _ => False
  | n + 1 => f_X5_holderOf_b2_body K k QX (f_X5_holderOf_b2 K k QX n)
def f_X5_holderOf (K : Cfg) (a0 : Nat) (a1 : Int32) (k : Int32 → Mem → Prop) (QX : String → Mem → Prop) : Mem → Prop :=
 f_X5_holderOf_b2 K k QX mFuel a0 a1 0
abbrev rm_X5_holderOf : Room := { frames := 7, cells := 1, slots := 6, locals := 103 }
set_option maxHeartbeats 4000000 in
set_option maxRecDepth 100000 in
theorem ct_X5_holderOf {K : Cfg} {l : Launch} (hst : l.stackTraces = false) (a0 : Nat) (a1 : Int32) : mXPi K l yX5_holderOf cX5_holderOf 3 (some .int) rm_X5_holderOf [.ref a0, .int a1] (f_X5_holderOf K a0 a1) := by
  refine mXPi.of hst (by decide +kernel) (Nat.le_of_ble_eq_true rfl) ?_
  intro M k Q QX hk hP p e s m below meth c X hr hlocks hno hM ls hl
  have hx := X.1.1
  have hb := X.1.2.1
  have X : Cx K p l s m ([.ref a0, .int a1] : List Value).toArray c cX5_holderOf 3 RX5 := X
  have hS : va_S (mFA K) s.heap s.heap [] := va_S.rf
  have hl : lv_has ls 3 [(0, .ref a0), (1, .int a1)] := hl
  have hb2 : ∀ (n2 : Nat) (v0 : Nat) (v1 : Int32) (v2 : Int32) (M : Mem) (H : Heap) (locs : List Loc) (ls : Array Slot), mh K M H → va_S (mFA K) s.heap H locs → lv_has ls 3 [(0, .ref v0), (1, .int v1), (2, .int v2)] → f_X5_holderOf_b2 K k QX n2 v0 v1 v2 M → W p l e rm_X5_holderOf s m ([.ref a0, .int a1] : List Value).toArray below meth c H locs 0 0 (vy_MQ below (mQ K Q) (mX K QX) ([.ref a0, .int a1] : List Value).toArray s 0 0 1 6 (mFA K)) (F0 m 2 ls []) := by
    intro n2
    induction n2 with
    | zero =>
      intro v0 v1 v2 M H locs ls hM hS hl hP
      exact hP.elim
    | succ n2 ih2 =>
      intro v0 v1 v2 M H locs ls hM hS hl hP
      have hP : f_X5_holderOf_b2_body K k QX (f_X5_holderOf_b2 K k QX n2) v0 v1 v2 M := hP
      unfold f_X5_holderOf_b2_body at hP
      refine lv_iload_n hx hb dX5_holderOf_2 rfl (lv_at hl 2 rfl) ?_
      refine lv_aload_n hx hb dX5_holderOf_3 rfl (lv_at hl 0 rfl) ?_
      refine r_geti X hM hP fl_X5_15 dX5_holderOf_4 (fun x1 hP => ?_)
      refine lv_icmp_ge (tgt := 30) hx hb dX5_holderOf_7 (by decide) (fun hc => ?_) (fun hc => ?_)
      · have hP := mIf_t hP hc
        refine lv_iconst (v := (-1)) hx hb dX5_holderOf_30 (by decide) ?_
        exact vy_ret (e_iret X hM hS (hk _ _ hP) hr hlocks (by decide) (by decide) dX5_holderOf_31)
      · have hP := mIf_f hP hc
        refine lv_aload_n hx hb dX5_holderOf_10 rfl (lv_at hl 0 rfl) ?_
        refine lv_iload_n hx hb dX5_holderOf_11 rfl (lv_at hl 2 rfl) ?_
        refine rx_callVr (rest := []) (T := TX5) (N := 18) X hM hS (ct_X5_jumperAt hst v0 v2) hP mV_X5_118 rfl rfl rfl hl.1 (Nat.le_of_ble_eq_true rfl) ⟨⟨by decide, by decide⟩, by decide, by decide⟩ dX5_holderOf_12 (x_out hno hlocks rfl rfl) (fun r2 M H locs hM hS hP => ?_)
        refine r_geti X hM hP fl_X5_131 dX5_holderOf_15 (fun x3 hP => ?_)
        refine lv_iload_n hx hb dX5_holderOf_18 rfl (lv_at hl 1 rfl) ?_
        refine lv_icmp_ne (tgt := 24) hx hb dX5_holderOf_19 (by decide) (fun hc => ?_) (fun hc => ?_)
        · have hP := mIf_f hP hc
          refine lv_iinc (v := v2 + 1) (lv' := [(2, .int (v2 + 1)), (0, .ref v0), (1, .int v1)]) hx hb dX5_holderOf_24 hl (k := 2) rfl rfl (by decide) rfl (fun ls hl => ?_)
          refine lv_goto (tgt := 2) hx hb dX5_holderOf_27 (by decide) ?_
          exact ih2 v0 v1 (v2 + 1) _ _ _ _ hM hS (lv_sub hl [1, 2, 0] rfl) hP
        · have hP := mIf_t hP hc
          refine lv_iload_n hx hb dX5_holderOf_22 rfl (lv_at hl 2 rfl) ?_
          exact vy_ret (e_iret X hM hS (hk _ _ hP) hr hlocks (by decide) (by decide) dX5_holderOf_23)
  unfold f_X5_holderOf at hP
  refine lv_iconst (v := 0) hx hb dX5_holderOf_0 (by decide) ?_
  refine lv_istore_n (lv' := [(2, .int 0), (0, .ref a0), (1, .int a1)]) hx hb dX5_holderOf_1 rfl hl (by decide) rfl (fun ls hl => ?_)
  exact hb2 mFuel a0 a1 0 _ _ _ _ hM hS (lv_sub hl [1, 2, 0] rfl) hP
def f_X5_order_b18 (K : Cfg) (k : Int32 → Mem → Prop) (QX : String → Mem → Prop) : Mem → Prop :=
 QX "java/lang/IndexOutOfBoundsException"
def f_X5_order (K : Cfg) (a0 : Nat) (a1 : Int32) (k : Int32 → Mem → Prop) (QX : String → Mem → Prop) : Mem → Prop :=
 mIf (a1 < 0)
 (f_X5_order_b18 K k QX)
 (mGetI a0 6 6 fun x1 =>
 mIf (x1 ≤ a1)
 (f_X5_order_b18 K k QX)
 (mIf (a1 < 6)
 (mGetR a0 6 5 fun x2 =>
 mLdI K x2 a1 fun x3 =>
 k x3)
 (f_X5_order_b18 K k QX)))
abbrev rm_X5_order : Room := { frames := 6, cells := 1, slots := 6, locals := 82 }
set_option maxHeartbeats 4000000 in
set_option maxRecDepth 100000 in
theorem ct_X5_order {K : Cfg} {l : Launch} (hst : l.stackTraces = false) (a0 : Nat) (a1 : Int32) : mXPi K l yX5_order cX5_order 2 (some .int) rm_X5_order [.ref a0, .int a1] (f_X5_order K a0 a1) := by
  refine mXPi.of hst (by decide +kernel) (Nat.le_of_ble_eq_true rfl) ?_
  intro M k Q QX hk hP p e s m below meth c X hr hlocks hno hM ls hl
  have hx := X.1.1
  have hb := X.1.2.1
  have X : Cx K p l s m ([.ref a0, .int a1] : List Value).toArray c cX5_order 2 RX5 := X
  have hS : va_S (mFA K) s.heap s.heap [] := va_S.rf
  have hl : lv_has ls 2 [(0, .ref a0), (1, .int a1)] := hl
  have hb18 : ∀ (M : Mem) (H : Heap) (locs : List Loc) (ls : Array Slot), mh K M H → va_S (mFA K) s.heap H locs → lv_has ls 2 [] → f_X5_order_b18 K k QX M → W p l e rm_X5_order s m ([.ref a0, .int a1] : List Value).toArray below meth c H locs 0 0 (vy_MQ below (mQ K Q) (mX K QX) ([.ref a0, .int a1] : List Value).toArray s 0 0 1 6 (mFA K)) (F0 m 18 ls []) := by
    intro M H locs ls hM hS hl hP
    unfold f_X5_order_b18 at hP
    exact e_throw X hM hS hP th_X5_240_242 hno hlocks hl.1 rfl rfl ⟨by decide, by decide, by decide, by decide⟩ dX5_order_18 dX5_order_21 dX5_order_22 dX5_order_24 dX5_order_27
  unfold f_X5_order at hP
  refine lv_iload_n hx hb dX5_order_0 rfl (lv_at hl 1 rfl) ?_
  refine lv_if_lt (tgt := 18) hx hb dX5_order_1 (by decide) (fun hc => ?_) (fun hc => ?_)
  · have hP := mIf_t hP hc
    exact hb18 _ _ _ _ hM hS (lv_sub hl [] rfl) hP
  · have hP := mIf_f hP hc
    refine lv_iload_n hx hb dX5_order_4 rfl (lv_at hl 1 rfl) ?_
    refine lv_aload_n hx hb dX5_order_5 rfl (lv_at hl 0 rfl) ?_
    refine r_geti X hM hP fl_X5_39 dX5_order_6 (fun x1 hP => ?_)
    refine lv_icmp_ge (tgt := 18) hx hb dX5_order_9 (by decide) (fun hc => ?_) (fun hc => ?_)
    · have hP := mIf_t hP hc
      exact hb18 _ _ _ _ hM hS (lv_sub hl [] rfl) hP
    · have hP := mIf_f hP hc
      refine lv_iload_n hx hb dX5_order_12 rfl (lv_at hl 1 rfl) ?_
      refine lv_bipush (v := 6) hx hb dX5_order_13 (by decide) ?_
      refine lv_icmp_lt (tgt := 28) hx hb dX5_order_15 (by decide) (fun hc => ?_) (fun hc => ?_)
      · have hP := mIf_t hP hc
        refine lv_aload_n hx hb dX5_order_28 rfl (lv_at hl 0 rfl) ?_
        refine r_getr X hM hP fl_X5_35 dX5_order_29 (fun x2 hP => ?_)
        refine lv_iload_n hx hb dX5_order_32 rfl (lv_at hl 1 rfl) ?_
        refine r_ldi X hM hP dX5_order_33 (fun x3 hP => ?_)
        exact vy_ret (e_iret X hM hS (hk _ _ hP) hr hlocks (by decide) (by decide) dX5_order_34)
      · have hP := mIf_f hP hc
        exact hb18 _ _ _ _ hM hS (lv_sub hl [] rfl) hP
def f_X5_placeOf_b2_body (K : Cfg) (k : Int32 → Mem → Prop) (QX : String → Mem → Prop) (lp2 : Nat → Int32 → Int32 → Mem → Prop) (v0 : Nat) (v1 : Int32) (v2 : Int32) : Mem → Prop :=
 mGetI v0 6 6 fun x1 =>
 mIf (x1 ≤ v2)
 (k (-1))
 (mRecv v0 6 <|
 f_X5_order K v0 v2 (fun r2 =>
 mIf (r2 = v1)
 (k v2)
 (lp2 v0 v1 (v2 + 1))) QX)
def f_X5_placeOf_b2 (K : Cfg) (k : Int32 → Mem → Prop) (QX : String → Mem → Prop) : Nat → Nat → Int32 → Int32 → Mem → Prop
  | 0 => fun _ _ _ _ => False
  | n + 1 => f_X5_placeOf_b2_body K k QX (f_X5_placeOf_b2 K k QX n)
def f_X5_placeOf (K : Cfg) (a0 : Nat) (a1 : Int32) (k : Int32 → Mem → Prop) (QX : String → Mem → Prop) : Mem → Prop :=
 f_X5_placeOf_b2 K k QX mFuel a0 a1 0
abbrev rm_X5_placeOf : Room := { frames := 7, cells := 1, slots := 6, locals := 103 }
set_option maxHeartbeats 4000000 in
set_option maxRecDepth 100000 in
theorem ct_X5_placeOf {K : Cfg} {l : Launch} (hst : l.stackTraces = false) (a0 : Nat) (a1 : Int32) : mXPi K l yX5_placeOf cX5_placeOf 3 (some .int) rm_X5_placeOf [.ref a0, .int a1] (f_X5_placeOf K a0 a1) := by
  refine mXPi.of hst (by decide +kernel) (Nat.le_of_ble_eq_true rfl) ?_
  intro M k Q QX hk hP p e s m below meth c X hr hlocks hno hM ls hl
  have hx := X.1.1
  have hb := X.1.2.1
  have X : Cx K p l s m ([.ref a0, .int a1] : List Value).toArray c cX5_placeOf 3 RX5 := X
  have hS : va_S (mFA K) s.heap s.heap [] := va_S.rf
  have hl : lv_has ls 3 [(0, .ref a0), (1, .int a1)] := hl
  have hb2 : ∀ (n2 : Nat) (v0 : Nat) (v1 : Int32) (v2 : Int32) (M : Mem) (H : Heap) (locs : List Loc) (ls : Array Slot), mh K M H → va_S (mFA K) s.heap H locs → lv_has ls 3 [(0, .ref v0), (1, .int v1), (2, .int v2)] → f_X5_placeOf_b2 K k QX n2 v0 v1 v2 M → W p l e rm_X5_placeOf s m ([.ref a0, .int a1] : List Value).toArray below meth c H locs 0 0 (vy_MQ below (mQ K Q) (mX K QX) ([.ref a0, .int a1] : List Value).toArray s 0 0 1 6 (mFA K)) (F0 m 2 ls []) := by
    intro n2
    induction n2 with
    | zero =>
      intro v0 v1 v2 M H locs ls hM hS hl hP
      exact hP.elim
    | succ n2 ih2 =>
      intro v0 v1 v2 M H locs ls hM hS hl hP
      have hP : f_X5_placeOf_b2_body K k QX (f_X5_placeOf_b2 K k QX n2) v0 v1 v2 M := hP
      unfold f_X5_placeOf_b2_body at hP
      refine lv_iload_n hx hb dX5_placeOf_2 rfl (lv_at hl 2 rfl) ?_
      refine lv_aload_n hx hb dX5_placeOf_3 rfl (lv_at hl 0 rfl) ?_
      refine r_geti X hM hP fl_X5_39 dX5_placeOf_4 (fun x1 hP => ?_)
      refine lv_icmp_ge (tgt := 27) hx hb dX5_placeOf_7 (by decide) (fun hc => ?_) (fun hc => ?_)
      · have hP := mIf_t hP hc
        refine lv_iconst (v := (-1)) hx hb dX5_placeOf_27 (by decide) ?_
        exact vy_ret (e_iret X hM hS (hk _ _ hP) hr hlocks (by decide) (by decide) dX5_placeOf_28)
      · have hP := mIf_f hP hc
        refine lv_aload_n hx hb dX5_placeOf_10 rfl (lv_at hl 0 rfl) ?_
        refine lv_iload_n hx hb dX5_placeOf_11 rfl (lv_at hl 2 rfl) ?_
        refine rx_callVi (rest := []) (T := TX5) (N := 18) X hM hS (ct_X5_order hst v0 v2) hP mV_X5_194 rfl rfl rfl hl.1 (Nat.le_of_ble_eq_true rfl) ⟨⟨by decide, by decide⟩, by decide, by decide⟩ dX5_placeOf_12 (x_out hno hlocks rfl rfl) (fun r2 M H locs hM hS hP => ?_)
        refine lv_iload_n hx hb dX5_placeOf_15 rfl (lv_at hl 1 rfl) ?_
        refine lv_icmp_ne (tgt := 21) hx hb dX5_placeOf_16 (by decide) (fun hc => ?_) (fun hc => ?_)
        · have hP := mIf_f hP hc
          refine lv_iinc (v := v2 + 1) (lv' := [(2, .int (v2 + 1)), (0, .ref v0), (1, .int v1)]) hx hb dX5_placeOf_21 hl (k := 2) rfl rfl (by decide) rfl (fun ls hl => ?_)
          refine lv_goto (tgt := 2) hx hb dX5_placeOf_24 (by decide) ?_
          exact ih2 v0 v1 (v2 + 1) _ _ _ _ hM hS (lv_sub hl [1, 2, 0] rfl) hP
        · have hP := mIf_t hP hc
          refine lv_iload_n hx hb dX5_placeOf_19 rfl (lv_at hl 2 rfl) ?_
          exact vy_ret (e_iret X hM hS (hk _ _ hP) hr hlocks (by decide) (by decide) dX5_placeOf_20)
  unfold f_X5_placeOf at hP
  refine lv_iconst (v := 0) hx hb dX5_placeOf_0 (by decide) ?_
  refine lv_istore_n (lv' := [(2, .int 0), (0, .ref a0), (1, .int a1)]) hx hb dX5_placeOf_1 rfl hl (by decide) rfl (fun ls hl => ?_)
  exact hb2 mFuel a0 a1 0 _ _ _ _ hM hS (lv_sub hl [1, 2, 0] rfl) hP
def f_X5_lend_b64 (K : Cfg) (k : Int32 → Mem → Prop) (QX : String → Mem → Prop) (v1 : Int32) (v3 : Nat) (v4 : Int32) : Mem → Prop :=
 mPut v3 3 2 (.int v1) <|
 k v4
def f_X5_lend_b38 (K : Cfg) (k : Int32 → Mem → Prop) (QX : String → Mem → Prop) : Mem → Prop :=
 QX "java/lang/IllegalStateException"
def f_X5_lend (K : Cfg) (a0 : Nat) (a1 : Int32) (a2 : Int32) (k : Int32 → Mem → Prop) (QX : String → Mem → Prop) : Mem → Prop :=
 mRecv a0 6 <|
 f_X5_rigAt K a0 a1 (fun r1 =>
 mRecv a0 6 <|
 f_X5_jumperAt K a0 a2 (fun r2 =>
 mRecv a0 6 <|
 f_X5_holderOf K a0 a1 (fun r3 =>
 mRecv a0 6 <|
 f_X5_placeOf K a0 a2 (fun r4 =>
 mIf (r4 = (-1))
 (mRecv a0 6 <|
 f_X5_placeOf K a0 r3 (fun r5 =>
 mIf (r5 = (-1))
 (mIf (r3 = (-1))
 (f_X5_lend_b64 K k QX a1 r2 r3)
 (mRecv a0 6 <|
 f_X5_jumperAt K a0 r3 (fun r6 =>
 mPut r6 3 2 (.int (-1)) <|
 f_X5_lend_b64 K k QX a1 r2 r3) QX))
 (f_X5_lend_b38 K k QX)) QX)
 (f_X5_lend_b38 K k QX)) QX) QX) QX) QX
abbrev rm_X5_lend : Room := { frames := 8, cells := 1, slots := 6, locals := 125 }
set_option maxHeartbeats 4000000 in
set_option maxRecDepth 100000 in
theorem ct_X5_lend {K : Cfg} {l : Launch} (hst : l.stackTraces = false) (a0 : Nat) (a1 : Int32) (a2 : Int32) : mXPi K l yX5_lend cX5_lend 5 (some .int) rm_X5_lend [.ref a0, .int a1, .int a2] (f_X5_lend K a0 a1 a2) := by
  refine mXPi.of hst (by decide +kernel) (Nat.le_of_ble_eq_true rfl) ?_
  intro M k Q QX hk hP p e s m below meth c X hr hlocks hno hM ls hl
  have hx := X.1.1
  have hb := X.1.2.1
  have X : Cx K p l s m ([.ref a0, .int a1, .int a2] : List Value).toArray c cX5_lend 5 RX5 := X
  have hS : va_S (mFA K) s.heap s.heap [] := va_S.rf
  have hl : lv_has ls 5 [(0, .ref a0), (1, .int a1), (2, .int a2)] := hl
  have hb64 : ∀ (v1 : Int32) (v3 : Nat) (v4 : Int32) (M : Mem) (H : Heap) (locs : List Loc) (ls : Array Slot), mh K M H → va_S (mFA K) s.heap H locs → lv_has ls 5 [(1, .int v1), (3, .ref v3), (4, .int v4)] → f_X5_lend_b64 K k QX v1 v3 v4 M → W p l e rm_X5_lend s m ([.ref a0, .int a1, .int a2] : List Value).toArray below meth c H locs 0 0 (vy_MQ below (mQ K Q) (mX K QX) ([.ref a0, .int a1, .int a2] : List Value).toArray s 0 0 1 6 (mFA K)) (F0 m 64 ls []) := by
    intro v1 v3 v4 M H locs ls hM hS hl hP
    unfold f_X5_lend_b64 at hP
    refine lv_aload_n hx hb dX5_lend_64 rfl (lv_at hl 1 rfl) ?_
    refine lv_iload_n hx hb dX5_lend_65 rfl (lv_at hl 0 rfl) ?_
    refine r_put X hM hS hP fl_X5_131 ft_X2 rfl (tyX2_ok 2 (Nat.le_of_ble_eq_true rfl)) rfl rfl dX5_lend_66 (fun M H locs hM hS hP => ?_)
    refine lv_iload hx hb dX5_lend_69 (lv_at hl 2 rfl) ?_
    exact vy_ret (e_iret X hM hS (hk _ _ hP) hr hlocks (by decide) (by decide) dX5_lend_71)
  have hb38 : ∀ (M : Mem) (H : Heap) (locs : List Loc) (ls : Array Slot), mh K M H → va_S (mFA K) s.heap H locs → lv_has ls 5 [] → f_X5_lend_b38 K k QX M → W p l e rm_X5_lend s m ([.ref a0, .int a1, .int a2] : List Value).toArray below meth c H locs 0 0 (vy_MQ below (mQ K Q) (mX K QX) ([.ref a0, .int a1, .int a2] : List Value).toArray s 0 0 1 6 (mFA K)) (F0 m 38 ls []) := by
    intro M H locs ls hM hS hl hP
    unfold f_X5_lend_b38 at hP
    exact e_throw X hM hS hP th_X5_90_129 hno hlocks hl.1 rfl rfl ⟨by decide, by decide, by decide, by decide⟩ dX5_lend_38 dX5_lend_41 dX5_lend_42 dX5_lend_44 dX5_lend_47
  unfold f_X5_lend at hP
  refine lv_aload_n hx hb dX5_lend_0 rfl (lv_at hl 0 rfl) ?_
  refine lv_iload_n hx hb dX5_lend_1 rfl (lv_at hl 1 rfl) ?_
  refine rx_callVr (rest := []) (T := TX5) (N := 18) X hM hS (ct_X5_rigAt hst a0 a1) hP mV_X5_114 rfl rfl rfl hl.1 (Nat.le_of_ble_eq_true rfl) ⟨⟨by decide, by decide⟩, by decide, by decide⟩ dX5_lend_2 (x_out hno hlocks rfl rfl) (fun r1 M H locs hM hS hP => ?_)
  refine lv_pop hx hb dX5_lend_5 rfl ?_
  refine lv_aload_n hx hb dX5_lend_6 rfl (lv_at hl 0 rfl) ?_
  refine lv_iload_n hx hb dX5_lend_7 rfl (lv_at hl 2 rfl) ?_
  refine rx_callVr (rest := []) (T := TX5) (N := 18) X hM hS (ct_X5_jumperAt hst a0 a2) hP mV_X5_118 rfl rfl rfl hl.1 (Nat.le_of_ble_eq_true rfl) ⟨⟨by decide, by decide⟩, by decide, by decide⟩ dX5_lend_8 (x_out hno hlocks rfl rfl) (fun r2 M H locs hM hS hP => ?_)
  refine lv_astore_n (lv' := [(3, .ref r2), (0, .ref a0), (1, .int a1), (2, .int a2)]) hx hb dX5_lend_11 rfl hl (by decide) rfl (fun ls hl => ?_)
  refine lv_aload_n hx hb dX5_lend_12 rfl (lv_at hl 1 rfl) ?_
  refine lv_iload_n hx hb dX5_lend_13 rfl (lv_at hl 2 rfl) ?_
  refine rx_callVi (rest := []) (T := TX5) (N := 18) X hM hS (ct_X5_holderOf hst a0 a1) hP mV_X5_122 rfl rfl rfl hl.1 (Nat.le_of_ble_eq_true rfl) ⟨⟨by decide, by decide⟩, by decide, by decide⟩ dX5_lend_14 (x_out hno hlocks rfl rfl) (fun r3 M H locs hM hS hP => ?_)
  refine lv_istore (lv' := [(4, .int r3), (3, .ref r2), (0, .ref a0), (1, .int a1), (2, .int a2)]) hx hb dX5_lend_17 hl (by decide) rfl (fun ls hl => ?_)
  refine lv_aload_n hx hb dX5_lend_19 rfl (lv_at hl 2 rfl) ?_
  refine lv_iload_n hx hb dX5_lend_20 rfl (lv_at hl 4 rfl) ?_
  refine rx_callVi (rest := []) (T := TX5) (N := 18) X hM hS (ct_X5_placeOf hst a0 a2) hP mV_X5_126 rfl rfl rfl hl.1 (Nat.le_of_ble_eq_true rfl) ⟨⟨by decide, by decide⟩, by decide, by decide⟩ dX5_lend_21 (x_out hno hlocks rfl rfl) (fun r4 M H locs hM hS hP => ?_)
  refine lv_iconst (v := (-1)) hx hb dX5_lend_24 (by decide) ?_
  refine lv_icmp_ne (tgt := 38) hx hb dX5_lend_25 (by decide) (fun hc => ?_) (fun hc => ?_)
  · have hP := mIf_f hP hc
    exact hb38 _ _ _ _ hM hS (lv_sub hl [] rfl) hP
  · have hP := mIf_t hP hc
    refine lv_aload_n hx hb dX5_lend_28 rfl (lv_at hl 2 rfl) ?_
    refine lv_iload hx hb dX5_lend_29 (lv_at hl 0 rfl) ?_
    refine rx_callVi (rest := []) (T := TX5) (N := 18) X hM hS (ct_X5_placeOf hst a0 r3) hP mV_X5_126 rfl rfl rfl hl.1 (Nat.le_of_ble_eq_true rfl) ⟨⟨by decide, by decide⟩, by decide, by decide⟩ dX5_lend_31 (x_out hno hlocks rfl rfl) (fun r5 M H locs hM hS hP => ?_)
    refine lv_iconst (v := (-1)) hx hb dX5_lend_34 (by decide) ?_
    refine lv_icmp_eq (tgt := 48) hx hb dX5_lend_35 (by decide) (fun hc => ?_) (fun hc => ?_)
    · have hP := mIf_t hP hc
      refine lv_iload hx hb dX5_lend_48 (lv_at hl 0 rfl) ?_
      refine lv_iconst (v := (-1)) hx hb dX5_lend_50 (by decide) ?_
      refine lv_icmp_eq (tgt := 64) hx hb dX5_lend_51 (by decide) (fun hc => ?_) (fun hc => ?_)
      · have hP := mIf_t hP hc
        exact hb64 a1 r2 r3 _ _ _ _ hM hS (lv_sub hl [3, 1, 0] rfl) hP
      · have hP := mIf_f hP hc
        refine lv_aload_n hx hb dX5_lend_54 rfl (lv_at hl 2 rfl) ?_
        refine lv_iload hx hb dX5_lend_55 (lv_at hl 0 rfl) ?_
        refine rx_callVr (rest := []) (T := TX5) (N := 18) X hM hS (ct_X5_jumperAt hst a0 r3) hP mV_X5_118 rfl rfl rfl hl.1 (Nat.le_of_ble_eq_true rfl) ⟨⟨by decide, by decide⟩, by decide, by decide⟩ dX5_lend_57 (x_out hno hlocks rfl rfl) (fun r6 M H locs hM hS hP => ?_)
        refine lv_iconst (v := (-1)) hx hb dX5_lend_60 (by decide) ?_
        refine r_put X hM hS hP fl_X5_131 ft_X2 rfl (tyX2_ok 2 (Nat.le_of_ble_eq_true rfl)) rfl rfl dX5_lend_61 (fun M H locs hM hS hP => ?_)
        exact hb64 a1 r2 r3 _ _ _ _ hM hS (lv_sub hl [3, 1, 0] rfl) hP
    · have hP := mIf_f hP hc
      exact hb38 _ _ _ _ hM hS (lv_sub hl [] rfl) hP
def f_X5_pack (K : Cfg) (a0 : Nat) (a1 : Int32) (a2 : Int32) (k : Int32 → Mem → Prop) (QX : String → Mem → Prop) : Mem → Prop :=
 mRecv a0 6 <|
 f_X5_rigAt K a0 a1 (fun r1 =>
 mRecv a0 6 <|
 f_X5_jumperAt K a0 a2 (fun r2 =>
 mGetI r1 4 3 fun x3 =>
 mIf (x3 = 0)
 (mGetI r2 3 6 fun x4 =>
 f_J9_max_7cf53 K 0 (9 - x4) (fun r5 =>
 mPut r1 4 2 (.int r5) <|
 mPutZ r1 4 3 1 <|
 mGetI r2 3 6 fun x6 =>
 mPut r2 3 6 (.int (x6 + 1)) <|
 mGetI r1 4 2 fun x7 =>
 k x7))
 (QX "java/lang/IllegalStateException")) QX) QX
abbrev rm_X5_pack : Room := { frames := 7, cells := 1, slots := 6, locals := 103 }
set_option maxHeartbeats 4000000 in
set_option maxRecDepth 100000 in
theorem ct_X5_pack {K : Cfg} {l : Launch} (hst : l.stackTraces = false) (a0 : Nat) (a1 : Int32) (a2 : Int32) : mXPi K l yX5_pack cX5_pack 5 (some .int) rm_X5_pack [.ref a0, .int a1, .int a2] (f_X5_pack K a0 a1 a2) := by
  refine mXPi.of hst (by decide +kernel) (Nat.le_of_ble_eq_true rfl) ?_
  intro M k Q QX hk hP p e s m below meth c X hr hlocks hno hM ls hl
  have hx := X.1.1
  have hb := X.1.2.1
  have X : Cx K p l s m ([.ref a0, .int a1, .int a2] : List Value).toArray c cX5_pack 5 RX5 := X
  have hS : va_S (mFA K) s.heap s.heap [] := va_S.rf
  have hl : lv_has ls 5 [(0, .ref a0), (1, .int a1), (2, .int a2)] := hl
  unfold f_X5_pack at hP
  refine lv_aload_n hx hb dX5_pack_0 rfl (lv_at hl 0 rfl) ?_
  refine lv_iload_n hx hb dX5_pack_1 rfl (lv_at hl 1 rfl) ?_
  refine rx_callVr (rest := []) (T := TX5) (N := 18) X hM hS (ct_X5_rigAt hst a0 a1) hP mV_X5_114 rfl rfl rfl hl.1 (Nat.le_of_ble_eq_true rfl) ⟨⟨by decide, by decide⟩, by decide, by decide⟩ dX5_pack_2 (x_out hno hlocks rfl rfl) (fun r1 M H locs hM hS hP => ?_)
  refine lv_astore_n (lv' := [(3, .ref r1), (0, .ref a0), (1, .int a1), (2, .int a2)]) hx hb dX5_pack_5 rfl hl (by decide) rfl (fun ls hl => ?_)
  refine lv_aload_n hx hb dX5_pack_6 rfl (lv_at hl 1 rfl) ?_
  refine lv_iload_n hx hb dX5_pack_7 rfl (lv_at hl 3 rfl) ?_
  refine rx_callVr (rest := []) (T := TX5) (N := 18) X hM hS (ct_X5_jumperAt hst a0 a2) hP mV_X5_118 rfl rfl rfl hl.1 (Nat.le_of_ble_eq_true rfl) ⟨⟨by decide, by decide⟩, by decide, by decide⟩ dX5_pack_8 (x_out hno hlocks rfl rfl) (fun r2 M H locs hM hS hP => ?_)
  refine lv_astore (lv' := [(4, .ref r2), (3, .ref r1), (0, .ref a0), (1, .int a1), (2, .int a2)]) hx hb dX5_pack_11 hl (by decide) rfl (fun ls hl => ?_)
  refine lv_aload_n hx hb dX5_pack_13 rfl (lv_at hl 1 rfl) ?_
  refine r_geti X hM hP fl_X5_134 dX5_pack_14 (fun x3 hP => ?_)
  refine lv_if_eq (tgt := 30) hx hb dX5_pack_17 (by decide) (fun hc => ?_) (fun hc => ?_)
  · have hP := mIf_t hP hc
    refine lv_aload_n hx hb dX5_pack_30 rfl (lv_at hl 1 rfl) ?_
    refine lv_iconst (v := 0) hx hb dX5_pack_31 (by decide) ?_
    refine lv_bipush (v := 9) hx hb dX5_pack_32 (by decide) ?_
    refine lv_aload hx hb dX5_pack_34 (lv_at hl 0 rfl) ?_
    refine r_geti X hM hP fl_X5_139 dX5_pack_36 (fun x4 hP => ?_)
    refine lv_isub hx hb dX5_pack_39 ?_
    refine r_callSi (rest := [.ref r1]) X hM hS (ct_J9_max_7cf53 hst 0 (9 - x4)) hP mS_X5_142 rfl rfl hl.1 (Nat.le_of_ble_eq_true rfl) ⟨⟨by decide, by decide⟩, ⟨by decide, by decide⟩⟩ dX5_pack_40 (fun r5 M H locs hM hS hP => ?_)
    refine r_put X hM hS hP fl_X5_148 ft_X3 rfl (tyX3_ok 2 (Nat.le_of_ble_eq_true rfl)) rfl rfl dX5_pack_43 (fun M H locs hM hS hP => ?_)
    refine lv_aload_n hx hb dX5_pack_46 rfl (lv_at hl 1 rfl) ?_
    refine lv_iconst (v := 1) hx hb dX5_pack_47 (by decide) ?_
    refine r_putz X hM hS hP fl_X5_134 ft_X3 rfl (tyX3_ok 3 (Nat.le_of_ble_eq_true rfl)) dX5_pack_48 (fun M H locs hM hS hP => ?_)
    refine lv_aload hx hb dX5_pack_51 (lv_at hl 0 rfl) ?_
    refine lv_dup hx hb dX5_pack_53 rfl ?_
    refine r_geti X hM hP fl_X5_139 dX5_pack_54 (fun x6 hP => ?_)
    refine lv_iconst (v := 1) hx hb dX5_pack_57 (by decide) ?_
    refine lv_iadd hx hb dX5_pack_58 ?_
    refine r_put X hM hS hP fl_X5_139 ft_X2 rfl (tyX2_ok 6 (Nat.le_of_ble_eq_true rfl)) rfl rfl dX5_pack_59 (fun M H locs hM hS hP => ?_)
    refine lv_aload_n hx hb dX5_pack_62 rfl (lv_at hl 1 rfl) ?_
    refine r_geti X hM hP fl_X5_148 dX5_pack_63 (fun x7 hP => ?_)
    exact vy_ret (e_iret X hM hS (hk _ _ hP) hr hlocks (by decide) (by decide) dX5_pack_66)
  · have hP := mIf_f hP hc
    exact e_throw X hM hS hP th_X5_90_137 hno hlocks hl.1 rfl rfl ⟨by decide, by decide, by decide, by decide⟩ dX5_pack_20 dX5_pack_23 dX5_pack_24 dX5_pack_26 dX5_pack_29
def f_X5_renew (K : Cfg) (a0 : Nat) (a1 : Int32) (k : Int32 → Mem → Prop) (QX : String → Mem → Prop) : Mem → Prop :=
 mRecv a0 6 <|
 f_X5_rigAt K a0 a1 (fun r1 =>
 mGetI a0 6 10 fun x2 =>
 mPut r1 4 1 (.int (x2 + 60)) <|
 mGetI r1 4 1 fun x3 =>
 k x3) QX
abbrev rm_X5_renew : Room := { frames := 7, cells := 1, slots := 6, locals := 103 }
set_option maxHeartbeats 4000000 in
set_option maxRecDepth 100000 in
theorem ct_X5_renew {K : Cfg} {l : Launch} (hst : l.stackTraces = false) (a0 : Nat) (a1 : Int32) : mXPi K l yX5_renew cX5_renew 3 (some .int) rm_X5_renew [.ref a0, .int a1] (f_X5_renew K a0 a1) := by
  refine mXPi.of hst (by decide +kernel) (Nat.le_of_ble_eq_true rfl) ?_
  intro M k Q QX hk hP p e s m below meth c X hr hlocks hno hM ls hl
  have hx := X.1.1
  have hb := X.1.2.1
  have X : Cx K p l s m ([.ref a0, .int a1] : List Value).toArray c cX5_renew 3 RX5 := X
  have hS : va_S (mFA K) s.heap s.heap [] := va_S.rf
  have hl : lv_has ls 3 [(0, .ref a0), (1, .int a1)] := hl
  unfold f_X5_renew at hP
  refine lv_aload_n hx hb dX5_renew_0 rfl (lv_at hl 0 rfl) ?_
  refine lv_iload_n hx hb dX5_renew_1 rfl (lv_at hl 1 rfl) ?_
  refine rx_callVr (rest := []) (T := TX5) (N := 18) X hM hS (ct_X5_rigAt hst a0 a1) hP mV_X5_114 rfl rfl rfl hl.1 (Nat.le_of_ble_eq_true rfl) ⟨⟨by decide, by decide⟩, by decide, by decide⟩ dX5_renew_2 (x_out hno hlocks rfl rfl) (fun r1 M H locs hM hS hP => ?_)
  refine lv_astore_n (lv' := [(2, .ref r1), (0, .ref a0), (1, .int a1)]) hx hb dX5_renew_5 rfl hl (by decide) rfl (fun ls hl => ?_)
  refine lv_aload_n hx hb dX5_renew_6 rfl (lv_at hl 0 rfl) ?_
  refine lv_aload_n hx hb dX5_renew_7 rfl (lv_at hl 1 rfl) ?_
  refine r_geti X hM hP fl_X5_60 dX5_renew_8 (fun x2 hP => ?_)
  refine lv_bipush (v := 60) hx hb dX5_renew_11 (by decide) ?_
  refine lv_iadd hx hb dX5_renew_13 ?_
  refine r_put X hM hS hP fl_X5_111 ft_X3 rfl (tyX3_ok 1 (Nat.le_of_ble_eq_true rfl)) rfl rfl dX5_renew_14 (fun M H locs hM hS hP => ?_)
  refine lv_aload_n hx hb dX5_renew_17 rfl (lv_at hl 0 rfl) ?_
  refine r_geti X hM hP fl_X5_111 dX5_renew_18 (fun x3 hP => ?_)
  exact vy_ret (e_iret X hM hS (hk _ _ hP) hr hlocks (by decide) (by decide) dX5_renew_21)
def f_X5_pass_b48_body (K : Cfg) (k : Int32 → Mem → Prop) (QX : String → Mem → Prop) (lp48 : Nat → Int32 → Mem → Prop) (v0 : Nat) (v2 : Int32) : Mem → Prop :=
 mGetI v0 6 1 fun x1 =>
 mIf (x1 ≤ v2)
 (mGetI v0 6 10 fun x2 =>
 k x2)
 (mRecv v0 6 <|
 f_X5_jumperAt K v0 v2 (fun r3 =>
 mPut r3 3 6 (.int 0) <|
 lp48 v0 (v2 + 1)) QX)
def f_X5_pass_b48 (K : Cfg) (k : Int32 → Mem → Prop) (QX : String → Mem → Prop) : Nat → Nat → Int32 → Mem → Prop
  | 0 => fun _ _ _ => False
  | n + 1 => f_X5_pass_b48_body K k QX (f_X5_pass_b48 K k QX n)
def f_X5_pass_b26 (K : Cfg) (k : Int32 → Mem → Prop) (QX : String → Mem → Prop) : Mem → Prop :=
 QX "java/lang/IllegalStateException"
def f_X5_pass (K : Cfg) (a0 : Nat) (a1 : Int32) (k : Int32 → Mem → Prop) (QX : String → Mem → Prop) : Mem → Prop :=
 f_X5_checkArgument K a1 1 90 (
 mGetI a0 6 10 fun x2 =>
 mIf (500 < (x2 + a1))
 (f_X5_pass_b26 K k QX)
 (mGetI a0 6 6 fun x3 =>
 mIf (x3 ≤ 0)
 (mGetI a0 6 10 fun x4 =>
 mPut a0 6 10 (.int (x4 + a1)) <|
 f_X5_pass_b48 K k QX mFuel a0 0)
 (f_X5_pass_b26 K k QX))) QX
abbrev rm_X5_pass : Room := { frames := 7, cells := 1, slots := 6, locals := 104 }
set_option maxHeartbeats 4000000 in
set_option maxRecDepth 100000 in
theorem ct_X5_pass {K : Cfg} {l : Launch} (hst : l.stackTraces = false) (a0 : Nat) (a1 : Int32) : mXPi K l yX5_pass cX5_pass 3 (some .int) rm_X5_pass [.ref a0, .int a1] (f_X5_pass K a0 a1) := by
  refine mXPi.of hst (by decide +kernel) (Nat.le_of_ble_eq_true rfl) ?_
  intro M k Q QX hk hP p e s m below meth c X hr hlocks hno hM ls hl
  have hx := X.1.1
  have hb := X.1.2.1
  have X : Cx K p l s m ([.ref a0, .int a1] : List Value).toArray c cX5_pass 3 RX5 := X
  have hS : va_S (mFA K) s.heap s.heap [] := va_S.rf
  have hl : lv_has ls 3 [(0, .ref a0), (1, .int a1)] := hl
  have hb48 : ∀ (n48 : Nat) (v0 : Nat) (v2 : Int32) (M : Mem) (H : Heap) (locs : List Loc) (ls : Array Slot), mh K M H → va_S (mFA K) s.heap H locs → lv_has ls 3 [(0, .ref v0), (2, .int v2)] → f_X5_pass_b48 K k QX n48 v0 v2 M → W p l e rm_X5_pass s m ([.ref a0, .int a1] : List Value).toArray below meth c H locs 0 0 (vy_MQ below (mQ K Q) (mX K QX) ([.ref a0, .int a1] : List Value).toArray s 0 0 1 6 (mFA K)) (F0 m 48 ls []) := by
    intro n48
    induction n48 with
    | zero =>
      intro v0 v2 M H locs ls hM hS hl hP
      exact hP.elim
    | succ n48 ih48 =>
      intro v0 v2 M H locs ls hM hS hl hP
      have hP : f_X5_pass_b48_body K k QX (f_X5_pass_b48 K k QX n48) v0 v2 M := hP
      unfold f_X5_pass_b48_body at hP
      refine lv_iload_n hx hb dX5_pass_48 rfl (lv_at hl 1 rfl) ?_
      refine lv_aload_n hx hb dX5_pass_49 rfl (lv_at hl 0 rfl) ?_
      refine r_geti X hM hP fl_X5_15 dX5_pass_50 (fun x1 hP => ?_)
      refine lv_icmp_ge (tgt := 71) hx hb dX5_pass_53 (by decide) (fun hc => ?_) (fun hc => ?_)
      · have hP := mIf_t hP hc
        refine lv_aload_n hx hb dX5_pass_71 rfl (lv_at hl 0 rfl) ?_
        refine r_geti X hM hP fl_X5_60 dX5_pass_72 (fun x2 hP => ?_)
        exact vy_ret (e_iret X hM hS (hk _ _ hP) hr hlocks (by decide) (by decide) dX5_pass_75)
      · have hP := mIf_f hP hc
        refine lv_aload_n hx hb dX5_pass_56 rfl (lv_at hl 0 rfl) ?_
        refine lv_iload_n hx hb dX5_pass_57 rfl (lv_at hl 1 rfl) ?_
        refine rx_callVr (rest := []) (T := TX5) (N := 18) X hM hS (ct_X5_jumperAt hst v0 v2) hP mV_X5_118 rfl rfl rfl hl.1 (Nat.le_of_ble_eq_true rfl) ⟨⟨by decide, by decide⟩, by decide, by decide⟩ dX5_pass_58 (x_out hno hlocks rfl rfl) (fun r3 M H locs hM hS hP => ?_)
        refine lv_iconst (v := 0) hx hb dX5_pass_61 (by decide) ?_
        refine r_put X hM hS hP fl_X5_139 ft_X2 rfl (tyX2_ok 6 (Nat.le_of_ble_eq_true rfl)) rfl rfl dX5_pass_62 (fun M H locs hM hS hP => ?_)
        refine lv_iinc (v := v2 + 1) (lv' := [(2, .int (v2 + 1)), (0, .ref v0)]) hx hb dX5_pass_65 hl (k := 1) rfl rfl (by decide) rfl (fun ls hl => ?_)
        refine lv_goto (tgt := 48) hx hb dX5_pass_68 (by decide) ?_
        exact ih48 v0 (v2 + 1) _ _ _ _ hM hS (lv_sub hl [1, 0] rfl) hP
  have hb26 : ∀ (M : Mem) (H : Heap) (locs : List Loc) (ls : Array Slot), mh K M H → va_S (mFA K) s.heap H locs → lv_has ls 3 [] → f_X5_pass_b26 K k QX M → W p l e rm_X5_pass s m ([.ref a0, .int a1] : List Value).toArray below meth c H locs 0 0 (vy_MQ below (mQ K Q) (mX K QX) ([.ref a0, .int a1] : List Value).toArray s 0 0 1 6 (mFA K)) (F0 m 26 ls []) := by
    intro M H locs ls hM hS hl hP
    unfold f_X5_pass_b26 at hP
    exact e_throw X hM hS hP th_X5_90_151 hno hlocks hl.1 rfl rfl ⟨by decide, by decide, by decide, by decide⟩ dX5_pass_26 dX5_pass_29 dX5_pass_30 dX5_pass_32 dX5_pass_35
  unfold f_X5_pass at hP
  refine lv_iload_n hx hb dX5_pass_0 rfl (lv_at hl 1 rfl) ?_
  refine lv_iconst (v := 1) hx hb dX5_pass_1 (by decide) ?_
  refine lv_bipush (v := 90) hx hb dX5_pass_2 (by decide) ?_
  refine rx_callSv (rest := []) X hM hS (ct_X5_checkArgument hst a1 1 90) hP mS_X5_86 rfl rfl hl.1 (Nat.le_of_ble_eq_true rfl) ⟨⟨by decide, by decide⟩, by decide, by decide⟩ dX5_pass_4 (x_out hno hlocks rfl rfl) (fun M H locs hM hS hP => ?_)
  refine lv_aload_n hx hb dX5_pass_7 rfl (lv_at hl 0 rfl) ?_
  refine r_geti X hM hP fl_X5_60 dX5_pass_8 (fun x2 hP => ?_)
  refine lv_iload_n hx hb dX5_pass_11 rfl (lv_at hl 1 rfl) ?_
  refine lv_iadd hx hb dX5_pass_12 ?_
  refine lv_sipush (v := 500) hx hb dX5_pass_13 (by decide) ?_
  refine lv_icmp_gt (tgt := 26) hx hb dX5_pass_16 (by decide) (fun hc => ?_) (fun hc => ?_)
  · have hP := mIf_t hP hc
    exact hb26 _ _ _ _ hM hS (lv_sub hl [] rfl) hP
  · have hP := mIf_f hP hc
    refine lv_aload_n hx hb dX5_pass_19 rfl (lv_at hl 0 rfl) ?_
    refine r_geti X hM hP fl_X5_39 dX5_pass_20 (fun x3 hP => ?_)
    refine lv_if_le (tgt := 36) hx hb dX5_pass_23 (by decide) (fun hc => ?_) (fun hc => ?_)
    · have hP := mIf_t hP hc
      refine lv_aload_n hx hb dX5_pass_36 rfl (lv_at hl 0 rfl) ?_
      refine lv_dup hx hb dX5_pass_37 rfl ?_
      refine r_geti X hM hP fl_X5_60 dX5_pass_38 (fun x4 hP => ?_)
      refine lv_iload_n hx hb dX5_pass_41 rfl (lv_at hl 1 rfl) ?_
      refine lv_iadd hx hb dX5_pass_42 ?_
      refine r_put X hM hS hP fl_X5_60 ft_X5 rfl (tyX5_ok 10 (Nat.le_of_ble_eq_true rfl)) rfl rfl dX5_pass_43 (fun M H locs hM hS hP => ?_)
      refine lv_iconst (v := 0) hx hb dX5_pass_46 (by decide) ?_
      refine lv_istore_n (lv' := [(2, .int 0), (0, .ref a0), (1, .int a1)]) hx hb dX5_pass_47 rfl hl (by decide) rfl (fun ls hl => ?_)
      exact hb48 mFuel a0 0 _ _ _ _ hM hS (lv_sub hl [1, 0] rfl) hP
    · have hP := mIf_f hP hc
      exact hb26 _ _ _ _ hM hS (lv_sub hl [] rfl) hP
def f_X5_checkLayer_b10 (K : Cfg) (k : Mem → Prop) (QX : String → Mem → Prop) : Mem → Prop :=
 QX "java/lang/IndexOutOfBoundsException"
def f_X5_checkLayer (K : Cfg) (a0 : Int32) (k : Mem → Prop) (QX : String → Mem → Prop) : Mem → Prop :=
 mIf (a0 < 0)
 (f_X5_checkLayer_b10 K k QX)
 (mIf (a0 < 10)
 (k)
 (f_X5_checkLayer_b10 K k QX))
abbrev rm_X5_checkLayer : Room := { frames := 6, cells := 1, slots := 6, locals := 82 }
set_option maxHeartbeats 4000000 in
set_option maxRecDepth 100000 in
theorem ct_X5_checkLayer {K : Cfg} {l : Launch} (hst : l.stackTraces = false) (a0 : Int32) : mXPv K l yX5_checkLayer cX5_checkLayer 1 none rm_X5_checkLayer [.int a0] (f_X5_checkLayer K a0) := by
  refine mXPv.of hst (by decide +kernel) (Nat.le_of_ble_eq_true rfl) ?_
  intro M k Q QX hk hP p e s m below meth c X hr hlocks hno hM ls hl
  have hx := X.1.1
  have hb := X.1.2.1
  have X : Cx K p l s m ([.int a0] : List Value).toArray c cX5_checkLayer 1 RX5 := X
  have hS : va_S (mFA K) s.heap s.heap [] := va_S.rf
  have hl : lv_has ls 1 [(0, .int a0)] := hl
  have hb10 : ∀ (M : Mem) (H : Heap) (locs : List Loc) (ls : Array Slot), mh K M H → va_S (mFA K) s.heap H locs → lv_has ls 1 [] → f_X5_checkLayer_b10 K k QX M → W p l e rm_X5_checkLayer s m ([.int a0] : List Value).toArray below meth c H locs 0 0 (vy_MQ below (mQ K Q) (mX K QX) ([.int a0] : List Value).toArray s 0 0 1 6 (mFA K)) (F0 m 10 ls []) := by
    intro M H locs ls hM hS hl hP
    unfold f_X5_checkLayer_b10 at hP
    exact e_throwW X hM hS hP th_X5_240_324 hno hlocks hl.1 rfl rfl ⟨by decide, by decide, by decide, by decide⟩ dX5_checkLayer_10 dX5_checkLayer_13 dX5_checkLayer_14 dX5_checkLayer_17 dX5_checkLayer_20
  unfold f_X5_checkLayer at hP
  refine lv_iload_n hx hb dX5_checkLayer_0 rfl (lv_at hl 0 rfl) ?_
  refine lv_if_lt (tgt := 10) hx hb dX5_checkLayer_1 (by decide) (fun hc => ?_) (fun hc => ?_)
  · have hP := mIf_t hP hc
    exact hb10 _ _ _ _ hM hS (lv_sub hl [] rfl) hP
  · have hP := mIf_f hP hc
    refine lv_iload_n hx hb dX5_checkLayer_4 rfl (lv_at hl 0 rfl) ?_
    refine lv_bipush (v := 10) hx hb dX5_checkLayer_5 (by decide) ?_
    refine lv_icmp_lt (tgt := 21) hx hb dX5_checkLayer_7 (by decide) (fun hc => ?_) (fun hc => ?_)
    · have hP := mIf_t hP hc
      exact vy_ret (e_vret X hM hS (hk _ hP) hr hlocks (by decide) (by decide) dX5_checkLayer_21)
    · have hP := mIf_f hP hc
      exact hb10 _ _ _ _ hM hS (lv_sub hl [] rfl) hP
def f_X5_wind (K : Cfg) (a0 : Nat) (a1 : Int32) (a2 : Int32) (a3 : Int32) (k : Int32 → Mem → Prop) (QX : String → Mem → Prop) : Mem → Prop :=
 f_X5_checkLayer K a1 (
 f_X5_checkArgument K a2 (-20) 20 (
 f_X5_checkArgument K a3 (-20) 20 (
 mGetR a0 6 4 fun x4 =>
 mRecv x4 5 <|
 f_X4_tell K x4 a1 a2 a3 (
 mGetR a0 6 4 fun x6 =>
 mRecv x6 5 <|
 f_X4_ground K x6 (fun r7 =>
 k r7))) QX) QX) QX
abbrev rm_X5_wind : Room := { frames := 7, cells := 1, slots := 6, locals := 104 }
set_option maxHeartbeats 4000000 in
set_option maxRecDepth 100000 in
theorem ct_X5_wind {K : Cfg} {l : Launch} (hst : l.stackTraces = false) (a0 : Nat) (a1 : Int32) (a2 : Int32) (a3 : Int32) : mXPi K l yX5_wind cX5_wind 4 (some .int) rm_X5_wind [.ref a0, .int a1, .int a2, .int a3] (f_X5_wind K a0 a1 a2 a3) := by
  refine mXPi.of hst (by decide +kernel) (Nat.le_of_ble_eq_true rfl) ?_
  intro M k Q QX hk hP p e s m below meth c X hr hlocks hno hM ls hl
  have hx := X.1.1
  have hb := X.1.2.1
  have X : Cx K p l s m ([.ref a0, .int a1, .int a2, .int a3] : List Value).toArray c cX5_wind 4 RX5 := X
  have hS : va_S (mFA K) s.heap s.heap [] := va_S.rf
  have hl : lv_has ls 4 [(0, .ref a0), (1, .int a1), (2, .int a2), (3, .int a3)] := hl
  unfold f_X5_wind at hP
  refine lv_iload_n hx hb dX5_wind_0 rfl (lv_at hl 1 rfl) ?_
  refine rx_callSv (rest := []) X hM hS (ct_X5_checkLayer hst a1) hP mS_X5_153 rfl rfl hl.1 (Nat.le_of_ble_eq_true rfl) ⟨⟨by decide, by decide⟩, by decide, by decide⟩ dX5_wind_1 (x_out hno hlocks rfl rfl) (fun M H locs hM hS hP => ?_)
  refine lv_iload_n hx hb dX5_wind_4 rfl (lv_at hl 2 rfl) ?_
  refine lv_bipush (v := (-20)) hx hb dX5_wind_5 (by decide) ?_
  refine lv_bipush (v := 20) hx hb dX5_wind_7 (by decide) ?_
  refine rx_callSv (rest := []) X hM hS (ct_X5_checkArgument hst a2 (-20) 20) hP mS_X5_86 rfl rfl hl.1 (Nat.le_of_ble_eq_true rfl) ⟨⟨by decide, by decide⟩, by decide, by decide⟩ dX5_wind_9 (x_out hno hlocks rfl rfl) (fun M H locs hM hS hP => ?_)
  refine lv_iload_n hx hb dX5_wind_12 rfl (lv_at hl 3 rfl) ?_
  refine lv_bipush (v := (-20)) hx hb dX5_wind_13 (by decide) ?_
  refine lv_bipush (v := 20) hx hb dX5_wind_15 (by decide) ?_
  refine rx_callSv (rest := []) X hM hS (ct_X5_checkArgument hst a3 (-20) 20) hP mS_X5_86 rfl rfl hl.1 (Nat.le_of_ble_eq_true rfl) ⟨⟨by decide, by decide⟩, by decide, by decide⟩ dX5_wind_17 (x_out hno hlocks rfl rfl) (fun M H locs hM hS hP => ?_)
  refine lv_aload_n hx hb dX5_wind_20 rfl (lv_at hl 0 rfl) ?_
  refine r_getr X hM hP fl_X5_31 dX5_wind_21 (fun x4 hP => ?_)
  refine lv_iload_n hx hb dX5_wind_24 rfl (lv_at hl 1 rfl) ?_
  refine lv_iload_n hx hb dX5_wind_25 rfl (lv_at hl 2 rfl) ?_
  refine lv_iload_n hx hb dX5_wind_26 rfl (lv_at hl 3 rfl) ?_
  refine r_callVv (rest := []) (T := TX4) (N := 2) X hM hS (ct_X4_tell hst x4 a1 a2 a3) hP mV_X5_157 rfl rfl rfl hl.1 (Nat.le_of_ble_eq_true rfl) ⟨⟨by decide, by decide⟩, ⟨by decide, by decide⟩⟩ dX5_wind_27 (fun M H locs hM hS hP => ?_)
  refine lv_aload_n hx hb dX5_wind_30 rfl (lv_at hl 0 rfl) ?_
  refine r_getr X hM hP fl_X5_31 dX5_wind_31 (fun x6 hP => ?_)
  refine r_callVi (rest := []) (T := TX4) (N := 2) X hM hS (ct_X4_ground hst x6) hP mV_X5_160 rfl rfl rfl hl.1 (Nat.le_of_ble_eq_true rfl) ⟨⟨by decide, by decide⟩, ⟨by decide, by decide⟩⟩ dX5_wind_34 (fun r7 M H locs hM hS hP => ?_)
  exact vy_ret (e_iret X hM hS (hk _ _ hP) hr hlocks (by decide) (by decide) dX5_wind_37)
def f_X5_limitOf_b17 (K : Cfg) (k : Int32 → Mem → Prop) (t0 : Int32) : Mem → Prop :=
 k t0
def f_X5_limitOf_b16 (K : Cfg) (k : Int32 → Mem → Prop) : Mem → Prop :=
 f_X5_limitOf_b17 K k 0
def f_X5_limitOf (K : Cfg) (a0 : Nat) (a1 : Int32) (k : Int32 → Mem → Prop) : Mem → Prop :=
 mIf (a1 < 0)
 (f_X5_limitOf_b16 K k)
 (mLenT K a0 fun x1 =>
 mIf (x1 ≤ a1)
 (f_X5_limitOf_b16 K k)
 (mLdT K a0 a1 fun x2 =>
 f_X5_limitOf_b17 K k x2))
abbrev rm_X5_limitOf : Room := { frames := 0, cells := 0, slots := 0, locals := 0 }
set_option maxHeartbeats 4000000 in
set_option maxRecDepth 100000 in
theorem ct_X5_limitOf {K : Cfg} {l : Launch} (hst : l.stackTraces = false) (a0 : Nat) (a1 : Int32) : mPi K l yX5_limitOf cX5_limitOf 2 (some .int) rm_X5_limitOf [.ref a0, .int a1] (f_X5_limitOf K a0 a1) := by
  refine mPi.of hst (by decide +kernel) (Nat.le_of_ble_eq_true rfl) ?_
  intro M k Q hk hP p e s m below meth c X hr hlocks hname hM ls hl
  have hx := X.1.1
  have hb := X.1.2.1
  have X : Cx K p l s m ([.ref a0, .int a1] : List Value).toArray c cX5_limitOf 2 RX5 := X
  have hS : va_S (mFA K) s.heap s.heap [] := va_S.rf
  have hl : lv_has ls 2 [(0, .ref a0), (1, .int a1)] := hl
  have hb17 : ∀ (t0 : Int32) (M : Mem) (H : Heap) (locs : List Loc) (ls : Array Slot), mh K M H → va_S (mFA K) s.heap H locs → lv_has ls 2 [] → f_X5_limitOf_b17 K k t0 M → W p l e rm_X5_limitOf s m ([.ref a0, .int a1] : List Value).toArray below meth c H locs 0 0 (MQ below (mQ K Q) ([.ref a0, .int a1] : List Value).toArray s rm_X5_limitOf.cells rm_X5_limitOf.slots (mFA K)) (F0 m 17 ls [.int t0]) := by
    intro t0 M H locs ls hM hS hl hP
    unfold f_X5_limitOf_b17 at hP
    exact e_iret X hM hS (hk _ _ hP) hr hlocks (by decide) (by decide) dX5_limitOf_17
  have hb16 : ∀ (M : Mem) (H : Heap) (locs : List Loc) (ls : Array Slot), mh K M H → va_S (mFA K) s.heap H locs → lv_has ls 2 [] → f_X5_limitOf_b16 K k M → W p l e rm_X5_limitOf s m ([.ref a0, .int a1] : List Value).toArray below meth c H locs 0 0 (MQ below (mQ K Q) ([.ref a0, .int a1] : List Value).toArray s rm_X5_limitOf.cells rm_X5_limitOf.slots (mFA K)) (F0 m 16 ls []) := by
    intro M H locs ls hM hS hl hP
    unfold f_X5_limitOf_b16 at hP
    refine lv_iconst (v := 0) hx hb dX5_limitOf_16 (by decide) ?_
    exact hb17 0 _ _ _ _ hM hS (lv_sub hl [] rfl) hP
  unfold f_X5_limitOf at hP
  refine lv_iload_n hx hb dX5_limitOf_0 rfl (lv_at hl 1 rfl) ?_
  refine lv_if_lt (tgt := 16) hx hb dX5_limitOf_1 (by decide) (fun hc => ?_) (fun hc => ?_)
  · have hP := mIf_t hP hc
    exact hb16 _ _ _ _ hM hS (lv_sub hl [] rfl) hP
  · have hP := mIf_f hP hc
    refine lv_iload_n hx hb dX5_limitOf_4 rfl (lv_at hl 1 rfl) ?_
    refine lv_aload_n hx hb dX5_limitOf_5 rfl (lv_at hl 0 rfl) ?_
    refine r_lenT X hS hP dX5_limitOf_6 (fun x1 hP => ?_)
    refine lv_icmp_ge (tgt := 16) hx hb dX5_limitOf_7 (by decide) (fun hc => ?_) (fun hc => ?_)
    · have hP := mIf_t hP hc
      exact hb16 _ _ _ _ hM hS (lv_sub hl [] rfl) hP
    · have hP := mIf_f hP hc
      refine lv_aload_n hx hb dX5_limitOf_10 rfl (lv_at hl 0 rfl) ?_
      refine lv_iload_n hx hb dX5_limitOf_11 rfl (lv_at hl 1 rfl) ?_
      refine r_ldt X hS hP dX5_limitOf_12 (fun x2 hP => ?_)
      refine lv_goto (tgt := 17) hx hb dX5_limitOf_13 (by decide) ?_
      exact hb17 x2 _ _ _ _ hM hS (lv_sub hl [] rfl) hP
def f_X5_loadingWith_b26 (K : Cfg) (k : UInt32 → Mem → Prop) (t0 : UInt32) : Mem → Prop :=
 k t0
def f_X5_loadingWith (K : Cfg) (a0 : Nat) (a1 : Nat) (k : UInt32 → Mem → Prop) : Mem → Prop :=
 mGetI a1 4 0 fun x1 =>
 mIf (x1 ≤ 0)
 (f_X5_loadingWith_b26 K k FP.fconst0)
 (mGetI a0 3 0 fun x2 =>
 mAs (vf_n32 (FP.fmul (FP.i2f x2) 1092616192)) <|
 mGetI a1 4 0 fun x3 =>
 mAs (vf_n32 (FP.fdiv (FP.fmul (FP.i2f x2) 1092616192) (FP.i2f x3))) <|
 f_X5_loadingWith_b26 K k (FP.fdiv (FP.fmul (FP.i2f x2) 1092616192) (FP.i2f x3)))
abbrev rm_X5_loadingWith : Room := { frames := 0, cells := 0, slots := 0, locals := 0 }
set_option maxHeartbeats 4000000 in
set_option maxRecDepth 100000 in
theorem ct_X5_loadingWith {K : Cfg} {l : Launch} (hst : l.stackTraces = false) (a0 : Nat) (a1 : Nat) : mPf K l yX5_loadingWith cX5_loadingWith 2 (some .float) rm_X5_loadingWith [.ref a0, .ref a1] (f_X5_loadingWith K a0 a1) := by
  refine mPf.of hst (by decide +kernel) (Nat.le_of_ble_eq_true rfl) ?_
  intro M k Q hk hP p e s m below meth c X hr hlocks hname hM ls hl
  have hx := X.1.1
  have hb := X.1.2.1
  have X : Cx K p l s m ([.ref a0, .ref a1] : List Value).toArray c cX5_loadingWith 2 RX5 := X
  have hS : va_S (mFA K) s.heap s.heap [] := va_S.rf
  have hl : lv_has ls 2 [(0, .ref a0), (1, .ref a1)] := hl
  have hb26 : ∀ (t0 : UInt32) (M : Mem) (H : Heap) (locs : List Loc) (ls : Array Slot), mh K M H → va_S (mFA K) s.heap H locs → lv_has ls 2 [] → f_X5_loadingWith_b26 K k t0 M → W p l e rm_X5_loadingWith s m ([.ref a0, .ref a1] : List Value).toArray below meth c H locs 0 0 (MQ below (mQ K Q) ([.ref a0, .ref a1] : List Value).toArray s rm_X5_loadingWith.cells rm_X5_loadingWith.slots (mFA K)) (F0 m 26 ls [.float t0]) := by
    intro t0 M H locs ls hM hS hl hP
    unfold f_X5_loadingWith_b26 at hP
    exact e_fret X hM hS (hk _ _ hP) hr hlocks (by decide) (by decide) dX5_loadingWith_26
  unfold f_X5_loadingWith at hP
  refine lv_aload_n hx hb dX5_loadingWith_0 rfl (lv_at hl 1 rfl) ?_
  refine r_geti X hM hP fl_X5_108 dX5_loadingWith_1 (fun x1 hP => ?_)
  refine lv_if_le (tgt := 25) hx hb dX5_loadingWith_4 (by decide) (fun hc => ?_) (fun hc => ?_)
  · have hP := mIf_t hP hc
    refine lv_fconst0 hx hb dX5_loadingWith_25 ?_
    exact hb26 FP.fconst0 _ _ _ _ hM hS (lv_sub hl [] rfl) hP
  · have hP := mIf_f hP hc
    refine lv_aload_n hx hb dX5_loadingWith_7 rfl (lv_at hl 0 rfl) ?_
    refine r_geti X hM hP fl_X5_97 dX5_loadingWith_8 (fun x2 hP => ?_)
    refine lv_i2f hx hb dX5_loadingWith_11 ?_
    refine r_ldcfw (v := 1092616192) X kc_X5_330 dX5_loadingWith_12 ?_
    obtain ⟨h9, hP⟩ := hP
    refine lv_fmul hx hb dX5_loadingWith_15 h9 ?_
    refine lv_aload_n hx hb dX5_loadingWith_16 rfl (lv_at hl 1 rfl) ?_
    refine r_geti X hM hP fl_X5_108 dX5_loadingWith_17 (fun x3 hP => ?_)
    refine lv_i2f hx hb dX5_loadingWith_20 ?_
    obtain ⟨h9, hP⟩ := hP
    refine lv_fdiv hx hb dX5_loadingWith_21 h9 ?_
    refine lv_goto (tgt := 26) hx hb dX5_loadingWith_22 (by decide) ?_
    exact hb26 (FP.fdiv (FP.fmul (FP.i2f x2) 1092616192) (FP.i2f x3)) _ _ _ _ hM hS (lv_sub hl [] rfl) hP
def f_X5_isLet_b45 (K : Cfg) (k : Int32 → Mem → Prop) (t0 : Int32) : Mem → Prop :=
 mAs ((t0 : Int32) = 0 ∨ (t0 : Int32) = 1) <|
 k t0
def f_X5_isLet_b40 (K : Cfg) (k : Int32 → Mem → Prop) : Mem → Prop :=
 f_X5_isLet_b45 K k 1
def f_X5_isLet (K : Cfg) (a0 : Nat) (a1 : Nat) (a2 : UInt32) (k : Int32 → Mem → Prop) : Mem → Prop :=
 mGetI a1 3 1 fun x1 =>
 f_X5_limitOf K (K.2.2 3) x1 (fun r2 =>
 mIf ((Op.cmpValue (FP.fcmp a2 (FP.i2f r2)) .l) ≤ 0)
 (mIf ((Op.cmpValue (FP.fcmp a2 1082130432) .g) ≤ 0)
 (f_X5_isLet_b40 K k)
 (mGetI a0 6 10 fun x3 =>
 mGetI a1 3 3 fun x4 =>
 mIf (30 < (x3 - x4))
 (f_X5_isLet_b45 K k 0)
 (f_X5_isLet_b40 K k)))
 (mAs ((0 : Int32) = 0 ∨ (0 : Int32) = 1) <|
 k 0))
abbrev rm_X5_isLet : Room := { frames := 1, cells := 0, slots := 0, locals := 21 }
set_option maxHeartbeats 4000000 in
set_option maxRecDepth 100000 in
theorem ct_X5_isLet {K : Cfg} {l : Launch} (hst : l.stackTraces = false) (a0 : Nat) (a1 : Nat) (a2 : UInt32) : mPi K l yX5_isLet cX5_isLet 3 (some .boolean) rm_X5_isLet [.ref a0, .ref a1, .float a2] (f_X5_isLet K a0 a1 a2) := by
  refine mPi.of hst (by decide +kernel) (Nat.le_of_ble_eq_true rfl) ?_
  intro M k Q hk hP p e s m below meth c X hr hlocks hname hM ls hl
  have hx := X.1.1
  have hb := X.1.2.1
  have X : Cx K p l s m ([.ref a0, .ref a1, .float a2] : List Value).toArray c cX5_isLet 3 RX5 := X
  have hS : va_S (mFA K) s.heap s.heap [] := va_S.rf
  have hl : lv_has ls 3 [(0, .ref a0), (1, .ref a1), (2, .float a2)] := hl
  have hb45 : ∀ (t0 : Int32) (M : Mem) (H : Heap) (locs : List Loc) (ls : Array Slot), mh K M H → va_S (mFA K) s.heap H locs → lv_has ls 3 [] → f_X5_isLet_b45 K k t0 M → W p l e rm_X5_isLet s m ([.ref a0, .ref a1, .float a2] : List Value).toArray below meth c H locs 0 0 (MQ below (mQ K Q) ([.ref a0, .ref a1, .float a2] : List Value).toArray s rm_X5_isLet.cells rm_X5_isLet.slots (mFA K)) (F0 m 45 ls [.int t0]) := by
    intro t0 M H locs ls hM hS hl hP
    unfold f_X5_isLet_b45 at hP
    obtain ⟨h9, hP⟩ := hP
    exact e_zret X hM hS h9 (hk _ _ hP) hr hlocks (by decide) (by decide) dX5_isLet_45
  have hb40 : ∀ (M : Mem) (H : Heap) (locs : List Loc) (ls : Array Slot), mh K M H → va_S (mFA K) s.heap H locs → lv_has ls 3 [] → f_X5_isLet_b40 K k M → W p l e rm_X5_isLet s m ([.ref a0, .ref a1, .float a2] : List Value).toArray below meth c H locs 0 0 (MQ below (mQ K Q) ([.ref a0, .ref a1, .float a2] : List Value).toArray s rm_X5_isLet.cells rm_X5_isLet.slots (mFA K)) (F0 m 40 ls []) := by
    intro M H locs ls hM hS hl hP
    unfold f_X5_isLet_b40 at hP
    refine lv_iconst (v := 1) hx hb dX5_isLet_40 (by decide) ?_
    refine lv_goto (tgt := 45) hx hb dX5_isLet_41 (by decide) ?_
    exact hb45 1 _ _ _ _ hM hS (lv_sub hl [] rfl) hP
  unfold f_X5_isLet at hP
  refine lv_fload_n hx hb dX5_isLet_0 rfl (lv_at hl 2 rfl) ?_
  refine r_gets X hS X.2.1.2.2.2.2.2.1.2.1 gs_X5_331 dX5_isLet_1 ?_
  refine lv_aload_n hx hb dX5_isLet_4 rfl (lv_at hl 1 rfl) ?_
  refine r_geti X hM hP fl_X5_100 dX5_isLet_5 (fun x1 hP => ?_)
  refine r_callSi (rest := [.float a2]) X hM hS (ct_X5_limitOf hst (K.2.2 3) x1) hP mS_X5_334 rfl rfl hl.1 (Nat.le_of_ble_eq_true rfl) ⟨⟨by decide, by decide⟩, ⟨by decide, by decide⟩⟩ dX5_isLet_8 (fun r2 M H locs hM hS hP => ?_)
  refine lv_i2f hx hb dX5_isLet_11 ?_
  refine lv_fcmp hx hb dX5_isLet_12 ?_
  refine lv_if_le (tgt := 18) hx hb dX5_isLet_13 (by decide) (fun hc => ?_) (fun hc => ?_)
  · have hP := mIf_t hP hc
    refine lv_fload_n hx hb dX5_isLet_18 rfl (lv_at hl 2 rfl) ?_
    refine r_ldcfw (v := 1082130432) X kc_X5_338 dX5_isLet_19 ?_
    refine lv_fcmp hx hb dX5_isLet_22 ?_
    refine lv_if_le (tgt := 40) hx hb dX5_isLet_23 (by decide) (fun hc => ?_) (fun hc => ?_)
    · have hP := mIf_t hP hc
      exact hb40 _ _ _ _ hM hS (lv_sub hl [] rfl) hP
    · have hP := mIf_f hP hc
      refine lv_aload_n hx hb dX5_isLet_26 rfl (lv_at hl 0 rfl) ?_
      refine r_geti X hM hP fl_X5_60 dX5_isLet_27 (fun x3 hP => ?_)
      refine lv_aload_n hx hb dX5_isLet_30 rfl (lv_at hl 1 rfl) ?_
      refine r_geti X hM hP fl_X5_103 dX5_isLet_31 (fun x4 hP => ?_)
      refine lv_isub hx hb dX5_isLet_34 ?_
      refine lv_bipush (v := 30) hx hb dX5_isLet_35 (by decide) ?_
      refine lv_icmp_gt (tgt := 44) hx hb dX5_isLet_37 (by decide) (fun hc => ?_) (fun hc => ?_)
      · have hP := mIf_t hP hc
        refine lv_iconst (v := 0) hx hb dX5_isLet_44 (by decide) ?_
        exact hb45 0 _ _ _ _ hM hS (lv_sub hl [] rfl) hP
      · have hP := mIf_f hP hc
        exact hb40 _ _ _ _ hM hS (lv_sub hl [] rfl) hP
  · have hP := mIf_f hP hc
    refine lv_iconst (v := 0) hx hb dX5_isLet_16 (by decide) ?_
    obtain ⟨h9, hP⟩ := hP
    exact e_zret X hM hS h9 (hk _ _ hP) hr hlocks (by decide) (by decide) dX5_isLet_17
def f_X5_whyNot_b99 (K : Cfg) (k : Int32 → Mem → Prop) (QX : String → Mem → Prop) (t0 : Int32) : Mem → Prop :=
 k t0
def f_X5_whyNot (K : Cfg) (a0 : Nat) (a1 : Int32) (k : Int32 → Mem → Prop) (QX : String → Mem → Prop) : Mem → Prop :=
 mRecv a0 6 <|
 f_X5_jumperAt K a0 a1 (fun r1 =>
 mGetI r1 3 2 fun x2 =>
 mIf (x2 = (-1))
 (k 1)
 (mGetI r1 3 2 fun x3 =>
 mRecv a0 6 <|
 f_X5_rigAt K a0 x3 (fun r4 =>
 mGetI r4 4 3 fun x5 =>
 mIf (x5 = 0)
 (k 2)
 (mGetI r4 4 1 fun x6 =>
 mGetI a0 6 10 fun x7 =>
 mIf (x7 ≤ x6)
 (mGetR a0 6 4 fun x8 =>
 mRecv x8 5 <|
 f_X4_ground K x8 (fun r9 =>
 mGetI r1 3 1 fun x10 =>
 f_X5_limitOf K (K.2.2 2) x10 (fun r11 =>
 mIf (r9 ≤ r11)
 (f_X5_loadingWith K r1 r4 (fun r12 =>
 mRecv a0 6 <|
 f_X5_isLet K a0 r1 r12 (fun r13 =>
 mIf (r13 = 0)
 (k 5)
 (mRecv a0 6 <|
 f_X5_placeOf K a0 a1 (fun r14 =>
 mIf (r14 = (-1))
 (f_X5_whyNot_b99 K k QX 0)
 (f_X5_whyNot_b99 K k QX 6)) QX))))
 (k 4))))
 (k 3))) QX)) QX
abbrev rm_X5_whyNot : Room := { frames := 8, cells := 1, slots := 6, locals := 125 }
set_option maxHeartbeats 4000000 in
set_option maxRecDepth 100000 in
theorem ct_X5_whyNot {K : Cfg} {l : Launch} (hst : l.stackTraces = false) (a0 : Nat) (a1 : Int32) : mXPi K l yX5_whyNot cX5_whyNot 4 (some .int) rm_X5_whyNot [.ref a0, .int a1] (f_X5_whyNot K a0 a1) := by
  refine mXPi.of hst (by decide +kernel) (Nat.le_of_ble_eq_true rfl) ?_
  intro M k Q QX hk hP p e s m below meth c X hr hlocks hno hM ls hl
  have hx := X.1.1
  have hb := X.1.2.1
  have X : Cx K p l s m ([.ref a0, .int a1] : List Value).toArray c cX5_whyNot 4 RX5 := X
  have hS : va_S (mFA K) s.heap s.heap [] := va_S.rf
  have hl : lv_has ls 4 [(0, .ref a0), (1, .int a1)] := hl
  have hb99 : ∀ (t0 : Int32) (M : Mem) (H : Heap) (locs : List Loc) (ls : Array Slot), mh K M H → va_S (mFA K) s.heap H locs → lv_has ls 4 [] → f_X5_whyNot_b99 K k QX t0 M → W p l e rm_X5_whyNot s m ([.ref a0, .int a1] : List Value).toArray below meth c H locs 0 0 (vy_MQ below (mQ K Q) (mX K QX) ([.ref a0, .int a1] : List Value).toArray s 0 0 1 6 (mFA K)) (F0 m 99 ls [.int t0]) := by
    intro t0 M H locs ls hM hS hl hP
    unfold f_X5_whyNot_b99 at hP
    exact vy_ret (e_iret X hM hS (hk _ _ hP) hr hlocks (by decide) (by decide) dX5_whyNot_99)
  unfold f_X5_whyNot at hP
  refine lv_aload_n hx hb dX5_whyNot_0 rfl (lv_at hl 0 rfl) ?_
  refine lv_iload_n hx hb dX5_whyNot_1 rfl (lv_at hl 1 rfl) ?_
  refine rx_callVr (rest := []) (T := TX5) (N := 18) X hM hS (ct_X5_jumperAt hst a0 a1) hP mV_X5_118 rfl rfl rfl hl.1 (Nat.le_of_ble_eq_true rfl) ⟨⟨by decide, by decide⟩, by decide, by decide⟩ dX5_whyNot_2 (x_out hno hlocks rfl rfl) (fun r1 M H locs hM hS hP => ?_)
  refine lv_astore_n (lv' := [(2, .ref r1), (0, .ref a0), (1, .int a1)]) hx hb dX5_whyNot_5 rfl hl (by decide) rfl (fun ls hl => ?_)
  refine lv_aload_n hx hb dX5_whyNot_6 rfl (lv_at hl 0 rfl) ?_
  refine r_geti X hM hP fl_X5_131 dX5_whyNot_7 (fun x2 hP => ?_)
  refine lv_iconst (v := (-1)) hx hb dX5_whyNot_10 (by decide) ?_
  refine lv_icmp_ne (tgt := 16) hx hb dX5_whyNot_11 (by decide) (fun hc => ?_) (fun hc => ?_)
  · have hP := mIf_f hP hc
    refine lv_aload_n hx hb dX5_whyNot_16 rfl (lv_at hl 1 rfl) ?_
    refine lv_aload_n hx hb dX5_whyNot_17 rfl (lv_at hl 0 rfl) ?_
    refine r_geti X hM hP fl_X5_131 dX5_whyNot_18 (fun x3 hP => ?_)
    refine rx_callVr (rest := []) (T := TX5) (N := 18) X hM hS (ct_X5_rigAt hst a0 x3) hP mV_X5_114 rfl rfl rfl hl.1 (Nat.le_of_ble_eq_true rfl) ⟨⟨by decide, by decide⟩, by decide, by decide⟩ dX5_whyNot_21 (x_out hno hlocks rfl rfl) (fun r4 M H locs hM hS hP => ?_)
    refine lv_astore_n (lv' := [(3, .ref r4), (2, .ref r1), (0, .ref a0), (1, .int a1)]) hx hb dX5_whyNot_24 rfl hl (by decide) rfl (fun ls hl => ?_)
    refine lv_aload_n hx hb dX5_whyNot_25 rfl (lv_at hl 0 rfl) ?_
    refine r_geti X hM hP fl_X5_134 dX5_whyNot_26 (fun x5 hP => ?_)
    refine lv_if_ne (tgt := 34) hx hb dX5_whyNot_29 (by decide) (fun hc => ?_) (fun hc => ?_)
    · have hP := mIf_f hP hc
      refine lv_aload_n hx hb dX5_whyNot_34 rfl (lv_at hl 0 rfl) ?_
      refine r_geti X hM hP fl_X5_111 dX5_whyNot_35 (fun x6 hP => ?_)
      refine lv_aload_n hx hb dX5_whyNot_38 rfl (lv_at hl 2 rfl) ?_
      refine r_geti X hM hP fl_X5_60 dX5_whyNot_39 (fun x7 hP => ?_)
      refine lv_icmp_ge (tgt := 47) hx hb dX5_whyNot_42 (by decide) (fun hc => ?_) (fun hc => ?_)
      · have hP := mIf_t hP hc
        refine lv_aload_n hx hb dX5_whyNot_47 rfl (lv_at hl 2 rfl) ?_
        refine r_getr X hM hP fl_X5_31 dX5_whyNot_48 (fun x8 hP => ?_)
        refine r_callVi (rest := []) (T := TX4) (N := 2) X hM hS (ct_X4_ground hst x8) hP mV_X5_160 rfl rfl rfl hl.1 (Nat.le_of_ble_eq_true rfl) ⟨⟨by decide, by decide⟩, ⟨by decide, by decide⟩⟩ dX5_whyNot_51 (fun r9 M H locs hM hS hP => ?_)
        refine r_gets X hS X.2.1.2.2.2.2.2.1.1.1 gs_X5_339 dX5_whyNot_54 ?_
        refine lv_aload_n hx hb dX5_whyNot_57 rfl (lv_at hl 1 rfl) ?_
        refine r_geti X hM hP fl_X5_100 dX5_whyNot_58 (fun x10 hP => ?_)
        refine r_callSi (rest := [.int r9]) X hM hS (ct_X5_limitOf hst (K.2.2 2) x10) hP mS_X5_334 rfl rfl hl.1 (Nat.le_of_ble_eq_true rfl) ⟨⟨by decide, by decide⟩, ⟨by decide, by decide⟩⟩ dX5_whyNot_61 (fun r11 M H locs hM hS hP => ?_)
        refine lv_icmp_le (tgt := 69) hx hb dX5_whyNot_64 (by decide) (fun hc => ?_) (fun hc => ?_)
        · have hP := mIf_t hP hc
          refine lv_aload_n hx hb dX5_whyNot_69 rfl (lv_at hl 2 rfl) ?_
          refine lv_aload_n hx hb dX5_whyNot_70 rfl (lv_at hl 1 rfl) ?_
          refine lv_aload_n hx hb dX5_whyNot_71 rfl (lv_at hl 1 rfl) ?_
          refine lv_aload_n hx hb dX5_whyNot_72 rfl (lv_at hl 0 rfl) ?_
          refine r_callSf (rest := [.ref r1, .ref a0]) X hM hS (ct_X5_loadingWith hst r1 r4) hP mS_X5_267 rfl rfl hl.1 (Nat.le_of_ble_eq_true rfl) ⟨⟨by decide, by decide⟩, ⟨by decide, by decide⟩⟩ dX5_whyNot_73 (fun r12 M H locs hM hS hP => ?_)
          refine r_callVi (rest := []) (T := TX5) (N := 18) X hM hS (ct_X5_isLet hst a0 r1 r12) hP mV_X5_271 rfl rfl rfl hl.1 (Nat.le_of_ble_eq_true rfl) ⟨⟨by decide, by decide⟩, ⟨by decide, by decide⟩⟩ dX5_whyNot_76 (fun r13 M H locs hM hS hP => ?_)
          refine lv_if_ne (tgt := 84) hx hb dX5_whyNot_79 (by decide) (fun hc => ?_) (fun hc => ?_)
          · have hP := mIf_f hP hc
            refine lv_aload_n hx hb dX5_whyNot_84 rfl (lv_at hl 2 rfl) ?_
            refine lv_iload_n hx hb dX5_whyNot_85 rfl (lv_at hl 3 rfl) ?_
            refine rx_callVi (rest := []) (T := TX5) (N := 18) X hM hS (ct_X5_placeOf hst a0 a1) hP mV_X5_126 rfl rfl rfl hl.1 (Nat.le_of_ble_eq_true rfl) ⟨⟨by decide, by decide⟩, by decide, by decide⟩ dX5_whyNot_86 (x_out hno hlocks rfl rfl) (fun r14 M H locs hM hS hP => ?_)
            refine lv_iconst (v := (-1)) hx hb dX5_whyNot_89 (by decide) ?_
            refine lv_icmp_ne (tgt := 97) hx hb dX5_whyNot_90 (by decide) (fun hc => ?_) (fun hc => ?_)
            · have hP := mIf_f hP hc
              refine lv_bipush (v := 6) hx hb dX5_whyNot_97 (by decide) ?_
              exact hb99 6 _ _ _ _ hM hS (lv_sub hl [] rfl) hP
            · have hP := mIf_t hP hc
              refine lv_iconst (v := 0) hx hb dX5_whyNot_93 (by decide) ?_
              refine lv_goto (tgt := 99) hx hb dX5_whyNot_94 (by decide) ?_
              exact hb99 0 _ _ _ _ hM hS (lv_sub hl [] rfl) hP
          · have hP := mIf_t hP hc
            refine lv_iconst (v := 5) hx hb dX5_whyNot_82 (by decide) ?_
            exact vy_ret (e_iret X hM hS (hk _ _ hP) hr hlocks (by decide) (by decide) dX5_whyNot_83)
        · have hP := mIf_f hP hc
          refine lv_iconst (v := 4) hx hb dX5_whyNot_67 (by decide) ?_
          exact vy_ret (e_iret X hM hS (hk _ _ hP) hr hlocks (by decide) (by decide) dX5_whyNot_68)
      · have hP := mIf_f hP hc
        refine lv_iconst (v := 3) hx hb dX5_whyNot_45 (by decide) ?_
        exact vy_ret (e_iret X hM hS (hk _ _ hP) hr hlocks (by decide) (by decide) dX5_whyNot_46)
    · have hP := mIf_t hP hc
      refine lv_iconst (v := 2) hx hb dX5_whyNot_32 (by decide) ?_
      exact vy_ret (e_iret X hM hS (hk _ _ hP) hr hlocks (by decide) (by decide) dX5_whyNot_33)
  · have hP := mIf_t hP hc
    refine lv_iconst (v := 1) hx hb dX5_whyNot_14 (by decide) ?_
    exact vy_ret (e_iret X hM hS (hk _ _ hP) hr hlocks (by decide) (by decide) dX5_whyNot_15)
def f_X5_loadingOf_b24 (K : Cfg) (k : UInt32 → Mem → Prop) (QX : String → Mem → Prop) (t0 : UInt32) : Mem → Prop :=
 k t0
def f_X5_loadingOf (K : Cfg) (a0 : Nat) (a1 : Nat) (k : UInt32 → Mem → Prop) (QX : String → Mem → Prop) : Mem → Prop :=
 mGetI a1 3 2 fun x1 =>
 mIf (x1 = (-1))
 (f_X5_loadingOf_b24 K k QX FP.fconst0)
 (mGetI a1 3 2 fun x2 =>
 mRecv a0 6 <|
 f_X5_rigAt K a0 x2 (fun r3 =>
 f_X5_loadingWith K a1 r3 (fun r4 =>
 f_X5_loadingOf_b24 K k QX r4)) QX)
abbrev rm_X5_loadingOf : Room := { frames := 7, cells := 1, slots := 6, locals := 103 }
set_option maxHeartbeats 4000000 in
set_option maxRecDepth 100000 in
theorem ct_X5_loadingOf {K : Cfg} {l : Launch} (hst : l.stackTraces = false) (a0 : Nat) (a1 : Nat) : mXPf K l yX5_loadingOf cX5_loadingOf 2 (some .float) rm_X5_loadingOf [.ref a0, .ref a1] (f_X5_loadingOf K a0 a1) := by
  refine mXPf.of hst (by decide +kernel) (Nat.le_of_ble_eq_true rfl) ?_
  intro M k Q QX hk hP p e s m below meth c X hr hlocks hno hM ls hl
  have hx := X.1.1
  have hb := X.1.2.1
  have X : Cx K p l s m ([.ref a0, .ref a1] : List Value).toArray c cX5_loadingOf 2 RX5 := X
  have hS : va_S (mFA K) s.heap s.heap [] := va_S.rf
  have hl : lv_has ls 2 [(0, .ref a0), (1, .ref a1)] := hl
  have hb24 : ∀ (t0 : UInt32) (M : Mem) (H : Heap) (locs : List Loc) (ls : Array Slot), mh K M H → va_S (mFA K) s.heap H locs → lv_has ls 2 [] → f_X5_loadingOf_b24 K k QX t0 M → W p l e rm_X5_loadingOf s m ([.ref a0, .ref a1] : List Value).toArray below meth c H locs 0 0 (vy_MQ below (mQ K Q) (mX K QX) ([.ref a0, .ref a1] : List Value).toArray s 0 0 1 6 (mFA K)) (F0 m 24 ls [.float t0]) := by
    intro t0 M H locs ls hM hS hl hP
    unfold f_X5_loadingOf_b24 at hP
    exact vy_ret (e_fret X hM hS (hk _ _ hP) hr hlocks (by decide) (by decide) dX5_loadingOf_24)
  unfold f_X5_loadingOf at hP
  refine lv_aload_n hx hb dX5_loadingOf_0 rfl (lv_at hl 1 rfl) ?_
  refine r_geti X hM hP fl_X5_131 dX5_loadingOf_1 (fun x1 hP => ?_)
  refine lv_iconst (v := (-1)) hx hb dX5_loadingOf_4 (by decide) ?_
  refine lv_icmp_ne (tgt := 12) hx hb dX5_loadingOf_5 (by decide) (fun hc => ?_) (fun hc => ?_)
  · have hP := mIf_f hP hc
    refine lv_aload_n hx hb dX5_loadingOf_12 rfl (lv_at hl 1 rfl) ?_
    refine lv_aload_n hx hb dX5_loadingOf_13 rfl (lv_at hl 0 rfl) ?_
    refine lv_aload_n hx hb dX5_loadingOf_14 rfl (lv_at hl 1 rfl) ?_
    refine r_geti X hM hP fl_X5_131 dX5_loadingOf_15 (fun x2 hP => ?_)
    refine rx_callVr (rest := [.ref a1]) (T := TX5) (N := 18) X hM hS (ct_X5_rigAt hst a0 x2) hP mV_X5_114 rfl rfl rfl hl.1 (Nat.le_of_ble_eq_true rfl) ⟨⟨by decide, by decide⟩, by decide, by decide⟩ dX5_loadingOf_18 (x_out hno hlocks rfl rfl) (fun r3 M H locs hM hS hP => ?_)
    refine r_callSf (rest := []) X hM hS (ct_X5_loadingWith hst a1 r3) hP mS_X5_267 rfl rfl hl.1 (Nat.le_of_ble_eq_true rfl) ⟨⟨by decide, by decide⟩, ⟨by decide, by decide⟩⟩ dX5_loadingOf_21 (fun r4 M H locs hM hS hP => ?_)
    exact hb24 r4 _ _ _ _ hM hS (lv_sub hl [] rfl) hP
  · have hP := mIf_t hP hc
    refine lv_fconst0 hx hb dX5_loadingOf_8 ?_
    refine lv_goto (tgt := 24) hx hb dX5_loadingOf_9 (by decide) ?_
    exact hb24 FP.fconst0 _ _ _ _ hM hS (lv_sub hl [] rfl) hP
def f_X5_goesAhead_b126 (K : Cfg) (k : Int32 → Mem → Prop) (QX : String → Mem → Prop) (t0 : Int32) : Mem → Prop :=
 mAs ((t0 : Int32) = 0 ∨ (t0 : Int32) = 1) <|
 k t0
def f_X5_goesAhead_b76 (K : Cfg) (k : Int32 → Mem → Prop) (QX : String → Mem → Prop) (t0 : Int32) : Mem → Prop :=
 mAs ((t0 : Int32) = 0 ∨ (t0 : Int32) = 1) <|
 k t0
def f_X5_goesAhead_b40 (K : Cfg) (k : Int32 → Mem → Prop) (QX : String → Mem → Prop) (v0 : Nat) (v1 : Int32) (v2 : Int32) (v3 : Nat) (v4 : Nat) (v5 : Int32) (t0 : Int32) : Mem → Prop :=
 mIf (v5 = t0)
 (mGetI v3 3 10 fun x1 =>
 mGetI v4 3 10 fun x2 =>
 mIf (x1 = x2)
 (mRecv v0 6 <|
 f_X5_loadingOf K v0 v3 (fun r3 =>
 mRecv v0 6 <|
 f_X5_loadingOf K v0 v4 (fun r4 =>
 mIf ((Op.cmpValue (FP.fcmp r3 r4) .l) = 0)
 (mIf (v2 ≤ v1)
 (f_X5_goesAhead_b126 K k QX 0)
 (f_X5_goesAhead_b126 K k QX 1))
 (mIf ((Op.cmpValue (FP.fcmp r3 r4) .l) ≤ 0)
 (f_X5_goesAhead_b126 K k QX 0)
 (f_X5_goesAhead_b126 K k QX 1))) QX) QX)
 (mGetI v3 3 10 fun x5 =>
 mIf (x5 = 0)
 (f_X5_goesAhead_b76 K k QX 1)
 (f_X5_goesAhead_b76 K k QX 0)))
 (mAs ((t0 : Int32) = 0 ∨ (t0 : Int32) = 1) <|
 k t0)
def f_X5_goesAhead_b25 (K : Cfg) (k : Int32 → Mem → Prop) (QX : String → Mem → Prop) (v0 : Nat) (v1 : Int32) (v2 : Int32) (v3 : Nat) (v4 : Nat) (t0 : Int32) : Mem → Prop :=
 mGetI v4 3 1 fun x1 =>
 mIf (x1 = 0)
 (f_X5_goesAhead_b40 K k QX v0 v1 v2 v3 v4 t0 1)
 (f_X5_goesAhead_b40 K k QX v0 v1 v2 v3 v4 t0 0)
def f_X5_goesAhead (K : Cfg) (a0 : Nat) (a1 : Int32) (a2 : Int32) (k : Int32 → Mem → Prop) (QX : String → Mem → Prop) : Mem → Prop :=
 mRecv a0 6 <|
 f_X5_jumperAt K a0 a1 (fun r1 =>
 mRecv a0 6 <|
 f_X5_jumperAt K a0 a2 (fun r2 =>
 mGetI r1 3 1 fun x3 =>
 mIf (x3 = 0)
 (f_X5_goesAhead_b25 K k QX a0 a1 a2 r1 r2 1)
 (f_X5_goesAhead_b25 K k QX a0 a1 a2 r1 r2 0)) QX) QX
abbrev rm_X5_goesAhead : Room := { frames := 8, cells := 1, slots := 6, locals := 124 }
set_option maxHeartbeats 4000000 in
set_option maxRecDepth 100000 in
theorem ct_X5_goesAhead {K : Cfg} {l : Launch} (hst : l.stackTraces = false) (a0 : Nat) (a1 : Int32) (a2 : Int32) : mXPi K l yX5_goesAhead cX5_goesAhead 9 (some .boolean) rm_X5_goesAhead [.ref a0, .int a1, .int a2] (f_X5_goesAhead K a0 a1 a2) := by
  refine mXPi.of hst (by decide +kernel) (Nat.le_of_ble_eq_true rfl) ?_
  intro M k Q QX hk hP p e s m below meth c X hr hlocks hno hM ls hl
  have hx := X.1.1
  have hb := X.1.2.1
  have X : Cx K p l s m ([.ref a0, .int a1, .int a2] : List Value).toArray c cX5_goesAhead 9 RX5 := X
  have hS : va_S (mFA K) s.heap s.heap [] := va_S.rf
  have hl : lv_has ls 9 [(0, .ref a0), (1, .int a1), (2, .int a2)] := hl
  have hb126 : ∀ (t0 : Int32) (M : Mem) (H : Heap) (locs : List Loc) (ls : Array Slot), mh K M H → va_S (mFA K) s.heap H locs → lv_has ls 9 [] → f_X5_goesAhead_b126 K k QX t0 M → W p l e rm_X5_goesAhead s m ([.ref a0, .int a1, .int a2] : List Value).toArray below meth c H locs 0 0 (vy_MQ below (mQ K Q) (mX K QX) ([.ref a0, .int a1, .int a2] : List Value).toArray s 0 0 1 6 (mFA K)) (F0 m 126 ls [.int t0]) := by
    intro t0 M H locs ls hM hS hl hP
    unfold f_X5_goesAhead_b126 at hP
    obtain ⟨h9, hP⟩ := hP
    exact vy_ret (e_zret X hM hS h9 (hk _ _ hP) hr hlocks (by decide) (by decide) dX5_goesAhead_126)
  have hb76 : ∀ (t0 : Int32) (M : Mem) (H : Heap) (locs : List Loc) (ls : Array Slot), mh K M H → va_S (mFA K) s.heap H locs → lv_has ls 9 [] → f_X5_goesAhead_b76 K k QX t0 M → W p l e rm_X5_goesAhead s m ([.ref a0, .int a1, .int a2] : List Value).toArray below meth c H locs 0 0 (vy_MQ below (mQ K Q) (mX K QX) ([.ref a0, .int a1, .int a2] : List Value).toArray s 0 0 1 6 (mFA K)) (F0 m 76 ls [.int t0]) := by
    intro t0 M H locs ls hM hS hl hP
    unfold f_X5_goesAhead_b76 at hP
    obtain ⟨h9, hP⟩ := hP
    exact vy_ret (e_zret X hM hS h9 (hk _ _ hP) hr hlocks (by decide) (by decide) dX5_goesAhead_76)
  have hb40 : ∀ (v0 : Nat) (v1 : Int32) (v2 : Int32) (v3 : Nat) (v4 : Nat) (v5 : Int32) (t0 : Int32) (M : Mem) (H : Heap) (locs : List Loc) (ls : Array Slot), mh K M H → va_S (mFA K) s.heap H locs → lv_has ls 9 [(0, .ref v0), (1, .int v1), (2, .int v2), (3, .ref v3), (4, .ref v4), (5, .int v5)] → f_X5_goesAhead_b40 K k QX v0 v1 v2 v3 v4 v5 t0 M → W p l e rm_X5_goesAhead s m ([.ref a0, .int a1, .int a2] : List Value).toArray below meth c H locs 0 0 (vy_MQ below (mQ K Q) (mX K QX) ([.ref a0, .int a1, .int a2] : List Value).toArray s 0 0 1 6 (mFA K)) (F0 m 40 ls [.int t0]) := by
    intro v0 v1 v2 v3 v4 v5 t0 M H locs ls hM hS hl hP
    unfold f_X5_goesAhead_b40 at hP
    refine lv_istore (lv' := [(6, .int t0), (0, .ref v0), (1, .int v1), (2, .int v2), (3, .ref v3), (4, .ref v4), (5, .int v5)]) hx hb dX5_goesAhead_40 hl (by decide) rfl (fun ls hl => ?_)
    refine lv_iload hx hb dX5_goesAhead_42 (lv_at hl 6 rfl) ?_
    refine lv_iload hx hb dX5_goesAhead_44 (lv_at hl 0 rfl) ?_
    refine lv_icmp_eq (tgt := 52) hx hb dX5_goesAhead_46 (by decide) (fun hc => ?_) (fun hc => ?_)
    · have hP := mIf_t hP hc
      refine lv_aload_n hx hb dX5_goesAhead_52 rfl (lv_at hl 4 rfl) ?_
      refine r_geti X hM hP fl_X5_169 dX5_goesAhead_53 (fun x1 hP => ?_)
      refine lv_aload hx hb dX5_goesAhead_56 (lv_at hl 5 rfl) ?_
      refine r_geti X hM hP fl_X5_169 dX5_goesAhead_58 (fun x2 hP => ?_)
      refine lv_icmp_eq (tgt := 77) hx hb dX5_goesAhead_61 (by decide) (fun hc => ?_) (fun hc => ?_)
      · have hP := mIf_t hP hc
        refine lv_aload_n hx hb dX5_goesAhead_77 rfl (lv_at hl 1 rfl) ?_
        refine lv_aload_n hx hb dX5_goesAhead_78 rfl (lv_at hl 4 rfl) ?_
        refine rx_callVf (rest := []) (T := TX5) (N := 18) X hM hS (ct_X5_loadingOf hst v0 v3) hP mV_X5_215 rfl rfl rfl hl.1 (Nat.le_of_ble_eq_true rfl) ⟨⟨by decide, by decide⟩, by decide, by decide⟩ dX5_goesAhead_79 (x_out hno hlocks rfl rfl) (fun r3 M H locs hM hS hP => ?_)
        refine lv_fstore (lv' := [(7, .float r3), (6, .int t0), (0, .ref v0), (1, .int v1), (2, .int v2), (3, .ref v3), (4, .ref v4), (5, .int v5)]) hx hb dX5_goesAhead_82 hl (by decide) rfl (fun ls hl => ?_)
        refine lv_aload_n hx hb dX5_goesAhead_84 rfl (lv_at hl 2 rfl) ?_
        refine lv_aload hx hb dX5_goesAhead_85 (lv_at hl 6 rfl) ?_
        refine rx_callVf (rest := []) (T := TX5) (N := 18) X hM hS (ct_X5_loadingOf hst v0 v4) hP mV_X5_215 rfl rfl rfl hl.1 (Nat.le_of_ble_eq_true rfl) ⟨⟨by decide, by decide⟩, by decide, by decide⟩ dX5_goesAhead_87 (x_out hno hlocks rfl rfl) (fun r4 M H locs hM hS hP => ?_)
        refine lv_fstore (lv' := [(8, .float r4), (7, .float r3), (6, .int t0), (0, .ref v0), (1, .int v1), (2, .int v2), (3, .ref v3), (4, .ref v4), (5, .int v5)]) hx hb dX5_goesAhead_90 hl (by decide) rfl (fun ls hl => ?_)
        refine lv_fload hx hb dX5_goesAhead_92 (lv_at hl 1 rfl) ?_
        refine lv_fload hx hb dX5_goesAhead_94 (lv_at hl 0 rfl) ?_
        refine lv_fcmp hx hb dX5_goesAhead_96 ?_
        refine lv_if_eq (tgt := 116) hx hb dX5_goesAhead_97 (by decide) (fun hc => ?_) (fun hc => ?_)
        · have hP := mIf_t hP hc
          refine lv_iload_n hx hb dX5_goesAhead_116 rfl (lv_at hl 4 rfl) ?_
          refine lv_iload_n hx hb dX5_goesAhead_117 rfl (lv_at hl 5 rfl) ?_
          refine lv_icmp_ge (tgt := 125) hx hb dX5_goesAhead_118 (by decide) (fun hc => ?_) (fun hc => ?_)
          · have hP := mIf_t hP hc
            refine lv_iconst (v := 0) hx hb dX5_goesAhead_125 (by decide) ?_
            exact hb126 0 _ _ _ _ hM hS (lv_sub hl [] rfl) hP
          · have hP := mIf_f hP hc
            refine lv_iconst (v := 1) hx hb dX5_goesAhead_121 (by decide) ?_
            refine lv_goto (tgt := 126) hx hb dX5_goesAhead_122 (by decide) ?_
            exact hb126 1 _ _ _ _ hM hS (lv_sub hl [] rfl) hP
        · have hP := mIf_f hP hc
          refine lv_fload hx hb dX5_goesAhead_100 (lv_at hl 1 rfl) ?_
          refine lv_fload hx hb dX5_goesAhead_102 (lv_at hl 0 rfl) ?_
          refine lv_fcmp hx hb dX5_goesAhead_104 ?_
          refine lv_if_le (tgt := 112) hx hb dX5_goesAhead_105 (by decide) (fun hc => ?_) (fun hc => ?_)
          · have hP := mIf_t hP hc
            refine lv_iconst (v := 0) hx hb dX5_goesAhead_112 (by decide) ?_
            refine lv_goto (tgt := 126) hx hb dX5_goesAhead_113 (by decide) ?_
            exact hb126 0 _ _ _ _ hM hS (lv_sub hl [] rfl) hP
          · have hP := mIf_f hP hc
            refine lv_iconst (v := 1) hx hb dX5_goesAhead_108 (by decide) ?_
            refine lv_goto (tgt := 126) hx hb dX5_goesAhead_109 (by decide) ?_
            exact hb126 1 _ _ _ _ hM hS (lv_sub hl [] rfl) hP
      · have hP := mIf_f hP hc
        refine lv_aload_n hx hb dX5_goesAhead_64 rfl (lv_at hl 4 rfl) ?_
        refine r_geti X hM hP fl_X5_169 dX5_goesAhead_65 (fun x5 hP => ?_)
        refine lv_if_ne (tgt := 75) hx hb dX5_goesAhead_68 (by decide) (fun hc => ?_) (fun hc => ?_)
        · have hP := mIf_f hP hc
          refine lv_iconst (v := 0) hx hb dX5_goesAhead_75 (by decide) ?_
          exact hb76 0 _ _ _ _ hM hS (lv_sub hl [] rfl) hP
        · have hP := mIf_t hP hc
          refine lv_iconst (v := 1) hx hb dX5_goesAhead_71 (by decide) ?_
          refine lv_goto (tgt := 76) hx hb dX5_goesAhead_72 (by decide) ?_
          exact hb76 1 _ _ _ _ hM hS (lv_sub hl [] rfl) hP
    · have hP := mIf_f hP hc
      refine lv_iload hx hb dX5_goesAhead_49 (lv_at hl 0 rfl) ?_
      obtain ⟨h9, hP⟩ := hP
      exact vy_ret (e_zret X hM hS h9 (hk _ _ hP) hr hlocks (by decide) (by decide) dX5_goesAhead_51)
  have hb25 : ∀ (v0 : Nat) (v1 : Int32) (v2 : Int32) (v3 : Nat) (v4 : Nat) (t0 : Int32) (M : Mem) (H : Heap) (locs : List Loc) (ls : Array Slot), mh K M H → va_S (mFA K) s.heap H locs → lv_has ls 9 [(0, .ref v0), (1, .int v1), (2, .int v2), (3, .ref v3), (4, .ref v4)] → f_X5_goesAhead_b25 K k QX v0 v1 v2 v3 v4 t0 M → W p l e rm_X5_goesAhead s m ([.ref a0, .int a1, .int a2] : List Value).toArray below meth c H locs 0 0 (vy_MQ below (mQ K Q) (mX K QX) ([.ref a0, .int a1, .int a2] : List Value).toArray s 0 0 1 6 (mFA K)) (F0 m 25 ls [.int t0]) := by
    intro v0 v1 v2 v3 v4 t0 M H locs ls hM hS hl hP
    unfold f_X5_goesAhead_b25 at hP
    refine lv_istore (lv' := [(5, .int t0), (0, .ref v0), (1, .int v1), (2, .int v2), (3, .ref v3), (4, .ref v4)]) hx hb dX5_goesAhead_25 hl (by decide) rfl (fun ls hl => ?_)
    refine lv_aload hx hb dX5_goesAhead_27 (lv_at hl 5 rfl) ?_
    refine r_geti X hM hP fl_X5_100 dX5_goesAhead_29 (fun x1 hP => ?_)
    refine lv_if_ne (tgt := 39) hx hb dX5_goesAhead_32 (by decide) (fun hc => ?_) (fun hc => ?_)
    · have hP := mIf_f hP hc
      refine lv_iconst (v := 0) hx hb dX5_goesAhead_39 (by decide) ?_
      exact hb40 v0 v1 v2 v3 v4 t0 0 _ _ _ _ hM hS (lv_sub hl [1, 2, 3, 4, 5, 0] rfl) hP
    · have hP := mIf_t hP hc
      refine lv_iconst (v := 1) hx hb dX5_goesAhead_35 (by decide) ?_
      refine lv_goto (tgt := 40) hx hb dX5_goesAhead_36 (by decide) ?_
      exact hb40 v0 v1 v2 v3 v4 t0 1 _ _ _ _ hM hS (lv_sub hl [1, 2, 3, 4, 5, 0] rfl) hP
  unfold f_X5_goesAhead at hP
  refine lv_aload_n hx hb dX5_goesAhead_0 rfl (lv_at hl 0 rfl) ?_
  refine lv_iload_n hx hb dX5_goesAhead_1 rfl (lv_at hl 1 rfl) ?_
  refine rx_callVr (rest := []) (T := TX5) (N := 18) X hM hS (ct_X5_jumperAt hst a0 a1) hP mV_X5_118 rfl rfl rfl hl.1 (Nat.le_of_ble_eq_true rfl) ⟨⟨by decide, by decide⟩, by decide, by decide⟩ dX5_goesAhead_2 (x_out hno hlocks rfl rfl) (fun r1 M H locs hM hS hP => ?_)
  refine lv_astore_n (lv' := [(3, .ref r1), (0, .ref a0), (1, .int a1), (2, .int a2)]) hx hb dX5_goesAhead_5 rfl hl (by decide) rfl (fun ls hl => ?_)
  refine lv_aload_n hx hb dX5_goesAhead_6 rfl (lv_at hl 1 rfl) ?_
  refine lv_iload_n hx hb dX5_goesAhead_7 rfl (lv_at hl 3 rfl) ?_
  refine rx_callVr (rest := []) (T := TX5) (N := 18) X hM hS (ct_X5_jumperAt hst a0 a2) hP mV_X5_118 rfl rfl rfl hl.1 (Nat.le_of_ble_eq_true rfl) ⟨⟨by decide, by decide⟩, by decide, by decide⟩ dX5_goesAhead_8 (x_out hno hlocks rfl rfl) (fun r2 M H locs hM hS hP => ?_)
  refine lv_astore (lv' := [(4, .ref r2), (3, .ref r1), (0, .ref a0), (1, .int a1), (2, .int a2)]) hx hb dX5_goesAhead_11 hl (by decide) rfl (fun ls hl => ?_)
  refine lv_aload_n hx hb dX5_goesAhead_13 rfl (lv_at hl 1 rfl) ?_
  refine r_geti X hM hP fl_X5_100 dX5_goesAhead_14 (fun x3 hP => ?_)
  refine lv_if_ne (tgt := 24) hx hb dX5_goesAhead_17 (by decide) (fun hc => ?_) (fun hc => ?_)
  · have hP := mIf_f hP hc
    refine lv_iconst (v := 0) hx hb dX5_goesAhead_24 (by decide) ?_
    exact hb25 a0 a1 a2 r1 r2 0 _ _ _ _ hM hS (lv_sub hl [2, 3, 4, 1, 0] rfl) hP
  · have hP := mIf_t hP hc
    refine lv_iconst (v := 1) hx hb dX5_goesAhead_20 (by decide) ?_
    refine lv_goto (tgt := 25) hx hb dX5_goesAhead_21 (by decide) ?_
    exact hb25 a0 a1 a2 r1 r2 1 _ _ _ _ hM hS (lv_sub hl [2, 3, 4, 1, 0] rfl) hP
def f_X5_setPlace_b17 (K : Cfg) (k : Mem → Prop) : Mem → Prop :=
 k
def f_X5_setPlace (K : Cfg) (a0 : Nat) (a1 : Int32) (a2 : Int32) (k : Mem → Prop) : Mem → Prop :=
 mIf (a1 < 0)
 (f_X5_setPlace_b17 K k)
 (mIf (6 ≤ a1)
 (f_X5_setPlace_b17 K k)
 (mGetR a0 6 5 fun x1 =>
 mStI K x1 a1 a2 <|
 f_X5_setPlace_b17 K k))
abbrev rm_X5_setPlace : Room := { frames := 0, cells := 0, slots := 0, locals := 0 }
set_option maxHeartbeats 4000000 in
set_option maxRecDepth 100000 in
theorem ct_X5_setPlace {K : Cfg} {l : Launch} (hst : l.stackTraces = false) (a0 : Nat) (a1 : Int32) (a2 : Int32) : mPv K l yX5_setPlace cX5_setPlace 3 none rm_X5_setPlace [.ref a0, .int a1, .int a2] (f_X5_setPlace K a0 a1 a2) := by
  refine mPv.of hst (by decide +kernel) (Nat.le_of_ble_eq_true rfl) ?_
  intro M k Q hk hP p e s m below meth c X hr hlocks hname hM ls hl
  have hx := X.1.1
  have hb := X.1.2.1
  have X : Cx K p l s m ([.ref a0, .int a1, .int a2] : List Value).toArray c cX5_setPlace 3 RX5 := X
  have hS : va_S (mFA K) s.heap s.heap [] := va_S.rf
  have hl : lv_has ls 3 [(0, .ref a0), (1, .int a1), (2, .int a2)] := hl
  have hb17 : ∀ (M : Mem) (H : Heap) (locs : List Loc) (ls : Array Slot), mh K M H → va_S (mFA K) s.heap H locs → lv_has ls 3 [] → f_X5_setPlace_b17 K k M → W p l e rm_X5_setPlace s m ([.ref a0, .int a1, .int a2] : List Value).toArray below meth c H locs 0 0 (MQ below (mQ K Q) ([.ref a0, .int a1, .int a2] : List Value).toArray s rm_X5_setPlace.cells rm_X5_setPlace.slots (mFA K)) (F0 m 17 ls []) := by
    intro M H locs ls hM hS hl hP
    unfold f_X5_setPlace_b17 at hP
    exact e_vret X hM hS (hk _ hP) hr hlocks (by decide) (by decide) dX5_setPlace_17
  unfold f_X5_setPlace at hP
  refine lv_iload_n hx hb dX5_setPlace_0 rfl (lv_at hl 1 rfl) ?_
  refine lv_if_lt (tgt := 17) hx hb dX5_setPlace_1 (by decide) (fun hc => ?_) (fun hc => ?_)
  · have hP := mIf_t hP hc
    exact hb17 _ _ _ _ hM hS (lv_sub hl [] rfl) hP
  · have hP := mIf_f hP hc
    refine lv_iload_n hx hb dX5_setPlace_4 rfl (lv_at hl 1 rfl) ?_
    refine lv_bipush (v := 6) hx hb dX5_setPlace_5 (by decide) ?_
    refine lv_icmp_ge (tgt := 17) hx hb dX5_setPlace_7 (by decide) (fun hc => ?_) (fun hc => ?_)
    · have hP := mIf_t hP hc
      exact hb17 _ _ _ _ hM hS (lv_sub hl [] rfl) hP
    · have hP := mIf_f hP hc
      refine lv_aload_n hx hb dX5_setPlace_10 rfl (lv_at hl 0 rfl) ?_
      refine r_getr X hM hP fl_X5_35 dX5_setPlace_11 (fun x1 hP => ?_)
      refine lv_iload_n hx hb dX5_setPlace_14 rfl (lv_at hl 1 rfl) ?_
      refine lv_iload_n hx hb dX5_setPlace_15 rfl (lv_at hl 2 rfl) ?_
      refine r_sti X hM hS hP dX5_setPlace_16 (fun M H locs hM hS hP => ?_)
      exact hb17 _ _ _ _ hM hS (lv_sub hl [] rfl) hP
def f_X5_lineUp_b42 (K : Cfg) (k : Mem → Prop) (QX : String → Mem → Prop) (v0 : Nat) (v1 : Int32) (v2 : Int32) : Mem → Prop :=
 mRecv v0 6 <|
 f_X5_setPlace K v0 v2 v1 (
 mGetI v0 6 6 fun x2 =>
 mPut v0 6 6 (.int (x2 + 1)) <|
 k)
def f_X5_lineUp_b5_body (K : Cfg) (k : Mem → Prop) (QX : String → Mem → Prop) (lp5 : Nat → Int32 → Int32 → Mem → Prop) (v0 : Nat) (v1 : Int32) (v2 : Int32) : Mem → Prop :=
 mIf (v2 ≤ 0)
 (f_X5_lineUp_b42 K k QX v0 v1 v2)
 (mRecv v0 6 <|
 f_X5_order K v0 (v2 - 1) (fun r1 =>
 mRecv v0 6 <|
 f_X5_goesAhead K v0 v1 r1 (fun r2 =>
 mIf (r2 = 0)
 (f_X5_lineUp_b42 K k QX v0 v1 v2)
 (mRecv v0 6 <|
 f_X5_order K v0 (v2 - 1) (fun r3 =>
 mRecv v0 6 <|
 f_X5_setPlace K v0 v2 r3 (
 lp5 v0 v1 (v2 + (-1)))) QX)) QX) QX)
def f_X5_lineUp_b5 (K : Cfg) (k : Mem → Prop) (QX : String → Mem → Prop) : Nat → Nat → Int32 → Int32 → Mem → Prop
  | 0 => fun _ _ _ _ => False
  | n + 1 => f_X5_lineUp_b5_body K k QX (f_X5_lineUp_b5 K k QX n)
def f_X5_lineUp (K : Cfg) (a0 : Nat) (a1 : Int32) (k : Mem → Prop) (QX : String → Mem → Prop) : Mem → Prop :=
 mGetI a0 6 6 fun x1 =>
 f_X5_lineUp_b5 K k QX mFuel a0 a1 x1
abbrev rm_X5_lineUp : Room := { frames := 9, cells := 1, slots := 6, locals := 152 }
set_option maxHeartbeats 4000000 in
set_option maxRecDepth 100000 in
theorem ct_X5_lineUp {K : Cfg} {l : Launch} (hst : l.stackTraces = false) (a0 : Nat) (a1 : Int32) : mXPv K l yX5_lineUp cX5_lineUp 3 none rm_X5_lineUp [.ref a0, .int a1] (f_X5_lineUp K a0 a1) := by
  refine mXPv.of hst (by decide +kernel) (Nat.le_of_ble_eq_true rfl) ?_
  intro M k Q QX hk hP p e s m below meth c X hr hlocks hno hM ls hl
  have hx := X.1.1
  have hb := X.1.2.1
  have X : Cx K p l s m ([.ref a0, .int a1] : List Value).toArray c cX5_lineUp 3 RX5 := X
  have hS : va_S (mFA K) s.heap s.heap [] := va_S.rf
  have hl : lv_has ls 3 [(0, .ref a0), (1, .int a1)] := hl
  have hb42 : ∀ (v0 : Nat) (v1 : Int32) (v2 : Int32) (M : Mem) (H : Heap) (locs : List Loc) (ls : Array Slot), mh K M H → va_S (mFA K) s.heap H locs → lv_has ls 3 [(0, .ref v0), (1, .int v1), (2, .int v2)] → f_X5_lineUp_b42 K k QX v0 v1 v2 M → W p l e rm_X5_lineUp s m ([.ref a0, .int a1] : List Value).toArray below meth c H locs 0 0 (vy_MQ below (mQ K Q) (mX K QX) ([.ref a0, .int a1] : List Value).toArray s 0 0 1 6 (mFA K)) (F0 m 42 ls []) := by
    intro v0 v1 v2 M H locs ls hM hS hl hP
    unfold f_X5_lineUp_b42 at hP
    refine lv_aload_n hx hb dX5_lineUp_42 rfl (lv_at hl 0 rfl) ?_
    refine lv_iload_n hx hb dX5_lineUp_43 rfl (lv_at hl 2 rfl) ?_
    refine lv_iload_n hx hb dX5_lineUp_44 rfl (lv_at hl 1 rfl) ?_
    refine r_callVv (rest := []) (T := TX5) (N := 18) X hM hS (ct_X5_setPlace hst v0 v2 v1) hP mV_X5_346 rfl rfl rfl hl.1 (Nat.le_of_ble_eq_true rfl) ⟨⟨by decide, by decide⟩, ⟨by decide, by decide⟩⟩ dX5_lineUp_45 (fun M H locs hM hS hP => ?_)
    refine lv_aload_n hx hb dX5_lineUp_48 rfl (lv_at hl 0 rfl) ?_
    refine lv_dup hx hb dX5_lineUp_49 rfl ?_
    refine r_geti X hM hP fl_X5_39 dX5_lineUp_50 (fun x2 hP => ?_)
    refine lv_iconst (v := 1) hx hb dX5_lineUp_53 (by decide) ?_
    refine lv_iadd hx hb dX5_lineUp_54 ?_
    refine r_put X hM hS hP fl_X5_39 ft_X5 rfl (tyX5_ok 6 (Nat.le_of_ble_eq_true rfl)) rfl rfl dX5_lineUp_55 (fun M H locs hM hS hP => ?_)
    exact vy_ret (e_vret X hM hS (hk _ hP) hr hlocks (by decide) (by decide) dX5_lineUp_58)
  have hb5 : ∀ (n5 : Nat) (v0 : Nat) (v1 : Int32) (v2 : Int32) (M : Mem) (H : Heap) (locs : List Loc) (ls : Array Slot), mh K M H → va_S (mFA K) s.heap H locs → lv_has ls 3 [(0, .ref v0), (1, .int v1), (2, .int v2)] → f_X5_lineUp_b5 K k QX n5 v0 v1 v2 M → W p l e rm_X5_lineUp s m ([.ref a0, .int a1] : List Value).toArray below meth c H locs 0 0 (vy_MQ below (mQ K Q) (mX K QX) ([.ref a0, .int a1] : List Value).toArray s 0 0 1 6 (mFA K)) (F0 m 5 ls []) := by
    intro n5
    induction n5 with
    | zero =>
      intro v0 v1 v2 M H locs ls hM hS hl hP
      exact hP.elim
    | succ n5 ih5 =>
      intro v0 v1 v2 M H locs ls hM hS hl hP
      have hP : f_X5_lineUp_b5_body K k QX (f_X5_lineUp_b5 K k QX n5) v0 v1 v2 M := hP
      unfold f_X5_lineUp_b5_body at hP
      refine lv_iload_n hx hb dX5_lineUp_5 rfl (lv_at hl 2 rfl) ?_
      refine lv_if_le (tgt := 42) hx hb dX5_lineUp_6 (by decide) (fun hc => ?_) (fun hc => ?_)
      · have hP := mIf_t hP hc
        exact hb42 v0 v1 v2 _ _ _ _ hM hS (lv_sub hl [0, 1, 2] rfl) hP
      · have hP := mIf_f hP hc
        refine lv_aload_n hx hb dX5_lineUp_9 rfl (lv_at hl 0 rfl) ?_
        refine lv_iload_n hx hb dX5_lineUp_10 rfl (lv_at hl 1 rfl) ?_
        refine lv_aload_n hx hb dX5_lineUp_11 rfl (lv_at hl 0 rfl) ?_
        refine lv_iload_n hx hb dX5_lineUp_12 rfl (lv_at hl 2 rfl) ?_
        refine lv_iconst (v := 1) hx hb dX5_lineUp_13 (by decide) ?_
        refine lv_isub hx hb dX5_lineUp_14 ?_
        refine rx_callVi (rest := [.int v1, .ref v0]) (T := TX5) (N := 18) X hM hS (ct_X5_order hst v0 (v2 - 1)) hP mV_X5_194 rfl rfl rfl hl.1 (Nat.le_of_ble_eq_true rfl) ⟨⟨by decide, by decide⟩, by decide, by decide⟩ dX5_lineUp_15 (x_out hno hlocks rfl rfl) (fun r1 M H locs hM hS hP => ?_)
        refine rx_callVi (rest := []) (T := TX5) (N := 18) X hM hS (ct_X5_goesAhead hst v0 v1 r1) hP mV_X5_342 rfl rfl rfl hl.1 (Nat.le_of_ble_eq_true rfl) ⟨⟨by decide, by decide⟩, by decide, by decide⟩ dX5_lineUp_18 (x_out hno hlocks rfl rfl) (fun r2 M H locs hM hS hP => ?_)
        refine lv_if_eq (tgt := 42) hx hb dX5_lineUp_21 (by decide) (fun hc => ?_) (fun hc => ?_)
        · have hP := mIf_t hP hc
          exact hb42 v0 v1 v2 _ _ _ _ hM hS (lv_sub hl [0, 1, 2] rfl) hP
        · have hP := mIf_f hP hc
          refine lv_aload_n hx hb dX5_lineUp_24 rfl (lv_at hl 0 rfl) ?_
          refine lv_iload_n hx hb dX5_lineUp_25 rfl (lv_at hl 2 rfl) ?_
          refine lv_aload_n hx hb dX5_lineUp_26 rfl (lv_at hl 0 rfl) ?_
          refine lv_iload_n hx hb dX5_lineUp_27 rfl (lv_at hl 2 rfl) ?_
          refine lv_iconst (v := 1) hx hb dX5_lineUp_28 (by decide) ?_
          refine lv_isub hx hb dX5_lineUp_29 ?_
          refine rx_callVi (rest := [.int v2, .ref v0]) (T := TX5) (N := 18) X hM hS (ct_X5_order hst v0 (v2 - 1)) hP mV_X5_194 rfl rfl rfl hl.1 (Nat.le_of_ble_eq_true rfl) ⟨⟨by decide, by decide⟩, by decide, by decide⟩ dX5_lineUp_30 (x_out hno hlocks rfl rfl) (fun r3 M H locs hM hS hP => ?_)
          refine r_callVv (rest := []) (T := TX5) (N := 18) X hM hS (ct_X5_setPlace hst v0 v2 r3) hP mV_X5_346 rfl rfl rfl hl.1 (Nat.le_of_ble_eq_true rfl) ⟨⟨by decide, by decide⟩, ⟨by decide, by decide⟩⟩ dX5_lineUp_33 (fun M H locs hM hS hP => ?_)
          refine lv_iinc (v := v2 + (-1)) (lv' := [(2, .int (v2 + (-1))), (0, .ref v0), (1, .int v1)]) hx hb dX5_lineUp_36 hl (k := 2) rfl rfl (by decide) rfl (fun ls hl => ?_)
          refine lv_goto (tgt := 5) hx hb dX5_lineUp_39 (by decide) ?_
          exact ih5 v0 v1 (v2 + (-1)) _ _ _ _ hM hS (lv_sub hl [1, 2, 0] rfl) hP
  unfold f_X5_lineUp at hP
  refine lv_aload_n hx hb dX5_lineUp_0 rfl (lv_at hl 0 rfl) ?_
  refine r_geti X hM hP fl_X5_39 dX5_lineUp_1 (fun x1 hP => ?_)
  refine lv_istore_n (lv' := [(2, .int x1), (0, .ref a0), (1, .int a1)]) hx hb dX5_lineUp_4 rfl hl (by decide) rfl (fun ls hl => ?_)
  exact hb5 mFuel a0 a1 x1 _ _ _ _ hM hS (lv_sub hl [1, 2, 0] rfl) hP
def f_X5_board_b48 (K : Cfg) (k : Int32 → Mem → Prop) (QX : String → Mem → Prop) : Mem → Prop :=
 QX "java/lang/IllegalStateException"
def f_X5_board_b27 (K : Cfg) (k : Int32 → Mem → Prop) (QX : String → Mem → Prop) (v0 : Nat) (v1 : Int32) (v2 : Int32) (v3 : Int32) (v4 : Nat) (t0 : Int32) (t1 : Int32) : Mem → Prop :=
 f_X5_checkArgument K t0 t1 6 (
 mGetI v0 6 7 fun x2 =>
 mIf (x2 = 0)
 (mGetI v0 6 6 fun x3 =>
 mIf (x3 < 6)
 (mRecv v0 6 <|
 f_X5_whyNot K v0 v1 (fun r4 =>
 mIf (r4 = 0)
 (mPut v4 3 10 (.int v2) <|
 mPut v4 3 11 (.int v3) <|
 mRecv v0 6 <|
 f_X5_lineUp K v0 v1 (
 mGetI v0 6 6 fun x6 =>
 k x6) QX)
 (k (-r4))) QX)
 (f_X5_board_b48 K k QX))
 (f_X5_board_b48 K k QX)) QX
def f_X5_board (K : Cfg) (a0 : Nat) (a1 : Int32) (a2 : Int32) (a3 : Int32) (k : Int32 → Mem → Prop) (QX : String → Mem → Prop) : Mem → Prop :=
 mRecv a0 6 <|
 f_X5_jumperAt K a0 a1 (fun r1 =>
 f_X5_checkArgument K a2 0 1 (
 mGetI r1 3 1 fun x3 =>
 mIf (x3 = 0)
 (f_X5_board_b27 K k QX a0 a1 a2 a3 r1 a3 4)
 (f_X5_board_b27 K k QX a0 a1 a2 a3 r1 a3 2)) QX) QX
abbrev rm_X5_board : Room := { frames := 10, cells := 1, slots := 6, locals := 174 }
set_option maxHeartbeats 4000000 in
set_option maxRecDepth 100000 in
theorem ct_X5_board {K : Cfg} {l : Launch} (hst : l.stackTraces = false) (a0 : Nat) (a1 : Int32) (a2 : Int32) (a3 : Int32) : mXPi K l yX5_board cX5_board 6 (some .int) rm_X5_board [.ref a0, .int a1, .int a2, .int a3] (f_X5_board K a0 a1 a2 a3) := by
  refine mXPi.of hst (by decide +kernel) (Nat.le_of_ble_eq_true rfl) ?_
  intro M k Q QX hk hP p e s m below meth c X hr hlocks hno hM ls hl
  have hx := X.1.1
  have hb := X.1.2.1
  have X : Cx K p l s m ([.ref a0, .int a1, .int a2, .int a3] : List Value).toArray c cX5_board 6 RX5 := X
  have hS : va_S (mFA K) s.heap s.heap [] := va_S.rf
  have hl : lv_has ls 6 [(0, .ref a0), (1, .int a1), (2, .int a2), (3, .int a3)] := hl
  have hb48 : ∀ (M : Mem) (H : Heap) (locs : List Loc) (ls : Array Slot), mh K M H → va_S (mFA K) s.heap H locs → lv_has ls 6 [] → f_X5_board_b48 K k QX M → W p l e rm_X5_board s m ([.ref a0, .int a1, .int a2, .int a3] : List Value).toArray below meth c H locs 0 0 (vy_MQ below (mQ K Q) (mX K QX) ([.ref a0, .int a1, .int a2, .int a3] : List Value).toArray s 0 0 1 6 (mFA K)) (F0 m 48 ls []) := by
    intro M H locs ls hM hS hl hP
    unfold f_X5_board_b48 at hP
    exact e_throw X hM hS hP th_X5_90_164 hno hlocks hl.1 rfl rfl ⟨by decide, by decide, by decide, by decide⟩ dX5_board_48 dX5_board_51 dX5_board_52 dX5_board_54 dX5_board_57
  have hb27 : ∀ (v0 : Nat) (v1 : Int32) (v2 : Int32) (v3 : Int32) (v4 : Nat) (t0 : Int32) (t1 : Int32) (M : Mem) (H : Heap) (locs : List Loc) (ls : Array Slot), mh K M H → va_S (mFA K) s.heap H locs → lv_has ls 6 [(0, .ref v0), (1, .int v1), (2, .int v2), (3, .int v3), (4, .ref v4)] → f_X5_board_b27 K k QX v0 v1 v2 v3 v4 t0 t1 M → W p l e rm_X5_board s m ([.ref a0, .int a1, .int a2, .int a3] : List Value).toArray below meth c H locs 0 0 (vy_MQ below (mQ K Q) (mX K QX) ([.ref a0, .int a1, .int a2, .int a3] : List Value).toArray s 0 0 1 6 (mFA K)) (F0 m 27 ls [.int t1, .int t0]) := by
    intro v0 v1 v2 v3 v4 t0 t1 M H locs ls hM hS hl hP
    unfold f_X5_board_b27 at hP
    refine lv_bipush (v := 6) hx hb dX5_board_27 (by decide) ?_
    refine rx_callSv (rest := []) X hM hS (ct_X5_checkArgument hst t0 t1 6) hP mS_X5_86 rfl rfl hl.1 (Nat.le_of_ble_eq_true rfl) ⟨⟨by decide, by decide⟩, by decide, by decide⟩ dX5_board_29 (x_out hno hlocks rfl rfl) (fun M H locs hM hS hP => ?_)
    refine lv_aload_n hx hb dX5_board_32 rfl (lv_at hl 0 rfl) ?_
    refine r_geti X hM hP fl_X5_42 dX5_board_33 (fun x2 hP => ?_)
    refine lv_if_ne (tgt := 48) hx hb dX5_board_36 (by decide) (fun hc => ?_) (fun hc => ?_)
    · have hP := mIf_f hP hc
      exact hb48 _ _ _ _ hM hS (lv_sub hl [] rfl) hP
    · have hP := mIf_t hP hc
      refine lv_aload_n hx hb dX5_board_39 rfl (lv_at hl 0 rfl) ?_
      refine r_geti X hM hP fl_X5_39 dX5_board_40 (fun x3 hP => ?_)
      refine lv_bipush (v := 6) hx hb dX5_board_43 (by decide) ?_
      refine lv_icmp_lt (tgt := 58) hx hb dX5_board_45 (by decide) (fun hc => ?_) (fun hc => ?_)
      · have hP := mIf_t hP hc
        refine lv_aload_n hx hb dX5_board_58 rfl (lv_at hl 0 rfl) ?_
        refine lv_iload_n hx hb dX5_board_59 rfl (lv_at hl 1 rfl) ?_
        refine rx_callVi (rest := []) (T := TX5) (N := 18) X hM hS (ct_X5_whyNot hst v0 v1) hP mV_X5_166 rfl rfl rfl hl.1 (Nat.le_of_ble_eq_true rfl) ⟨⟨by decide, by decide⟩, by decide, by decide⟩ dX5_board_60 (x_out hno hlocks rfl rfl) (fun r4 M H locs hM hS hP => ?_)
        refine lv_istore (lv' := [(5, .int r4), (0, .ref v0), (1, .int v1), (2, .int v2), (3, .int v3), (4, .ref v4)]) hx hb dX5_board_63 hl (by decide) rfl (fun ls hl => ?_)
        refine lv_iload hx hb dX5_board_65 (lv_at hl 0 rfl) ?_
        refine lv_if_eq (tgt := 74) hx hb dX5_board_67 (by decide) (fun hc => ?_) (fun hc => ?_)
        · have hP := mIf_t hP hc
          refine lv_aload hx hb dX5_board_74 (lv_at hl 5 rfl) ?_
          refine lv_iload_n hx hb dX5_board_76 rfl (lv_at hl 3 rfl) ?_
          refine r_put X hM hS hP fl_X5_169 ft_X2 rfl (tyX2_ok 10 (Nat.le_of_ble_eq_true rfl)) rfl rfl dX5_board_77 (fun M H locs hM hS hP => ?_)
          refine lv_aload hx hb dX5_board_80 (lv_at hl 5 rfl) ?_
          refine lv_iload_n hx hb dX5_board_82 rfl (lv_at hl 4 rfl) ?_
          refine r_put X hM hS hP fl_X5_172 ft_X2 rfl (tyX2_ok 11 (Nat.le_of_ble_eq_true rfl)) rfl rfl dX5_board_83 (fun M H locs hM hS hP => ?_)
          refine lv_aload_n hx hb dX5_board_86 rfl (lv_at hl 1 rfl) ?_
          refine lv_iload_n hx hb dX5_board_87 rfl (lv_at hl 2 rfl) ?_
          refine rx_callVv (rest := []) (T := TX5) (N := 18) X hM hS (ct_X5_lineUp hst v0 v1) hP mV_X5_175 rfl rfl rfl hl.1 (Nat.le_of_ble_eq_true rfl) ⟨⟨by decide, by decide⟩, by decide, by decide⟩ dX5_board_88 (x_out hno hlocks rfl rfl) (fun M H locs hM hS hP => ?_)
          refine lv_aload_n hx hb dX5_board_91 rfl (lv_at hl 1 rfl) ?_
          refine r_geti X hM hP fl_X5_39 dX5_board_92 (fun x6 hP => ?_)
          exact vy_ret (e_iret X hM hS (hk _ _ hP) hr hlocks (by decide) (by decide) dX5_board_95)
        · have hP := mIf_f hP hc
          refine lv_iload hx hb dX5_board_70 (lv_at hl 0 rfl) ?_
          refine lv_ineg hx hb dX5_board_72 ?_
          exact vy_ret (e_iret X hM hS (hk _ _ hP) hr hlocks (by decide) (by decide) dX5_board_73)
      · have hP := mIf_f hP hc
        exact hb48 _ _ _ _ hM hS (lv_sub hl [] rfl) hP
  unfold f_X5_board at hP
  refine lv_aload_n hx hb dX5_board_0 rfl (lv_at hl 0 rfl) ?_
  refine lv_iload_n hx hb dX5_board_1 rfl (lv_at hl 1 rfl) ?_
  refine rx_callVr (rest := []) (T := TX5) (N := 18) X hM hS (ct_X5_jumperAt hst a0 a1) hP mV_X5_118 rfl rfl rfl hl.1 (Nat.le_of_ble_eq_true rfl) ⟨⟨by decide, by decide⟩, by decide, by decide⟩ dX5_board_2 (x_out hno hlocks rfl rfl) (fun r1 M H locs hM hS hP => ?_)
  refine lv_astore (lv' := [(4, .ref r1), (0, .ref a0), (1, .int a1), (2, .int a2), (3, .int a3)]) hx hb dX5_board_5 hl (by decide) rfl (fun ls hl => ?_)
  refine lv_iload_n hx hb dX5_board_7 rfl (lv_at hl 3 rfl) ?_
  refine lv_iconst (v := 0) hx hb dX5_board_8 (by decide) ?_
  refine lv_iconst (v := 1) hx hb dX5_board_9 (by decide) ?_
  refine rx_callSv (rest := []) X hM hS (ct_X5_checkArgument hst a2 0 1) hP mS_X5_86 rfl rfl hl.1 (Nat.le_of_ble_eq_true rfl) ⟨⟨by decide, by decide⟩, by decide, by decide⟩ dX5_board_10 (x_out hno hlocks rfl rfl) (fun M H locs hM hS hP => ?_)
  refine lv_iload_n hx hb dX5_board_13 rfl (lv_at hl 4 rfl) ?_
  refine lv_aload hx hb dX5_board_14 (lv_at hl 0 rfl) ?_
  refine r_geti X hM hP fl_X5_100 dX5_board_16 (fun x3 hP => ?_)
  refine lv_if_ne (tgt := 26) hx hb dX5_board_19 (by decide) (fun hc => ?_) (fun hc => ?_)
  · have hP := mIf_f hP hc
    refine lv_iconst (v := 2) hx hb dX5_board_26 (by decide) ?_
    exact hb27 a0 a1 a2 a3 r1 a3 2 _ _ _ _ hM hS (lv_sub hl [1, 2, 3, 4, 0] rfl) hP
  · have hP := mIf_t hP hc
    refine lv_iconst (v := 4) hx hb dX5_board_22 (by decide) ?_
    refine lv_goto (tgt := 27) hx hb dX5_board_23 (by decide) ?_
    exact hb27 a0 a1 a2 a3 r1 a3 4 _ _ _ _ hM hS (lv_sub hl [1, 2, 3, 4, 0] rfl) hP
def f_X5_empty (K : Cfg) (a0 : Nat) (k : Int32 → Mem → Prop) : Mem → Prop :=
 mGetI a0 6 6 fun x1 =>
 mPut a0 6 6 (.int 0) <|
 k x1
abbrev rm_X5_empty : Room := { frames := 0, cells := 0, slots := 0, locals := 0 }
set_option maxHeartbeats 4000000 in
set_option maxRecDepth 100000 in
theorem ct_X5_empty {K : Cfg} {l : Launch} (hst : l.stackTraces = false) (a0 : Nat) : mPi K l yX5_empty cX5_empty 2 (some .int) rm_X5_empty [.ref a0] (f_X5_empty K a0) := by
  refine mPi.of hst (by decide +kernel) (Nat.le_of_ble_eq_true rfl) ?_
  intro M k Q hk hP p e s m below meth c X hr hlocks hname hM ls hl
  have hx := X.1.1
  have hb := X.1.2.1
  have X : Cx K p l s m ([.ref a0] : List Value).toArray c cX5_empty 2 RX5 := X
  have hS : va_S (mFA K) s.heap s.heap [] := va_S.rf
  have hl : lv_has ls 2 [(0, .ref a0)] := hl
  unfold f_X5_empty at hP
  refine lv_aload_n hx hb dX5_empty_0 rfl (lv_at hl 0 rfl) ?_
  refine r_geti X hM hP fl_X5_39 dX5_empty_1 (fun x1 hP => ?_)
  refine lv_istore_n (lv' := [(1, .int x1), (0, .ref a0)]) hx hb dX5_empty_4 rfl hl (by decide) rfl (fun ls hl => ?_)
  refine lv_aload_n hx hb dX5_empty_5 rfl (lv_at hl 1 rfl) ?_
  refine lv_iconst (v := 0) hx hb dX5_empty_6 (by decide) ?_
  refine r_put X hM hS hP fl_X5_39 ft_X5 rfl (tyX5_ok 6 (Nat.le_of_ble_eq_true rfl)) rfl rfl dX5_empty_7 (fun M H locs hM hS hP => ?_)
  refine lv_iload_n hx hb dX5_empty_10 rfl (lv_at hl 0 rfl) ?_
  exact e_iret X hM hS (hk _ _ hP) hr hlocks (by decide) (by decide) dX5_empty_11
def f_X5_planFlight_b13_body (K : Cfg) (k : Mem → Prop) (QX : String → Mem → Prop) (lp13 : Nat → Int32 → Mem → Prop) (v0 : Nat) (v1 : Int32) : Mem → Prop :=
 mGetI v0 6 6 fun x1 =>
 mIf (x1 ≤ v1)
 (k)
 (mRecv v0 6 <|
 f_X5_order K v0 v1 (fun r2 =>
 mRecv v0 6 <|
 f_X5_jumperAt K v0 r2 (fun r3 =>
 mGetR v0 6 8 fun x4 =>
 mRecv x4 1 <|
 f_X0_jumpAt K x4 v1 (fun r5 =>
 mGetI r3 3 1 fun x6 =>
 mGetI r3 3 10 fun x7 =>
 mGetI r3 3 11 fun x8 =>
 mRecv v0 6 <|
 f_X5_loadingOf K v0 r3 (fun r9 =>
 mRecv r5 2 <|
 f_X1_plan K r5 x6 x7 x8 r9 (
 lp13 v0 (v1 + 1))) QX)) QX) QX)
def f_X5_planFlight_b13 (K : Cfg) (k : Mem → Prop) (QX : String → Mem → Prop) : Nat → Nat → Int32 → Mem → Prop
  | 0 => fun _ _ _ => False
  | n + 1 => f_X5_planFlight_b13_body K k QX (f_X5_planFlight_b13 K k QX n)
def f_X5_planFlight (K : Cfg) (a0 : Nat) (k : Mem → Prop) (QX : String → Mem → Prop) : Mem → Prop :=
 mGetR a0 6 8 fun x1 =>
 mGetI a0 6 6 fun x2 =>
 mPut x1 1 1 (.int x2) <|
 f_X5_planFlight_b13 K k QX mFuel a0 0
abbrev rm_X5_planFlight : Room := { frames := 8, cells := 1, slots := 6, locals := 124 }
set_option maxHeartbeats 4000000 in
set_option maxRecDepth 100000 in
theorem ct_X5_planFlight {K : Cfg} {l : Launch} (hst : l.stackTraces = false) (a0 : Nat) : mXPv K l yX5_planFlight cX5_planFlight 3 none rm_X5_planFlight [.ref a0] (f_X5_planFlight K a0) := by
  refine mXPv.of hst (by decide +kernel) (Nat.le_of_ble_eq_true rfl) ?_
  intro M k Q QX hk hP p e s m below meth c X hr hlocks hno hM ls hl
  have hx := X.1.1
  have hb := X.1.2.1
  have X : Cx K p l s m ([.ref a0] : List Value).toArray c cX5_planFlight 3 RX5 := X
  have hS : va_S (mFA K) s.heap s.heap [] := va_S.rf
  have hl : lv_has ls 3 [(0, .ref a0)] := hl
  have hb13 : ∀ (n13 : Nat) (v0 : Nat) (v1 : Int32) (M : Mem) (H : Heap) (locs : List Loc) (ls : Array Slot), mh K M H → va_S (mFA K) s.heap H locs → lv_has ls 3 [(0, .ref v0), (1, .int v1)] → f_X5_planFlight_b13 K k QX n13 v0 v1 M → W p l e rm_X5_planFlight s m ([.ref a0] : List Value).toArray below meth c H locs 0 0 (vy_MQ below (mQ K Q) (mX K QX) ([.ref a0] : List Value).toArray s 0 0 1 6 (mFA K)) (F0 m 13 ls []) := by
    intro n13
    induction n13 with
    | zero =>
      intro v0 v1 M H locs ls hM hS hl hP
      exact hP.elim
    | succ n13 ih13 =>
      intro v0 v1 M H locs ls hM hS hl hP
      have hP : f_X5_planFlight_b13_body K k QX (f_X5_planFlight_b13 K k QX n13) v0 v1 M := hP
      unfold f_X5_planFlight_b13_body at hP
      refine lv_iload_n hx hb dX5_planFlight_13 rfl (lv_at hl 1 rfl) ?_
      refine lv_aload_n hx hb dX5_planFlight_14 rfl (lv_at hl 0 rfl) ?_
      refine r_geti X hM hP fl_X5_39 dX5_planFlight_15 (fun x1 hP => ?_)
      refine lv_icmp_ge (tgt := 65) hx hb dX5_planFlight_18 (by decide) (fun hc => ?_) (fun hc => ?_)
      · have hP := mIf_t hP hc
        exact vy_ret (e_vret X hM hS (hk _ hP) hr hlocks (by decide) (by decide) dX5_planFlight_65)
      · have hP := mIf_f hP hc
        refine lv_aload_n hx hb dX5_planFlight_21 rfl (lv_at hl 0 rfl) ?_
        refine lv_aload_n hx hb dX5_planFlight_22 rfl (lv_at hl 0 rfl) ?_
        refine lv_iload_n hx hb dX5_planFlight_23 rfl (lv_at hl 1 rfl) ?_
        refine rx_callVi (rest := [.ref v0]) (T := TX5) (N := 18) X hM hS (ct_X5_order hst v0 v1) hP mV_X5_194 rfl rfl rfl hl.1 (Nat.le_of_ble_eq_true rfl) ⟨⟨by decide, by decide⟩, by decide, by decide⟩ dX5_planFlight_24 (x_out hno hlocks rfl rfl) (fun r2 M H locs hM hS hP => ?_)
        refine rx_callVr (rest := []) (T := TX5) (N := 18) X hM hS (ct_X5_jumperAt hst v0 r2) hP mV_X5_118 rfl rfl rfl hl.1 (Nat.le_of_ble_eq_true rfl) ⟨⟨by decide, by decide⟩, by decide, by decide⟩ dX5_planFlight_27 (x_out hno hlocks rfl rfl) (fun r3 M H locs hM hS hP => ?_)
        refine lv_astore_n (lv' := [(2, .ref r3), (0, .ref v0), (1, .int v1)]) hx hb dX5_planFlight_30 rfl hl (by decide) rfl (fun ls hl => ?_)
        refine lv_aload_n hx hb dX5_planFlight_31 rfl (lv_at hl 1 rfl) ?_
        refine r_getr X hM hP fl_X5_49 dX5_planFlight_32 (fun x4 hP => ?_)
        refine lv_iload_n hx hb dX5_planFlight_35 rfl (lv_at hl 2 rfl) ?_
        refine r_callVr (rest := []) (T := TX0) (N := 2) X hM hS (ct_X0_jumpAt hst x4 v1) hP mV_X5_197 rfl rfl rfl hl.1 (Nat.le_of_ble_eq_true rfl) ⟨⟨by decide, by decide⟩, ⟨by decide, by decide⟩⟩ dX5_planFlight_36 (fun r5 M H locs hM hS hP => ?_)
        refine lv_aload_n hx hb dX5_planFlight_39 rfl (lv_at hl 0 rfl) ?_
        refine r_geti X hM hP fl_X5_100 dX5_planFlight_40 (fun x6 hP => ?_)
        refine lv_aload_n hx hb dX5_planFlight_43 rfl (lv_at hl 0 rfl) ?_
        refine r_geti X hM hP fl_X5_169 dX5_planFlight_44 (fun x7 hP => ?_)
        refine lv_aload_n hx hb dX5_planFlight_47 rfl (lv_at hl 0 rfl) ?_
        refine r_geti X hM hP fl_X5_172 dX5_planFlight_48 (fun x8 hP => ?_)
        refine lv_aload_n hx hb dX5_planFlight_51 rfl (lv_at hl 1 rfl) ?_
        refine lv_aload_n hx hb dX5_planFlight_52 rfl (lv_at hl 0 rfl) ?_
        refine rx_callVf (rest := [.int x8, .int x7, .int x6, .ref r5]) (T := TX5) (N := 18) X hM hS (ct_X5_loadingOf hst v0 r3) hP mV_X5_215 rfl rfl rfl hl.1 (Nat.le_of_ble_eq_true rfl) ⟨⟨by decide, by decide⟩, by decide, by decide⟩ dX5_planFlight_53 (x_out hno hlocks rfl rfl) (fun r9 M H locs hM hS hP => ?_)
        refine r_callVv (rest := []) (T := TX1) (N := 11) X hM hS (ct_X1_plan hst r5 x6 x7 x8 r9) hP mV_X5_352 rfl rfl rfl hl.1 (Nat.le_of_ble_eq_true rfl) ⟨⟨by decide, by decide⟩, ⟨by decide, by decide⟩⟩ dX5_planFlight_56 (fun M H locs hM hS hP => ?_)
        refine lv_iinc (v := v1 + 1) (lv' := [(1, .int (v1 + 1)), (2, .ref r3), (0, .ref v0)]) hx hb dX5_planFlight_59 hl (k := 2) rfl rfl (by decide) rfl (fun ls hl => ?_)
        refine lv_goto (tgt := 13) hx hb dX5_planFlight_62 (by decide) ?_
        exact ih13 v0 (v1 + 1) _ _ _ _ hM hS (lv_sub hl [2, 0] rfl) hP
  unfold f_X5_planFlight at hP
  refine lv_aload_n hx hb dX5_planFlight_0 rfl (lv_at hl 0 rfl) ?_
  refine r_getr X hM hP fl_X5_49 dX5_planFlight_1 (fun x1 hP => ?_)
  refine lv_aload_n hx hb dX5_planFlight_4 rfl (lv_at hl 0 rfl) ?_
  refine r_geti X hM hP fl_X5_39 dX5_planFlight_5 (fun x2 hP => ?_)
  refine r_put X hM hS hP fl_X5_356 ft_X0 rfl (tyX0_ok 1 (Nat.le_of_ble_eq_true rfl)) rfl rfl dX5_planFlight_8 (fun M H locs hM hS hP => ?_)
  refine lv_iconst (v := 0) hx hb dX5_planFlight_11 (by decide) ?_
  refine lv_istore_n (lv' := [(1, .int 0), (0, .ref a0)]) hx hb dX5_planFlight_12 rfl hl (by decide) rfl (fun ls hl => ?_)
  exact hb13 mFuel a0 0 _ _ _ _ hM hS (lv_sub hl [1, 0] rfl) hP
def f_X5_drawTroubles_b75 (K : Cfg) (k : Mem → Prop) (QX : String → Mem → Prop) (lp2 : Nat → Int32 → Mem → Prop) (v0 : Nat) (v1 : Int32) : Mem → Prop :=
 lp2 v0 (v1 + 1)
def f_X5_drawTroubles_b2_body (K : Cfg) (k : Mem → Prop) (QX : String → Mem → Prop) (lp2 : Nat → Int32 → Mem → Prop) (v0 : Nat) (v1 : Int32) : Mem → Prop :=
 mGetI v0 6 6 fun x1 =>
 mIf (x1 ≤ v1)
 (k)
 (mRecv v0 6 <|
 f_X5_order K v0 v1 (fun r2 =>
 mRecv v0 6 <|
 f_X5_jumperAt K v0 r2 (fun r3 =>
 mGetI r3 3 2 fun x4 =>
 mRecv v0 6 <|
 f_X5_rigAt K v0 x4 (fun r5 =>
 mGetI v0 6 11 fun x6 =>
 mAs (¬ (32 : Int32) = 0) <|
 mPut v0 6 11 (.int (((5 * x6) + 3) - ((5 * x6) + 3) / 32 * 32)) <|
 mGetI v0 6 11 fun x7 =>
 mGetI r5 4 2 fun x8 =>
 mGetF r5 4 4 fun x9 =>
 mAs (vf_n32 (FP.fmul x9 FP.fconst2)) <|
 mIf (((9 - x8) + (FP.f2i (FP.fmul x9 FP.fconst2))) ≤ x7)
 (f_X5_drawTroubles_b75 K k QX lp2 v0 v1)
 (mGetR v0 6 8 fun x10 =>
 mRecv x10 1 <|
 f_X0_jumpAt K x10 v1 (fun r11 =>
 mRecv r11 2 <|
 f_X1_planReserve K r11 (
 f_X5_drawTroubles_b75 K k QX lp2 v0 v1)))) QX) QX) QX)
def f_X5_drawTroubles_b2 (K : Cfg) (k : Mem → Prop) (QX : String → Mem → Prop) : Nat → Nat → Int32 → Mem → Prop
  | 0 => fun _ _ _ => False
  | n + 1 => f_X5_drawTroubles_b2_body K k QX (f_X5_drawTroubles_b2 K k QX n)
def f_X5_drawTroubles (K : Cfg) (a0 : Nat) (k : Mem → Prop) (QX : String → Mem → Prop) : Mem → Prop :=
 f_X5_drawTroubles_b2 K k QX mFuel a0 0
abbrev rm_X5_drawTroubles : Room := { frames := 7, cells := 1, slots := 6, locals := 103 }
set_option maxHeartbeats 4000000 in
set_option maxRecDepth 100000 in
theorem ct_X5_drawTroubles {K : Cfg} {l : Launch} (hst : l.stackTraces = false) (a0 : Nat) : mXPv K l yX5_drawTroubles cX5_drawTroubles 3 none rm_X5_drawTroubles [.ref a0] (f_X5_drawTroubles K a0) := by
  refine mXPv.of hst (by decide +kernel) (Nat.le_of_ble_eq_true rfl) ?_
  intro M k Q QX hk hP p e s m below meth c X hr hlocks hno hM ls hl
  have hx := X.1.1
  have hb := X.1.2.1
  have X : Cx K p l s m ([.ref a0] : List Value).toArray c cX5_drawTroubles 3 RX5 := X
  have hS : va_S (mFA K) s.heap s.heap [] := va_S.rf
  have hl : lv_has ls 3 [(0, .ref a0)] := hl
  have hb2 : ∀ (n2 : Nat) (v0 : Nat) (v1 : Int32) (M : Mem) (H : Heap) (locs : List Loc) (ls : Array Slot), mh K M H → va_S (mFA K) s.heap H locs → lv_has ls 3 [(0, .ref v0), (1, .int v1)] → f_X5_drawTroubles_b2 K k QX n2 v0 v1 M → W p l e rm_X5_drawTroubles s m ([.ref a0] : List Value).toArray below meth c H locs 0 0 (vy_MQ below (mQ K Q) (mX K QX) ([.ref a0] : List Value).toArray s 0 0 1 6 (mFA K)) (F0 m 2 ls []) := by
    intro n2
    induction n2 with
    | zero =>
      intro v0 v1 M H locs ls hM hS hl hP
      exact hP.elim
    | succ n2 ih2 =>
      have hb75 : ∀ (v0 : Nat) (v1 : Int32) (M : Mem) (H : Heap) (locs : List Loc) (ls : Array Slot), mh K M H → va_S (mFA K) s.heap H locs → lv_has ls 3 [(0, .ref v0), (1, .int v1)] → f_X5_drawTroubles_b75 K k QX (f_X5_drawTroubles_b2 K k QX n2) v0 v1 M → W p l e rm_X5_drawTroubles s m ([.ref a0] : List Value).toArray below meth c H locs 0 0 (vy_MQ below (mQ K Q) (mX K QX) ([.ref a0] : List Value).toArray s 0 0 1 6 (mFA K)) (F0 m 75 ls []) := by
        intro v0 v1 M H locs ls hM hS hl hP
        unfold f_X5_drawTroubles_b75 at hP
        refine lv_iinc (v := v1 + 1) (lv' := [(1, .int (v1 + 1)), (0, .ref v0)]) hx hb dX5_drawTroubles_75 hl (k := 1) rfl rfl (by decide) rfl (fun ls hl => ?_)
        refine lv_goto (tgt := 2) hx hb dX5_drawTroubles_78 (by decide) ?_
        exact ih2 v0 (v1 + 1) _ _ _ _ hM hS (lv_sub hl [1, 0] rfl) hP
      intro v0 v1 M H locs ls hM hS hl hP
      have hP : f_X5_drawTroubles_b2_body K k QX (f_X5_drawTroubles_b2 K k QX n2) v0 v1 M := hP
      unfold f_X5_drawTroubles_b2_body at hP
      refine lv_iload_n hx hb dX5_drawTroubles_2 rfl (lv_at hl 1 rfl) ?_
      refine lv_aload_n hx hb dX5_drawTroubles_3 rfl (lv_at hl 0 rfl) ?_
      refine r_geti X hM hP fl_X5_39 dX5_drawTroubles_4 (fun x1 hP => ?_)
      refine lv_icmp_ge (tgt := 81) hx hb dX5_drawTroubles_7 (by decide) (fun hc => ?_) (fun hc => ?_)
      · have hP := mIf_t hP hc
        exact vy_ret (e_vret X hM hS (hk _ hP) hr hlocks (by decide) (by decide) dX5_drawTroubles_81)
      · have hP := mIf_f hP hc
        refine lv_aload_n hx hb dX5_drawTroubles_10 rfl (lv_at hl 0 rfl) ?_
        refine lv_aload_n hx hb dX5_drawTroubles_11 rfl (lv_at hl 0 rfl) ?_
        refine lv_aload_n hx hb dX5_drawTroubles_12 rfl (lv_at hl 0 rfl) ?_
        refine lv_iload_n hx hb dX5_drawTroubles_13 rfl (lv_at hl 1 rfl) ?_
        refine rx_callVi (rest := [.ref v0, .ref v0]) (T := TX5) (N := 18) X hM hS (ct_X5_order hst v0 v1) hP mV_X5_194 rfl rfl rfl hl.1 (Nat.le_of_ble_eq_true rfl) ⟨⟨by decide, by decide⟩, by decide, by decide⟩ dX5_drawTroubles_14 (x_out hno hlocks rfl rfl) (fun r2 M H locs hM hS hP => ?_)
        refine rx_callVr (rest := [.ref v0]) (T := TX5) (N := 18) X hM hS (ct_X5_jumperAt hst v0 r2) hP mV_X5_118 rfl rfl rfl hl.1 (Nat.le_of_ble_eq_true rfl) ⟨⟨by decide, by decide⟩, by decide, by decide⟩ dX5_drawTroubles_17 (x_out hno hlocks rfl rfl) (fun r3 M H locs hM hS hP => ?_)
        refine r_geti X hM hP fl_X5_131 dX5_drawTroubles_20 (fun x4 hP => ?_)
        refine rx_callVr (rest := []) (T := TX5) (N := 18) X hM hS (ct_X5_rigAt hst v0 x4) hP mV_X5_114 rfl rfl rfl hl.1 (Nat.le_of_ble_eq_true rfl) ⟨⟨by decide, by decide⟩, by decide, by decide⟩ dX5_drawTroubles_23 (x_out hno hlocks rfl rfl) (fun r5 M H locs hM hS hP => ?_)
        refine lv_astore_n (lv' := [(2, .ref r5), (0, .ref v0), (1, .int v1)]) hx hb dX5_drawTroubles_26 rfl hl (by decide) rfl (fun ls hl => ?_)
        refine lv_aload_n hx hb dX5_drawTroubles_27 rfl (lv_at hl 1 rfl) ?_
        refine lv_iconst (v := 5) hx hb dX5_drawTroubles_28 (by decide) ?_
        refine lv_aload_n hx hb dX5_drawTroubles_29 rfl (lv_at hl 1 rfl) ?_
        refine r_geti X hM hP fl_X5_63 dX5_drawTroubles_30 (fun x6 hP => ?_)
        refine lv_imul hx hb dX5_drawTroubles_33 ?_
        refine lv_iconst (v := 3) hx hb dX5_drawTroubles_34 (by decide) ?_
        refine lv_iadd hx hb dX5_drawTroubles_35 ?_
        refine lv_bipush (v := 32) hx hb dX5_drawTroubles_36 (by decide) ?_
        obtain ⟨h9, hP⟩ := hP
        refine lv_irem hx hb dX5_drawTroubles_38 h9 ?_
        refine r_put X hM hS hP fl_X5_63 ft_X5 rfl (tyX5_ok 11 (Nat.le_of_ble_eq_true rfl)) rfl rfl dX5_drawTroubles_39 (fun M H locs hM hS hP => ?_)
        refine lv_aload_n hx hb dX5_drawTroubles_42 rfl (lv_at hl 1 rfl) ?_
        refine r_geti X hM hP fl_X5_63 dX5_drawTroubles_43 (fun x7 hP => ?_)
        refine lv_bipush (v := 9) hx hb dX5_drawTroubles_46 (by decide) ?_
        refine lv_aload_n hx hb dX5_drawTroubles_48 rfl (lv_at hl 0 rfl) ?_
        refine r_geti X hM hP fl_X5_148 dX5_drawTroubles_49 (fun x8 hP => ?_)
        refine lv_isub hx hb dX5_drawTroubles_52 ?_
        refine lv_aload_n hx hb dX5_drawTroubles_53 rfl (lv_at hl 0 rfl) ?_
        refine r_getf X hM hP fl_X5_228 dX5_drawTroubles_54 (fun x9 hP => ?_)
        refine lv_fconst2 hx hb dX5_drawTroubles_57 ?_
        obtain ⟨h9, hP⟩ := hP
        refine lv_fmul hx hb dX5_drawTroubles_58 h9 ?_
        refine lv_f2i hx hb dX5_drawTroubles_59 ?_
        refine lv_iadd hx hb dX5_drawTroubles_60 ?_
        refine lv_icmp_ge (tgt := 75) hx hb dX5_drawTroubles_61 (by decide) (fun hc => ?_) (fun hc => ?_)
        · have hP := mIf_t hP hc
          exact hb75 v0 v1 _ _ _ _ hM hS (lv_sub hl [1, 2] rfl) hP
        · have hP := mIf_f hP hc
          refine lv_aload_n hx hb dX5_drawTroubles_64 rfl (lv_at hl 1 rfl) ?_
          refine r_getr X hM hP fl_X5_49 dX5_drawTroubles_65 (fun x10 hP => ?_)
          refine lv_iload_n hx hb dX5_drawTroubles_68 rfl (lv_at hl 2 rfl) ?_
          refine r_callVr (rest := []) (T := TX0) (N := 2) X hM hS (ct_X0_jumpAt hst x10 v1) hP mV_X5_197 rfl rfl rfl hl.1 (Nat.le_of_ble_eq_true rfl) ⟨⟨by decide, by decide⟩, ⟨by decide, by decide⟩⟩ dX5_drawTroubles_69 (fun r11 M H locs hM hS hP => ?_)
          refine r_callVv (rest := []) (T := TX1) (N := 11) X hM hS (ct_X1_planReserve hst r11) hP mV_X5_359 rfl rfl rfl hl.1 (Nat.le_of_ble_eq_true rfl) ⟨⟨by decide, by decide⟩, ⟨by decide, by decide⟩⟩ dX5_drawTroubles_72 (fun M H locs hM hS hP => ?_)
          exact hb75 v0 v1 _ _ _ _ hM hS (lv_sub hl [1, 2] rfl) hP
  unfold f_X5_drawTroubles at hP
  refine lv_iconst (v := 0) hx hb dX5_drawTroubles_0 (by decide) ?_
  refine lv_istore_n (lv' := [(1, .int 0), (0, .ref a0)]) hx hb dX5_drawTroubles_1 rfl hl (by decide) rfl (fun ls hl => ?_)
  exact hb2 mFuel a0 0 _ _ _ _ hM hS (lv_sub hl [1, 0] rfl) hP
def f_X5_settle_b141 (K : Cfg) (k : Int32 → Mem → Prop) (QX : String → Mem → Prop) (v1 : Nat) (v2 : Nat) : Mem → Prop :=
 mRecv v2 2 <|
 f_X1_points K v2 (fun r1 =>
 mGetI v1 3 5 fun x2 =>
 mPut v1 3 5 (.int (x2 + r1)) <|
 k r1)
def f_X5_settle_b76 (K : Cfg) (k : Int32 → Mem → Prop) (QX : String → Mem → Prop) (v0 : Nat) (v1 : Nat) (v2 : Nat) : Mem → Prop :=
 mGetI v0 6 10 fun x1 =>
 mPut v1 3 3 (.int x1) <|
 mGetD v2 2 8 fun x2 =>
 mPut v1 3 8 (.double x2) <|
 mGetD v2 2 9 fun x3 =>
 mPut v1 3 9 (.double x3) <|
 mGetI v1 3 4 fun x4 =>
 mPut v1 3 4 (.int (x4 + 1)) <|
 mGetI v0 6 13 fun x5 =>
 mPut v0 6 13 (.int (x5 + 1)) <|
 mRecv v2 2 <|
 f_X1_far K v2 (fun r6 =>
 mIf ((Op.cmpValue (FP.dcmp r6 4636737291354636288) .l) ≤ 0)
 (f_X5_settle_b141 K k QX v1 v2)
 (mGetI v0 6 15 fun x7 =>
 mPut v0 6 15 (.int (x7 + 1)) <|
 f_X5_settle_b141 K k QX v1 v2))
def f_X5_settle_b35 (K : Cfg) (k : Int32 → Mem → Prop) (QX : String → Mem → Prop) (v0 : Nat) (v1 : Nat) (v2 : Nat) (v3 : Nat) (t0 : Nat) (t1 : UInt32) (t2 : UInt32) : Mem → Prop :=
 mAs (vf_n32 (FP.fadd t1 t2)) <|
 mPut t0 4 4 (.float (FP.fadd t1 t2)) <|
 mGetI v2 2 4 fun x1 =>
 mIf (x1 = 0)
 (f_X5_settle_b76 K k QX v0 v1 v2)
 (mGetI v0 6 10 fun x2 =>
 mPut v3 4 1 (.int (x2 - 1)) <|
 mGetI v1 3 7 fun x3 =>
 mPut v1 3 7 (.int (x3 + 1)) <|
 mGetI v0 6 14 fun x4 =>
 mPut v0 6 14 (.int (x4 + 1)) <|
 f_X5_settle_b76 K k QX v0 v1 v2)
def f_X5_settle (K : Cfg) (a0 : Nat) (a1 : Nat) (a2 : Nat) (k : Int32 → Mem → Prop) (QX : String → Mem → Prop) : Mem → Prop :=
 mGetI a1 3 2 fun x1 =>
 mRecv a0 6 <|
 f_X5_rigAt K a0 x1 (fun r2 =>
 mPutZ r2 4 3 0 <|
 mGetF r2 4 4 fun x3 =>
 mGetI a2 2 4 fun x4 =>
 mIf (x4 = 0)
 (f_X5_settle_b35 K k QX a0 a1 a2 r2 r2 x3 1031798784)
 (f_X5_settle_b35 K k QX a0 a1 a2 r2 r2 x3 1048576000)) QX
abbrev rm_X5_settle : Room := { frames := 7, cells := 1, slots := 6, locals := 103 }
set_option maxHeartbeats 4000000 in
set_option maxRecDepth 100000 in
theorem ct_X5_settle {K : Cfg} {l : Launch} (hst : l.stackTraces = false) (a0 : Nat) (a1 : Nat) (a2 : Nat) : mXPi K l yX5_settle cX5_settle 5 (some .int) rm_X5_settle [.ref a0, .ref a1, .ref a2] (f_X5_settle K a0 a1 a2) := by
  refine mXPi.of hst (by decide +kernel) (Nat.le_of_ble_eq_true rfl) ?_
  intro M k Q QX hk hP p e s m below meth c X hr hlocks hno hM ls hl
  have hx := X.1.1
  have hb := X.1.2.1
  have X : Cx K p l s m ([.ref a0, .ref a1, .ref a2] : List Value).toArray c cX5_settle 5 RX5 := X
  have hS : va_S (mFA K) s.heap s.heap [] := va_S.rf
  have hl : lv_has ls 5 [(0, .ref a0), (1, .ref a1), (2, .ref a2)] := hl
  have hb141 : ∀ (v1 : Nat) (v2 : Nat) (M : Mem) (H : Heap) (locs : List Loc) (ls : Array Slot), mh K M H → va_S (mFA K) s.heap H locs → lv_has ls 5 [(1, .ref v1), (2, .ref v2)] → f_X5_settle_b141 K k QX v1 v2 M → W p l e rm_X5_settle s m ([.ref a0, .ref a1, .ref a2] : List Value).toArray below meth c H locs 0 0 (vy_MQ below (mQ K Q) (mX K QX) ([.ref a0, .ref a1, .ref a2] : List Value).toArray s 0 0 1 6 (mFA K)) (F0 m 141 ls []) := by
    intro v1 v2 M H locs ls hM hS hl hP
    unfold f_X5_settle_b141 at hP
    refine lv_aload_n hx hb dX5_settle_141 rfl (lv_at hl 1 rfl) ?_
    refine r_callVi (rest := []) (T := TX1) (N := 11) X hM hS (ct_X1_points hst v2) hP mV_X5_362 rfl rfl rfl hl.1 (Nat.le_of_ble_eq_true rfl) ⟨⟨by decide, by decide⟩, ⟨by decide, by decide⟩⟩ dX5_settle_142 (fun r1 M H locs hM hS hP => ?_)
    refine lv_istore (lv' := [(4, .int r1), (1, .ref v1), (2, .ref v2)]) hx hb dX5_settle_145 hl (by decide) rfl (fun ls hl => ?_)
    refine lv_aload_n hx hb dX5_settle_147 rfl (lv_at hl 1 rfl) ?_
    refine lv_dup hx hb dX5_settle_148 rfl ?_
    refine r_geti X hM hP fl_X5_206 dX5_settle_149 (fun x2 hP => ?_)
    refine lv_iload hx hb dX5_settle_152 (lv_at hl 0 rfl) ?_
    refine lv_iadd hx hb dX5_settle_154 ?_
    refine r_put X hM hS hP fl_X5_206 ft_X2 rfl (tyX2_ok 5 (Nat.le_of_ble_eq_true rfl)) rfl rfl dX5_settle_155 (fun M H locs hM hS hP => ?_)
    refine lv_iload hx hb dX5_settle_158 (lv_at hl 0 rfl) ?_
    exact vy_ret (e_iret X hM hS (hk _ _ hP) hr hlocks (by decide) (by decide) dX5_settle_160)
  have hb76 : ∀ (v0 : Nat) (v1 : Nat) (v2 : Nat) (M : Mem) (H : Heap) (locs : List Loc) (ls : Array Slot), mh K M H → va_S (mFA K) s.heap H locs → lv_has ls 5 [(0, .ref v0), (1, .ref v1), (2, .ref v2)] → f_X5_settle_b76 K k QX v0 v1 v2 M → W p l e rm_X5_settle s m ([.ref a0, .ref a1, .ref a2] : List Value).toArray below meth c H locs 0 0 (vy_MQ below (mQ K Q) (mX K QX) ([.ref a0, .ref a1, .ref a2] : List Value).toArray s 0 0 1 6 (mFA K)) (F0 m 76 ls []) := by
    intro v0 v1 v2 M H locs ls hM hS hl hP
    unfold f_X5_settle_b76 at hP
    refine lv_aload_n hx hb dX5_settle_76 rfl (lv_at hl 1 rfl) ?_
    refine lv_aload_n hx hb dX5_settle_77 rfl (lv_at hl 0 rfl) ?_
    refine r_geti X hM hP fl_X5_60 dX5_settle_78 (fun x1 hP => ?_)
    refine r_put X hM hS hP fl_X5_103 ft_X2 rfl (tyX2_ok 3 (Nat.le_of_ble_eq_true rfl)) rfl rfl dX5_settle_81 (fun M H locs hM hS hP => ?_)
    refine lv_aload_n hx hb dX5_settle_84 rfl (lv_at hl 1 rfl) ?_
    refine lv_aload_n hx hb dX5_settle_85 rfl (lv_at hl 2 rfl) ?_
    refine r_getd X hM hP fl_X5_258 dX5_settle_86 (fun x2 hP => ?_)
    refine r_put X hM hS hP fl_X5_223 ft_X2 rfl (tyX2_ok 8 (Nat.le_of_ble_eq_true rfl)) rfl rfl dX5_settle_89 (fun M H locs hM hS hP => ?_)
    refine lv_aload_n hx hb dX5_settle_92 rfl (lv_at hl 1 rfl) ?_
    refine lv_aload_n hx hb dX5_settle_93 rfl (lv_at hl 2 rfl) ?_
    refine r_getd X hM hP fl_X5_255 dX5_settle_94 (fun x3 hP => ?_)
    refine r_put X hM hS hP fl_X5_219 ft_X2 rfl (tyX2_ok 9 (Nat.le_of_ble_eq_true rfl)) rfl rfl dX5_settle_97 (fun M H locs hM hS hP => ?_)
    refine lv_aload_n hx hb dX5_settle_100 rfl (lv_at hl 1 rfl) ?_
    refine lv_dup hx hb dX5_settle_101 rfl ?_
    refine r_geti X hM hP fl_X5_205 dX5_settle_102 (fun x4 hP => ?_)
    refine lv_iconst (v := 1) hx hb dX5_settle_105 (by decide) ?_
    refine lv_iadd hx hb dX5_settle_106 ?_
    refine r_put X hM hS hP fl_X5_205 ft_X2 rfl (tyX2_ok 4 (Nat.le_of_ble_eq_true rfl)) rfl rfl dX5_settle_107 (fun M H locs hM hS hP => ?_)
    refine lv_aload_n hx hb dX5_settle_110 rfl (lv_at hl 0 rfl) ?_
    refine lv_dup hx hb dX5_settle_111 rfl ?_
    refine r_geti X hM hP fl_X5_69 dX5_settle_112 (fun x5 hP => ?_)
    refine lv_iconst (v := 1) hx hb dX5_settle_115 (by decide) ?_
    refine lv_iadd hx hb dX5_settle_116 ?_
    refine r_put X hM hS hP fl_X5_69 ft_X5 rfl (tyX5_ok 13 (Nat.le_of_ble_eq_true rfl)) rfl rfl dX5_settle_117 (fun M H locs hM hS hP => ?_)
    refine lv_aload_n hx hb dX5_settle_120 rfl (lv_at hl 2 rfl) ?_
    refine r_callVd (rest := []) (T := TX1) (N := 11) X hM hS (ct_X1_far hst v2) hP mV_X5_369 rfl rfl rfl hl.1 (Nat.le_of_ble_eq_true rfl) ⟨⟨by decide, by decide⟩, ⟨by decide, by decide⟩⟩ dX5_settle_121 (fun r6 M H locs hM hS hP => ?_)
    refine r_ldcd (v := 4636737291354636288) X kc_X5_373 dX5_settle_124 ?_
    refine lv_dcmp hx hb dX5_settle_127 ?_
    refine lv_if_le (tgt := 141) hx hb dX5_settle_128 (by decide) (fun hc => ?_) (fun hc => ?_)
    · have hP := mIf_t hP hc
      exact hb141 v1 v2 _ _ _ _ hM hS (lv_sub hl [1, 2] rfl) hP
    · have hP := mIf_f hP hc
      refine lv_aload_n hx hb dX5_settle_131 rfl (lv_at hl 0 rfl) ?_
      refine lv_dup hx hb dX5_settle_132 rfl ?_
      refine r_geti X hM hP fl_X5_75 dX5_settle_133 (fun x7 hP => ?_)
      refine lv_iconst (v := 1) hx hb dX5_settle_136 (by decide) ?_
      refine lv_iadd hx hb dX5_settle_137 ?_
      refine r_put X hM hS hP fl_X5_75 ft_X5 rfl (tyX5_ok 15 (Nat.le_of_ble_eq_true rfl)) rfl rfl dX5_settle_138 (fun M H locs hM hS hP => ?_)
      exact hb141 v1 v2 _ _ _ _ hM hS (lv_sub hl [1, 2] rfl) hP
  have hb35 : ∀ (v0 : Nat) (v1 : Nat) (v2 : Nat) (v3 : Nat) (t0 : Nat) (t1 : UInt32) (t2 : UInt32) (M : Mem) (H : Heap) (locs : List Loc) (ls : Array Slot), mh K M H → va_S (mFA K) s.heap H locs → lv_has ls 5 [(0, .ref v0), (1, .ref v1), (2, .ref v2), (3, .ref v3)] → f_X5_settle_b35 K k QX v0 v1 v2 v3 t0 t1 t2 M → W p l e rm_X5_settle s m ([.ref a0, .ref a1, .ref a2] : List Value).toArray below meth c H locs 0 0 (vy_MQ below (mQ K Q) (mX K QX) ([.ref a0, .ref a1, .ref a2] : List Value).toArray s 0 0 1 6 (mFA K)) (F0 m 35 ls [.float t2, .float t1, .ref t0]) := by
    intro v0 v1 v2 v3 t0 t1 t2 M H locs ls hM hS hl hP
    unfold f_X5_settle_b35 at hP
    obtain ⟨h9, hP⟩ := hP
    refine lv_fadd hx hb dX5_settle_35 h9 ?_
    refine r_put X hM hS hP fl_X5_228 ft_X3 rfl (tyX3_ok 4 (Nat.le_of_ble_eq_true rfl)) rfl rfl dX5_settle_36 (fun M H locs hM hS hP => ?_)
    refine lv_aload_n hx hb dX5_settle_39 rfl (lv_at hl 2 rfl) ?_
    refine r_geti X hM hP fl_X5_364 dX5_settle_40 (fun x1 hP => ?_)
    refine lv_if_eq (tgt := 76) hx hb dX5_settle_43 (by decide) (fun hc => ?_) (fun hc => ?_)
    · have hP := mIf_t hP hc
      exact hb76 v0 v1 v2 _ _ _ _ hM hS (lv_sub hl [0, 1, 2] rfl) hP
    · have hP := mIf_f hP hc
      refine lv_aload_n hx hb dX5_settle_46 rfl (lv_at hl 3 rfl) ?_
      refine lv_aload_n hx hb dX5_settle_47 rfl (lv_at hl 0 rfl) ?_
      refine r_geti X hM hP fl_X5_60 dX5_settle_48 (fun x2 hP => ?_)
      refine lv_iconst (v := 1) hx hb dX5_settle_51 (by decide) ?_
      refine lv_isub hx hb dX5_settle_52 ?_
      refine r_put X hM hS hP fl_X5_111 ft_X3 rfl (tyX3_ok 1 (Nat.le_of_ble_eq_true rfl)) rfl rfl dX5_settle_53 (fun M H locs hM hS hP => ?_)
      refine lv_aload_n hx hb dX5_settle_56 rfl (lv_at hl 1 rfl) ?_
      refine lv_dup hx hb dX5_settle_57 rfl ?_
      refine r_geti X hM hP fl_X5_209 dX5_settle_58 (fun x3 hP => ?_)
      refine lv_iconst (v := 1) hx hb dX5_settle_61 (by decide) ?_
      refine lv_iadd hx hb dX5_settle_62 ?_
      refine r_put X hM hS hP fl_X5_209 ft_X2 rfl (tyX2_ok 7 (Nat.le_of_ble_eq_true rfl)) rfl rfl dX5_settle_63 (fun M H locs hM hS hP => ?_)
      refine lv_aload_n hx hb dX5_settle_66 rfl (lv_at hl 0 rfl) ?_
      refine lv_dup hx hb dX5_settle_67 rfl ?_
      refine r_geti X hM hP fl_X5_72 dX5_settle_68 (fun x4 hP => ?_)
      refine lv_iconst (v := 1) hx hb dX5_settle_71 (by decide) ?_
      refine lv_iadd hx hb dX5_settle_72 ?_
      refine r_put X hM hS hP fl_X5_72 ft_X5 rfl (tyX5_ok 14 (Nat.le_of_ble_eq_true rfl)) rfl rfl dX5_settle_73 (fun M H locs hM hS hP => ?_)
      exact hb76 v0 v1 v2 _ _ _ _ hM hS (lv_sub hl [0, 1, 2] rfl) hP
  unfold f_X5_settle at hP
  refine lv_aload_n hx hb dX5_settle_0 rfl (lv_at hl 0 rfl) ?_
  refine lv_aload_n hx hb dX5_settle_1 rfl (lv_at hl 1 rfl) ?_
  refine r_geti X hM hP fl_X5_131 dX5_settle_2 (fun x1 hP => ?_)
  refine rx_callVr (rest := []) (T := TX5) (N := 18) X hM hS (ct_X5_rigAt hst a0 x1) hP mV_X5_114 rfl rfl rfl hl.1 (Nat.le_of_ble_eq_true rfl) ⟨⟨by decide, by decide⟩, by decide, by decide⟩ dX5_settle_5 (x_out hno hlocks rfl rfl) (fun r2 M H locs hM hS hP => ?_)
  refine lv_astore_n (lv' := [(3, .ref r2), (0, .ref a0), (1, .ref a1), (2, .ref a2)]) hx hb dX5_settle_8 rfl hl (by decide) rfl (fun ls hl => ?_)
  refine lv_aload_n hx hb dX5_settle_9 rfl (lv_at hl 0 rfl) ?_
  refine lv_iconst (v := 0) hx hb dX5_settle_10 (by decide) ?_
  refine r_putz X hM hS hP fl_X5_134 ft_X3 rfl (tyX3_ok 3 (Nat.le_of_ble_eq_true rfl)) dX5_settle_11 (fun M H locs hM hS hP => ?_)
  refine lv_aload_n hx hb dX5_settle_14 rfl (lv_at hl 0 rfl) ?_
  refine lv_dup hx hb dX5_settle_15 rfl ?_
  refine r_getf X hM hP fl_X5_228 dX5_settle_16 (fun x3 hP => ?_)
  refine lv_aload_n hx hb dX5_settle_19 rfl (lv_at hl 3 rfl) ?_
  refine r_geti X hM hP fl_X5_364 dX5_settle_20 (fun x4 hP => ?_)
  refine lv_if_eq (tgt := 32) hx hb dX5_settle_23 (by decide) (fun hc => ?_) (fun hc => ?_)
  · have hP := mIf_t hP hc
    refine r_ldcfw (v := 1031798784) X kc_X5_368 dX5_settle_32 ?_
    exact hb35 a0 a1 a2 r2 r2 x3 1031798784 _ _ _ _ hM hS (lv_sub hl [1, 2, 3, 0] rfl) hP
  · have hP := mIf_f hP hc
    refine r_ldcfw (v := 1048576000) X kc_X5_367 dX5_settle_26 ?_
    refine lv_goto (tgt := 35) hx hb dX5_settle_29 (by decide) ?_
    exact hb35 a0 a1 a2 r2 r2 x3 1048576000 _ _ _ _ hM hS (lv_sub hl [1, 2, 3, 0] rfl) hP
def f_X5_fly_b87_body (K : Cfg) (k : Int32 → Mem → Prop) (QX : String → Mem → Prop) (lp87 : Nat → Int32 → Int32 → Mem → Prop) (v0 : Nat) (v3 : Int32) (v4 : Int32) : Mem → Prop :=
 mGetI v0 6 6 fun x1 =>
 mIf (x1 ≤ v4)
 (mPut v0 6 6 (.int 0) <|
 mGetI v0 6 12 fun x2 =>
 mPut v0 6 12 (.int (x2 + 1)) <|
 k v3)
 (mRecv v0 6 <|
 f_X5_order K v0 v4 (fun r3 =>
 mRecv v0 6 <|
 f_X5_jumperAt K v0 r3 (fun r4 =>
 mGetR v0 6 8 fun x5 =>
 mRecv x5 1 <|
 f_X0_jumpAt K x5 v4 (fun r6 =>
 mRecv v0 6 <|
 f_X5_settle K v0 r4 r6 (fun r7 =>
 lp87 v0 (v3 + r7) (v4 + 1)) QX)) QX) QX)
def f_X5_fly_b87 (K : Cfg) (k : Int32 → Mem → Prop) (QX : String → Mem → Prop) : Nat → Nat → Int32 → Int32 → Mem → Prop
  | 0 => fun _ _ _ _ => False
  | n + 1 => f_X5_fly_b87_body K k QX (f_X5_fly_b87 K k QX n)
def f_X5_fly_b31 (K : Cfg) (k : Int32 → Mem → Prop) (QX : String → Mem → Prop) : Mem → Prop :=
 QX "java/lang/IllegalStateException"
def f_X5_fly (K : Cfg) (a0 : Nat) (a1 : Int32) (a2 : Int32) (k : Int32 → Mem → Prop) (QX : String → Mem → Prop) : Mem → Prop :=
 f_X5_checkArgument K a1 (-200) 200 (
 f_X5_checkArgument K a2 1 9 (
 mGetI a0 6 7 fun x3 =>
 mIf (x3 = 0)
 (mGetI a0 6 6 fun x4 =>
 mIf (x4 = 0)
 (f_X5_fly_b31 K k QX)
 (mRecv a0 6 <|
 f_X5_planFlight K a0 (
 mRecv a0 6 <|
 f_X5_drawTroubles K a0 (
 mGetR a0 6 8 fun x7 =>
 mGetR a0 6 4 fun x8 =>
 mRecv x7 1 <|
 f_X0_leave K x7 a1 a2 x8 (
 mGetI a0 6 16 fun x10 =>
 mGetR a0 6 8 fun x11 =>
 mGetR a0 6 4 fun x12 =>
 mRecv x11 1 <|
 f_X0_run K x11 x12 (fun r13 =>
 mPut a0 6 16 (.int (x10 + r13)) <|
 f_X5_fly_b87 K k QX mFuel a0 0 0))) QX) QX))
 (f_X5_fly_b31 K k QX)) QX) QX
abbrev rm_X5_fly : Room := { frames := 9, cells := 1, slots := 6, locals := 146 }
set_option maxHeartbeats 4000000 in
set_option maxRecDepth 100000 in
theorem ct_X5_fly {K : Cfg} {l : Launch} (hst : l.stackTraces = false) (a0 : Nat) (a1 : Int32) (a2 : Int32) : mXPi K l yX5_fly cX5_fly 5 (some .int) rm_X5_fly [.ref a0, .int a1, .int a2] (f_X5_fly K a0 a1 a2) := by
  refine mXPi.of hst (by decide +kernel) (Nat.le_of_ble_eq_true rfl) ?_
  intro M k Q QX hk hP p e s m below meth c X hr hlocks hno hM ls hl
  have hx := X.1.1
  have hb := X.1.2.1
  have X : Cx K p l s m ([.ref a0, .int a1, .int a2] : List Value).toArray c cX5_fly 5 RX5 := X
  have hS : va_S (mFA K) s.heap s.heap [] := va_S.rf
  have hl : lv_has ls 5 [(0, .ref a0), (1, .int a1), (2, .int a2)] := hl
  have hb87 : ∀ (n87 : Nat) (v0 : Nat) (v3 : Int32) (v4 : Int32) (M : Mem) (H : Heap) (locs : List Loc) (ls : Array Slot), mh K M H → va_S (mFA K) s.heap H locs → lv_has ls 5 [(0, .ref v0), (3, .int v3), (4, .int v4)] → f_X5_fly_b87 K k QX n87 v0 v3 v4 M → W p l e rm_X5_fly s m ([.ref a0, .int a1, .int a2] : List Value).toArray below meth c H locs 0 0 (vy_MQ below (mQ K Q) (mX K QX) ([.ref a0, .int a1, .int a2] : List Value).toArray s 0 0 1 6 (mFA K)) (F0 m 87 ls []) := by
    intro n87
    induction n87 with
    | zero =>
      intro v0 v3 v4 M H locs ls hM hS hl hP
      exact hP.elim
    | succ n87 ih87 =>
      intro v0 v3 v4 M H locs ls hM hS hl hP
      have hP : f_X5_fly_b87_body K k QX (f_X5_fly_b87 K k QX n87) v0 v3 v4 M := hP
      unfold f_X5_fly_b87_body at hP
      refine lv_iload hx hb dX5_fly_87 (lv_at hl 2 rfl) ?_
      refine lv_aload_n hx hb dX5_fly_89 rfl (lv_at hl 0 rfl) ?_
      refine r_geti X hM hP fl_X5_39 dX5_fly_90 (fun x1 hP => ?_)
      refine lv_icmp_ge (tgt := 128) hx hb dX5_fly_93 (by decide) (fun hc => ?_) (fun hc => ?_)
      · have hP := mIf_t hP hc
        refine lv_aload_n hx hb dX5_fly_128 rfl (lv_at hl 0 rfl) ?_
        refine lv_iconst (v := 0) hx hb dX5_fly_129 (by decide) ?_
        refine r_put X hM hS hP fl_X5_39 ft_X5 rfl (tyX5_ok 6 (Nat.le_of_ble_eq_true rfl)) rfl rfl dX5_fly_130 (fun M H locs hM hS hP => ?_)
        refine lv_aload_n hx hb dX5_fly_133 rfl (lv_at hl 0 rfl) ?_
        refine lv_dup hx hb dX5_fly_134 rfl ?_
        refine r_geti X hM hP fl_X5_66 dX5_fly_135 (fun x2 hP => ?_)
        refine lv_iconst (v := 1) hx hb dX5_fly_138 (by decide) ?_
        refine lv_iadd hx hb dX5_fly_139 ?_
        refine r_put X hM hS hP fl_X5_66 ft_X5 rfl (tyX5_ok 12 (Nat.le_of_ble_eq_true rfl)) rfl rfl dX5_fly_140 (fun M H locs hM hS hP => ?_)
        refine lv_iload_n hx hb dX5_fly_143 rfl (lv_at hl 1 rfl) ?_
        exact vy_ret (e_iret X hM hS (hk _ _ hP) hr hlocks (by decide) (by decide) dX5_fly_144)
      · have hP := mIf_f hP hc
        refine lv_iload_n hx hb dX5_fly_96 rfl (lv_at hl 1 rfl) ?_
        refine lv_aload_n hx hb dX5_fly_97 rfl (lv_at hl 0 rfl) ?_
        refine lv_aload_n hx hb dX5_fly_98 rfl (lv_at hl 0 rfl) ?_
        refine lv_aload_n hx hb dX5_fly_99 rfl (lv_at hl 0 rfl) ?_
        refine lv_iload hx hb dX5_fly_100 (lv_at hl 2 rfl) ?_
        refine rx_callVi (rest := [.ref v0, .ref v0, .int v3]) (T := TX5) (N := 18) X hM hS (ct_X5_order hst v0 v4) hP mV_X5_194 rfl rfl rfl hl.1 (Nat.le_of_ble_eq_true rfl) ⟨⟨by decide, by decide⟩, by decide, by decide⟩ dX5_fly_102 (x_out hno hlocks rfl rfl) (fun r3 M H locs hM hS hP => ?_)
        refine rx_callVr (rest := [.ref v0, .int v3]) (T := TX5) (N := 18) X hM hS (ct_X5_jumperAt hst v0 r3) hP mV_X5_118 rfl rfl rfl hl.1 (Nat.le_of_ble_eq_true rfl) ⟨⟨by decide, by decide⟩, by decide, by decide⟩ dX5_fly_105 (x_out hno hlocks rfl rfl) (fun r4 M H locs hM hS hP => ?_)
        refine lv_aload_n hx hb dX5_fly_108 rfl (lv_at hl 0 rfl) ?_
        refine r_getr X hM hP fl_X5_49 dX5_fly_109 (fun x5 hP => ?_)
        refine lv_iload hx hb dX5_fly_112 (lv_at hl 2 rfl) ?_
        refine r_callVr (rest := [.ref r4, .ref v0, .int v3]) (T := TX0) (N := 2) X hM hS (ct_X0_jumpAt hst x5 v4) hP mV_X5_197 rfl rfl rfl hl.1 (Nat.le_of_ble_eq_true rfl) ⟨⟨by decide, by decide⟩, ⟨by decide, by decide⟩⟩ dX5_fly_114 (fun r6 M H locs hM hS hP => ?_)
        refine rx_callVi (rest := [.int v3]) (T := TX5) (N := 18) X hM hS (ct_X5_settle hst v0 r4 r6) hP mV_X5_201 rfl rfl rfl hl.1 (Nat.le_of_ble_eq_true rfl) ⟨⟨by decide, by decide⟩, by decide, by decide⟩ dX5_fly_117 (x_out hno hlocks rfl rfl) (fun r7 M H locs hM hS hP => ?_)
        refine lv_iadd hx hb dX5_fly_120 ?_
        refine lv_istore_n (lv' := [(3, .int (v3 + r7)), (0, .ref v0), (4, .int v4)]) hx hb dX5_fly_121 rfl hl (by decide) rfl (fun ls hl => ?_)
        refine lv_iinc (v := v4 + 1) (lv' := [(4, .int (v4 + 1)), (3, .int (v3 + r7)), (0, .ref v0)]) hx hb dX5_fly_122 hl (k := 2) rfl rfl (by decide) rfl (fun ls hl => ?_)
        refine lv_goto (tgt := 87) hx hb dX5_fly_125 (by decide) ?_
        exact ih87 v0 (v3 + r7) (v4 + 1) _ _ _ _ hM hS (lv_sub hl [2, 1, 0] rfl) hP
  have hb31 : ∀ (M : Mem) (H : Heap) (locs : List Loc) (ls : Array Slot), mh K M H → va_S (mFA K) s.heap H locs → lv_has ls 5 [] → f_X5_fly_b31 K k QX M → W p l e rm_X5_fly s m ([.ref a0, .int a1, .int a2] : List Value).toArray below meth c H locs 0 0 (vy_MQ below (mQ K Q) (mX K QX) ([.ref a0, .int a1, .int a2] : List Value).toArray s 0 0 1 6 (mFA K)) (F0 m 31 ls []) := by
    intro M H locs ls hM hS hl hP
    unfold f_X5_fly_b31 at hP
    exact e_throw X hM hS hP th_X5_90_178 hno hlocks hl.1 rfl rfl ⟨by decide, by decide, by decide, by decide⟩ dX5_fly_31 dX5_fly_34 dX5_fly_35 dX5_fly_37 dX5_fly_40
  unfold f_X5_fly at hP
  refine lv_iload_n hx hb dX5_fly_0 rfl (lv_at hl 1 rfl) ?_
  refine lv_sipush (v := (-200)) hx hb dX5_fly_1 (by decide) ?_
  refine lv_sipush (v := 200) hx hb dX5_fly_4 (by decide) ?_
  refine rx_callSv (rest := []) X hM hS (ct_X5_checkArgument hst a1 (-200) 200) hP mS_X5_86 rfl rfl hl.1 (Nat.le_of_ble_eq_true rfl) ⟨⟨by decide, by decide⟩, by decide, by decide⟩ dX5_fly_7 (x_out hno hlocks rfl rfl) (fun M H locs hM hS hP => ?_)
  refine lv_iload_n hx hb dX5_fly_10 rfl (lv_at hl 2 rfl) ?_
  refine lv_iconst (v := 1) hx hb dX5_fly_11 (by decide) ?_
  refine lv_bipush (v := 9) hx hb dX5_fly_12 (by decide) ?_
  refine rx_callSv (rest := []) X hM hS (ct_X5_checkArgument hst a2 1 9) hP mS_X5_86 rfl rfl hl.1 (Nat.le_of_ble_eq_true rfl) ⟨⟨by decide, by decide⟩, by decide, by decide⟩ dX5_fly_14 (x_out hno hlocks rfl rfl) (fun M H locs hM hS hP => ?_)
  refine lv_aload_n hx hb dX5_fly_17 rfl (lv_at hl 0 rfl) ?_
  refine r_geti X hM hP fl_X5_42 dX5_fly_18 (fun x3 hP => ?_)
  refine lv_if_ne (tgt := 31) hx hb dX5_fly_21 (by decide) (fun hc => ?_) (fun hc => ?_)
  · have hP := mIf_f hP hc
    exact hb31 _ _ _ _ hM hS (lv_sub hl [] rfl) hP
  · have hP := mIf_t hP hc
    refine lv_aload_n hx hb dX5_fly_24 rfl (lv_at hl 0 rfl) ?_
    refine r_geti X hM hP fl_X5_39 dX5_fly_25 (fun x4 hP => ?_)
    refine lv_if_ne (tgt := 41) hx hb dX5_fly_28 (by decide) (fun hc => ?_) (fun hc => ?_)
    · have hP := mIf_f hP hc
      refine lv_aload_n hx hb dX5_fly_41 rfl (lv_at hl 0 rfl) ?_
      refine rx_callVv (rest := []) (T := TX5) (N := 18) X hM hS (ct_X5_planFlight hst a0) hP mV_X5_180 rfl rfl rfl hl.1 (Nat.le_of_ble_eq_true rfl) ⟨⟨by decide, by decide⟩, by decide, by decide⟩ dX5_fly_42 (x_out hno hlocks rfl rfl) (fun M H locs hM hS hP => ?_)
      refine lv_aload_n hx hb dX5_fly_45 rfl (lv_at hl 0 rfl) ?_
      refine rx_callVv (rest := []) (T := TX5) (N := 18) X hM hS (ct_X5_drawTroubles hst a0) hP mV_X5_183 rfl rfl rfl hl.1 (Nat.le_of_ble_eq_true rfl) ⟨⟨by decide, by decide⟩, by decide, by decide⟩ dX5_fly_46 (x_out hno hlocks rfl rfl) (fun M H locs hM hS hP => ?_)
      refine lv_aload_n hx hb dX5_fly_49 rfl (lv_at hl 0 rfl) ?_
      refine r_getr X hM hP fl_X5_49 dX5_fly_50 (fun x7 hP => ?_)
      refine lv_iload_n hx hb dX5_fly_53 rfl (lv_at hl 1 rfl) ?_
      refine lv_iload_n hx hb dX5_fly_54 rfl (lv_at hl 2 rfl) ?_
      refine lv_aload_n hx hb dX5_fly_55 rfl (lv_at hl 0 rfl) ?_
      refine r_getr X hM hP fl_X5_31 dX5_fly_56 (fun x8 hP => ?_)
      refine r_callVv (rest := []) (T := TX0) (N := 2) X hM hS (ct_X0_leave hst x7 a1 a2 x8) hP mV_X5_186 rfl rfl rfl hl.1 (Nat.le_of_ble_eq_true rfl) ⟨⟨by decide, by decide⟩, ⟨by decide, by decide⟩⟩ dX5_fly_59 (fun M H locs hM hS hP => ?_)
      refine lv_aload_n hx hb dX5_fly_62 rfl (lv_at hl 0 rfl) ?_
      refine lv_dup hx hb dX5_fly_63 rfl ?_
      refine r_geti X hM hP fl_X5_78 dX5_fly_64 (fun x10 hP => ?_)
      refine lv_aload_n hx hb dX5_fly_67 rfl (lv_at hl 0 rfl) ?_
      refine r_getr X hM hP fl_X5_49 dX5_fly_68 (fun x11 hP => ?_)
      refine lv_aload_n hx hb dX5_fly_71 rfl (lv_at hl 0 rfl) ?_
      refine r_getr X hM hP fl_X5_31 dX5_fly_72 (fun x12 hP => ?_)
      refine r_callVi (rest := [.int x10, .ref a0]) (T := TX0) (N := 2) X hM hS (ct_X0_run hst x11 x12) hP mV_X5_190 rfl rfl rfl hl.1 (Nat.le_of_ble_eq_true rfl) ⟨⟨by decide, by decide⟩, ⟨by decide, by decide⟩⟩ dX5_fly_75 (fun r13 M H locs hM hS hP => ?_)
      refine lv_iadd hx hb dX5_fly_78 ?_
      refine r_put X hM hS hP fl_X5_78 ft_X5 rfl (tyX5_ok 16 (Nat.le_of_ble_eq_true rfl)) rfl rfl dX5_fly_79 (fun M H locs hM hS hP => ?_)
      refine lv_iconst (v := 0) hx hb dX5_fly_82 (by decide) ?_
      refine lv_istore_n (lv' := [(3, .int 0), (0, .ref a0), (1, .int a1), (2, .int a2)]) hx hb dX5_fly_83 rfl hl (by decide) rfl (fun ls hl => ?_)
      refine lv_iconst (v := 0) hx hb dX5_fly_84 (by decide) ?_
      refine lv_istore (lv' := [(4, .int 0), (3, .int 0), (0, .ref a0), (1, .int a1), (2, .int a2)]) hx hb dX5_fly_85 hl (by decide) rfl (fun ls hl => ?_)
      exact hb87 mFuel a0 0 0 _ _ _ _ hM hS (lv_sub hl [2, 1, 0] rfl) hP
    · have hP := mIf_t hP hc
      exact hb31 _ _ _ _ hM hS (lv_sub hl [] rfl) hP
def f_X5_hold (K : Cfg) (a0 : Nat) (a1 : Int32) (k : Int32 → Mem → Prop) : Mem → Prop :=
 mGetI a0 6 7 fun x1 =>
 mPutZ a0 6 7 a1 <|
 mAs ((x1 : Int32) = 0 ∨ (x1 : Int32) = 1) <|
 k x1
abbrev rm_X5_hold : Room := { frames := 0, cells := 0, slots := 0, locals := 0 }
set_option maxHeartbeats 4000000 in
set_option maxRecDepth 100000 in
theorem ct_X5_hold {K : Cfg} {l : Launch} (hst : l.stackTraces = false) (a0 : Nat) (a1 : Int32) : mPi K l yX5_hold cX5_hold 3 (some .boolean) rm_X5_hold [.ref a0, .int a1] (f_X5_hold K a0 a1) := by
  refine mPi.of hst (by decide +kernel) (Nat.le_of_ble_eq_true rfl) ?_
  intro M k Q hk hP p e s m below meth c X hr hlocks hname hM ls hl
  have hx := X.1.1
  have hb := X.1.2.1
  have X : Cx K p l s m ([.ref a0, .int a1] : List Value).toArray c cX5_hold 3 RX5 := X
  have hS : va_S (mFA K) s.heap s.heap [] := va_S.rf
  have hl : lv_has ls 3 [(0, .ref a0), (1, .int a1)] := hl
  unfold f_X5_hold at hP
  refine lv_aload_n hx hb dX5_hold_0 rfl (lv_at hl 0 rfl) ?_
  refine r_geti X hM hP fl_X5_42 dX5_hold_1 (fun x1 hP => ?_)
  refine lv_istore_n (lv' := [(2, .int x1), (0, .ref a0), (1, .int a1)]) hx hb dX5_hold_4 rfl hl (by decide) rfl (fun ls hl => ?_)
  refine lv_aload_n hx hb dX5_hold_5 rfl (lv_at hl 1 rfl) ?_
  refine lv_iload_n hx hb dX5_hold_6 rfl (lv_at hl 2 rfl) ?_
  refine r_putz X hM hS hP fl_X5_42 ft_X5 rfl (tyX5_ok 7 (Nat.le_of_ble_eq_true rfl)) dX5_hold_7 (fun M H locs hM hS hP => ?_)
  refine lv_iload_n hx hb dX5_hold_10 rfl (lv_at hl 0 rfl) ?_
  obtain ⟨h9, hP⟩ := hP
  exact e_zret X hM hS h9 (hk _ _ hP) hr hlocks (by decide) (by decide) dX5_hold_11
def f_X5_gong (K : Cfg) (a0 : Nat) (k : Int32 → Mem → Prop) : Mem → Prop :=
 mGetI a0 6 17 fun x1 =>
 mPut a0 6 17 (.int (x1 + 1)) <|
 mGetI a0 6 17 fun x2 =>
 k x2
abbrev rm_X5_gong : Room := { frames := 0, cells := 0, slots := 0, locals := 0 }
set_option maxHeartbeats 4000000 in
set_option maxRecDepth 100000 in
theorem ct_X5_gong {K : Cfg} {l : Launch} (hst : l.stackTraces = false) (a0 : Nat) : mPi K l yX5_gong cX5_gong 1 (some .int) rm_X5_gong [.ref a0] (f_X5_gong K a0) := by
  refine mPi.of hst (by decide +kernel) (Nat.le_of_ble_eq_true rfl) ?_
  intro M k Q hk hP p e s m below meth c X hr hlocks hname hM ls hl
  have hx := X.1.1
  have hb := X.1.2.1
  have X : Cx K p l s m ([.ref a0] : List Value).toArray c cX5_gong 1 RX5 := X
  have hS : va_S (mFA K) s.heap s.heap [] := va_S.rf
  have hl : lv_has ls 1 [(0, .ref a0)] := hl
  unfold f_X5_gong at hP
  refine lv_aload_n hx hb dX5_gong_0 rfl (lv_at hl 0 rfl) ?_
  refine lv_dup hx hb dX5_gong_1 rfl ?_
  refine r_geti X hM hP fl_X5_81 dX5_gong_2 (fun x1 hP => ?_)
  refine lv_iconst (v := 1) hx hb dX5_gong_5 (by decide) ?_
  refine lv_iadd hx hb dX5_gong_6 ?_
  refine r_put X hM hS hP fl_X5_81 ft_X5 rfl (tyX5_ok 17 (Nat.le_of_ble_eq_true rfl)) rfl rfl dX5_gong_7 (fun M H locs hM hS hP => ?_)
  refine lv_aload_n hx hb dX5_gong_10 rfl (lv_at hl 0 rfl) ?_
  refine r_geti X hM hP fl_X5_81 dX5_gong_11 (fun x2 hP => ?_)
  exact e_iret X hM hS (hk _ _ hP) hr hlocks (by decide) (by decide) dX5_gong_14
def f_X5_ofJumper (K : Cfg) (a0 : Nat) (a1 : Int32) (a2 : Int32) (k : Int32 → Mem → Prop) (QX : String → Mem → Prop) : Mem → Prop :=
 mRecv a0 6 <|
 f_X5_jumperAt K a0 a1 (fun r1 =>
 mIf (a2.toInt < 0 ∨ 8 < a2.toInt)
 (QX "java/lang/IllegalArgumentException")
 (mIf (a2 = 0)
 (mGetI r1 3 0 fun x2 =>
 k x2)
 (mIf (a2 = 1)
 (mGetI r1 3 1 fun x3 =>
 k x3)
 (mIf (a2 = 2)
 (mGetI r1 3 2 fun x4 =>
 k x4)
 (mIf (a2 = 3)
 (mGetI r1 3 3 fun x5 =>
 k x5)
 (mIf (a2 = 4)
 (mGetI r1 3 4 fun x6 =>
 k x6)
 (mIf (a2 = 5)
 (mGetI r1 3 5 fun x7 =>
 k x7)
 (mIf (a2 = 6)
 (mGetI r1 3 6 fun x8 =>
 k x8)
 (mIf (a2 = 7)
 (mRecv a0 6 <|
 f_X5_placeOf K a0 a1 (fun r9 =>
 k r9) QX)
 (mIf (a2 = 8)
 (mGetI r1 3 7 fun x10 =>
 k x10)
 (mNo))))))))))) QX
abbrev rm_X5_ofJumper : Room := { frames := 8, cells := 1, slots := 6, locals := 125 }
set_option maxHeartbeats 4000000 in
set_option maxRecDepth 100000 in
theorem ct_X5_ofJumper {K : Cfg} {l : Launch} (hst : l.stackTraces = false) (a0 : Nat) (a1 : Int32) (a2 : Int32) : mXPi K l yX5_ofJumper cX5_ofJumper 4 (some .int) rm_X5_ofJumper [.ref a0, .int a1, .int a2] (f_X5_ofJumper K a0 a1 a2) := by
  refine mXPi.of hst (by decide +kernel) (Nat.le_of_ble_eq_true rfl) ?_
  intro M k Q QX hk hP p e s m below meth c X hr hlocks hno hM ls hl
  have hx := X.1.1
  have hb := X.1.2.1
  have X : Cx K p l s m ([.ref a0, .int a1, .int a2] : List Value).toArray c cX5_ofJumper 4 RX5 := X
  have hS : va_S (mFA K) s.heap s.heap [] := va_S.rf
  have hl : lv_has ls 4 [(0, .ref a0), (1, .int a1), (2, .int a2)] := hl
  unfold f_X5_ofJumper at hP
  refine lv_aload_n hx hb dX5_ofJumper_0 rfl (lv_at hl 0 rfl) ?_
  refine lv_iload_n hx hb dX5_ofJumper_1 rfl (lv_at hl 1 rfl) ?_
  refine rx_callVr (rest := []) (T := TX5) (N := 18) X hM hS (ct_X5_jumperAt hst a0 a1) hP mV_X5_118 rfl rfl rfl hl.1 (Nat.le_of_ble_eq_true rfl) ⟨⟨by decide, by decide⟩, by decide, by decide⟩ dX5_ofJumper_2 (x_out hno hlocks rfl rfl) (fun r1 M H locs hM hS hP => ?_)
  refine lv_astore_n (lv' := [(3, .ref r1), (0, .ref a0), (1, .int a1), (2, .int a2)]) hx hb dX5_ofJumper_5 rfl hl (by decide) rfl (fun ls hl => ?_)
  refine lv_iload_n hx hb dX5_ofJumper_6 rfl (lv_at hl 3 rfl) ?_
  by_cases hc : a2.toInt < 0 ∨ 8 < a2.toInt
  · have hP := mIf_t hP hc
    refine lv_tableOut (tgt := 102) hx hb dX5_ofJumper_7 hc (by decide) ?_
    exact e_throw X hM hS hP th_X5_210_212 hno hlocks hl.1 rfl rfl ⟨by decide, by decide, by decide, by decide⟩ dX5_ofJumper_102 dX5_ofJumper_105 dX5_ofJumper_106 dX5_ofJumper_108 dX5_ofJumper_111
  · have hP := mIf_f hP hc
    by_cases hv : a2 = 0
    · have hP := mIf_t hP hv
      refine lv_tableIn (off := 49) (tgt := 56) hx hb dX5_ofJumper_7 (by rw [hv]; decide) (by rw [hv]; decide) (by rw [hv]; decide) (by decide) ?_
      refine lv_aload_n hx hb dX5_ofJumper_56 rfl (lv_at hl 0 rfl) ?_
      refine r_geti X hM hP fl_X5_97 dX5_ofJumper_57 (fun x2 hP => ?_)
      exact vy_ret (e_iret X hM hS (hk _ _ hP) hr hlocks (by decide) (by decide) dX5_ofJumper_60)
    · have hP := mIf_f hP hv
      by_cases hv : a2 = 1
      · have hP := mIf_t hP hv
        refine lv_tableIn (off := 54) (tgt := 61) hx hb dX5_ofJumper_7 (by rw [hv]; decide) (by rw [hv]; decide) (by rw [hv]; decide) (by decide) ?_
        refine lv_aload_n hx hb dX5_ofJumper_61 rfl (lv_at hl 0 rfl) ?_
        refine r_geti X hM hP fl_X5_100 dX5_ofJumper_62 (fun x3 hP => ?_)
        exact vy_ret (e_iret X hM hS (hk _ _ hP) hr hlocks (by decide) (by decide) dX5_ofJumper_65)
      · have hP := mIf_f hP hv
        by_cases hv : a2 = 2
        · have hP := mIf_t hP hv
          refine lv_tableIn (off := 59) (tgt := 66) hx hb dX5_ofJumper_7 (by rw [hv]; decide) (by rw [hv]; decide) (by rw [hv]; decide) (by decide) ?_
          refine lv_aload_n hx hb dX5_ofJumper_66 rfl (lv_at hl 0 rfl) ?_
          refine r_geti X hM hP fl_X5_131 dX5_ofJumper_67 (fun x4 hP => ?_)
          exact vy_ret (e_iret X hM hS (hk _ _ hP) hr hlocks (by decide) (by decide) dX5_ofJumper_70)
        · have hP := mIf_f hP hv
          by_cases hv : a2 = 3
          · have hP := mIf_t hP hv
            refine lv_tableIn (off := 64) (tgt := 71) hx hb dX5_ofJumper_7 (by rw [hv]; decide) (by rw [hv]; decide) (by rw [hv]; decide) (by decide) ?_
            refine lv_aload_n hx hb dX5_ofJumper_71 rfl (lv_at hl 0 rfl) ?_
            refine r_geti X hM hP fl_X5_103 dX5_ofJumper_72 (fun x5 hP => ?_)
            exact vy_ret (e_iret X hM hS (hk _ _ hP) hr hlocks (by decide) (by decide) dX5_ofJumper_75)
          · have hP := mIf_f hP hv
            by_cases hv : a2 = 4
            · have hP := mIf_t hP hv
              refine lv_tableIn (off := 69) (tgt := 76) hx hb dX5_ofJumper_7 (by rw [hv]; decide) (by rw [hv]; decide) (by rw [hv]; decide) (by decide) ?_
              refine lv_aload_n hx hb dX5_ofJumper_76 rfl (lv_at hl 0 rfl) ?_
              refine r_geti X hM hP fl_X5_205 dX5_ofJumper_77 (fun x6 hP => ?_)
              exact vy_ret (e_iret X hM hS (hk _ _ hP) hr hlocks (by decide) (by decide) dX5_ofJumper_80)
            · have hP := mIf_f hP hv
              by_cases hv : a2 = 5
              · have hP := mIf_t hP hv
                refine lv_tableIn (off := 74) (tgt := 81) hx hb dX5_ofJumper_7 (by rw [hv]; decide) (by rw [hv]; decide) (by rw [hv]; decide) (by decide) ?_
                refine lv_aload_n hx hb dX5_ofJumper_81 rfl (lv_at hl 0 rfl) ?_
                refine r_geti X hM hP fl_X5_206 dX5_ofJumper_82 (fun x7 hP => ?_)
                exact vy_ret (e_iret X hM hS (hk _ _ hP) hr hlocks (by decide) (by decide) dX5_ofJumper_85)
              · have hP := mIf_f hP hv
                by_cases hv : a2 = 6
                · have hP := mIf_t hP hv
                  refine lv_tableIn (off := 79) (tgt := 86) hx hb dX5_ofJumper_7 (by rw [hv]; decide) (by rw [hv]; decide) (by rw [hv]; decide) (by decide) ?_
                  refine lv_aload_n hx hb dX5_ofJumper_86 rfl (lv_at hl 0 rfl) ?_
                  refine r_geti X hM hP fl_X5_139 dX5_ofJumper_87 (fun x8 hP => ?_)
                  exact vy_ret (e_iret X hM hS (hk _ _ hP) hr hlocks (by decide) (by decide) dX5_ofJumper_90)
                · have hP := mIf_f hP hv
                  by_cases hv : a2 = 7
                  · have hP := mIf_t hP hv
                    refine lv_tableIn (off := 84) (tgt := 91) hx hb dX5_ofJumper_7 (by rw [hv]; decide) (by rw [hv]; decide) (by rw [hv]; decide) (by decide) ?_
                    refine lv_aload_n hx hb dX5_ofJumper_91 rfl (lv_at hl 1 rfl) ?_
                    refine lv_iload_n hx hb dX5_ofJumper_92 rfl (lv_at hl 2 rfl) ?_
                    refine rx_callVi (rest := []) (T := TX5) (N := 18) X hM hS (ct_X5_placeOf hst a0 a1) hP mV_X5_126 rfl rfl rfl hl.1 (Nat.le_of_ble_eq_true rfl) ⟨⟨by decide, by decide⟩, by decide, by decide⟩ dX5_ofJumper_93 (x_out hno hlocks rfl rfl) (fun r9 M H locs hM hS hP => ?_)
                    exact vy_ret (e_iret X hM hS (hk _ _ hP) hr hlocks (by decide) (by decide) dX5_ofJumper_96)
                  · have hP := mIf_f hP hv
                    by_cases hv : a2 = 8
                    · have hP := mIf_t hP hv
                      refine lv_tableIn (off := 90) (tgt := 97) hx hb dX5_ofJumper_7 (by rw [hv]; decide) (by rw [hv]; decide) (by rw [hv]; decide) (by decide) ?_
                      refine lv_aload_n hx hb dX5_ofJumper_97 rfl (lv_at hl 0 rfl) ?_
                      refine r_geti X hM hP fl_X5_209 dX5_ofJumper_98 (fun x10 hP => ?_)
                      exact vy_ret (e_iret X hM hS (hk _ _ hP) hr hlocks (by decide) (by decide) dX5_ofJumper_101)
                    · have hP := mIf_f hP hv
                      exact hP.elim
def f_X5_loading (K : Cfg) (a0 : Nat) (a1 : Int32) (k : UInt64 → Mem → Prop) (QX : String → Mem → Prop) : Mem → Prop :=
 mRecv a0 6 <|
 f_X5_jumperAt K a0 a1 (fun r1 =>
 mRecv a0 6 <|
 f_X5_loadingOf K a0 r1 (fun r2 =>
 mAs (vf_n64 (FP.f2d r2)) <|
 k (FP.f2d r2)) QX) QX
abbrev rm_X5_loading : Room := { frames := 8, cells := 1, slots := 6, locals := 124 }
set_option maxHeartbeats 4000000 in
set_option maxRecDepth 100000 in
theorem ct_X5_loading {K : Cfg} {l : Launch} (hst : l.stackTraces = false) (a0 : Nat) (a1 : Int32) : mXPd K l yX5_loading cX5_loading 2 (some .double) rm_X5_loading [.ref a0, .int a1] (f_X5_loading K a0 a1) := by
  refine mXPd.of hst (by decide +kernel) (Nat.le_of_ble_eq_true rfl) ?_
  intro M k Q QX hk hP p e s m below meth c X hr hlocks hno hM ls hl
  have hx := X.1.1
  have hb := X.1.2.1
  have X : Cx K p l s m ([.ref a0, .int a1] : List Value).toArray c cX5_loading 2 RX5 := X
  have hS : va_S (mFA K) s.heap s.heap [] := va_S.rf
  have hl : lv_has ls 2 [(0, .ref a0), (1, .int a1)] := hl
  unfold f_X5_loading at hP
  refine lv_aload_n hx hb dX5_loading_0 rfl (lv_at hl 0 rfl) ?_
  refine lv_aload_n hx hb dX5_loading_1 rfl (lv_at hl 0 rfl) ?_
  refine lv_iload_n hx hb dX5_loading_2 rfl (lv_at hl 1 rfl) ?_
  refine rx_callVr (rest := [.ref a0]) (T := TX5) (N := 18) X hM hS (ct_X5_jumperAt hst a0 a1) hP mV_X5_118 rfl rfl rfl hl.1 (Nat.le_of_ble_eq_true rfl) ⟨⟨by decide, by decide⟩, by decide, by decide⟩ dX5_loading_3 (x_out hno hlocks rfl rfl) (fun r1 M H locs hM hS hP => ?_)
  refine rx_callVf (rest := []) (T := TX5) (N := 18) X hM hS (ct_X5_loadingOf hst a0 r1) hP mV_X5_215 rfl rfl rfl hl.1 (Nat.le_of_ble_eq_true rfl) ⟨⟨by decide, by decide⟩, by decide, by decide⟩ dX5_loading_6 (x_out hno hlocks rfl rfl) (fun r2 M H locs hM hS hP => ?_)
  obtain ⟨h9, hP⟩ := hP
  refine lv_f2d hx hb dX5_loading_9 h9 ?_
  exact vy_ret (e_dret X hM hS (hk _ _ hP) hr hlocks (by decide) (by decide) dX5_loading_10)
def f_X5_landed_b21 (K : Cfg) (k : UInt64 → Mem → Prop) (QX : String → Mem → Prop) (t0 : UInt64) : Mem → Prop :=
 k t0
def f_X5_landed (K : Cfg) (a0 : Nat) (a1 : Int32) (a2 : Int32) (k : UInt64 → Mem → Prop) (QX : String → Mem → Prop) : Mem → Prop :=
 mRecv a0 6 <|
 f_X5_jumperAt K a0 a1 (fun r1 =>
 mIf (a2 = 0)
 (mGetD r1 3 8 fun x2 =>
 f_X5_landed_b21 K k QX x2)
 (mGetD r1 3 9 fun x3 =>
 f_X5_landed_b21 K k QX x3)) QX
abbrev rm_X5_landed : Room := { frames := 7, cells := 1, slots := 6, locals := 103 }
set_option maxHeartbeats 4000000 in
set_option maxRecDepth 100000 in
theorem ct_X5_landed {K : Cfg} {l : Launch} (hst : l.stackTraces = false) (a0 : Nat) (a1 : Int32) (a2 : Int32) : mXPd K l yX5_landed cX5_landed 4 (some .double) rm_X5_landed [.ref a0, .int a1, .int a2] (f_X5_landed K a0 a1 a2) := by
  refine mXPd.of hst (by decide +kernel) (Nat.le_of_ble_eq_true rfl) ?_
  intro M k Q QX hk hP p e s m below meth c X hr hlocks hno hM ls hl
  have hx := X.1.1
  have hb := X.1.2.1
  have X : Cx K p l s m ([.ref a0, .int a1, .int a2] : List Value).toArray c cX5_landed 4 RX5 := X
  have hS : va_S (mFA K) s.heap s.heap [] := va_S.rf
  have hl : lv_has ls 4 [(0, .ref a0), (1, .int a1), (2, .int a2)] := hl
  have hb21 : ∀ (t0 : UInt64) (M : Mem) (H : Heap) (locs : List Loc) (ls : Array Slot), mh K M H → va_S (mFA K) s.heap H locs → lv_has ls 4 [] → f_X5_landed_b21 K k QX t0 M → W p l e rm_X5_landed s m ([.ref a0, .int a1, .int a2] : List Value).toArray below meth c H locs 0 0 (vy_MQ below (mQ K Q) (mX K QX) ([.ref a0, .int a1, .int a2] : List Value).toArray s 0 0 1 6 (mFA K)) (F0 m 21 ls [.double t0]) := by
    intro t0 M H locs ls hM hS hl hP
    unfold f_X5_landed_b21 at hP
    exact vy_ret (e_dret X hM hS (hk _ _ hP) hr hlocks (by decide) (by decide) dX5_landed_21)
  unfold f_X5_landed at hP
  refine lv_aload_n hx hb dX5_landed_0 rfl (lv_at hl 0 rfl) ?_
  refine lv_iload_n hx hb dX5_landed_1 rfl (lv_at hl 1 rfl) ?_
  refine rx_callVr (rest := []) (T := TX5) (N := 18) X hM hS (ct_X5_jumperAt hst a0 a1) hP mV_X5_118 rfl rfl rfl hl.1 (Nat.le_of_ble_eq_true rfl) ⟨⟨by decide, by decide⟩, by decide, by decide⟩ dX5_landed_2 (x_out hno hlocks rfl rfl) (fun r1 M H locs hM hS hP => ?_)
  refine lv_astore_n (lv' := [(3, .ref r1), (0, .ref a0), (1, .int a1), (2, .int a2)]) hx hb dX5_landed_5 rfl hl (by decide) rfl (fun ls hl => ?_)
  refine lv_iload_n hx hb dX5_landed_6 rfl (lv_at hl 3 rfl) ?_
  refine lv_if_eq (tgt := 17) hx hb dX5_landed_7 (by decide) (fun hc => ?_) (fun hc => ?_)
  · have hP := mIf_t hP hc
    refine lv_aload_n hx hb dX5_landed_17 rfl (lv_at hl 0 rfl) ?_
    refine r_getd X hM hP fl_X5_223 dX5_landed_18 (fun x2 hP => ?_)
    exact hb21 x2 _ _ _ _ hM hS (lv_sub hl [] rfl) hP
  · have hP := mIf_f hP hc
    refine lv_aload_n hx hb dX5_landed_10 rfl (lv_at hl 0 rfl) ?_
    refine r_getd X hM hP fl_X5_219 dX5_landed_11 (fun x3 hP => ?_)
    refine lv_goto (tgt := 21) hx hb dX5_landed_14 (by decide) ?_
    exact hb21 x3 _ _ _ _ hM hS (lv_sub hl [] rfl) hP
def f_X5_refuses (K : Cfg) (a0 : Nat) (a1 : Int32) (k : Int32 → Mem → Prop) (QX : String → Mem → Prop) : Mem → Prop :=
 mRecv a0 6 <|
 f_X5_whyNot K a0 a1 (fun r1 =>
 k r1) QX
abbrev rm_X5_refuses : Room := { frames := 9, cells := 1, slots := 6, locals := 148 }
set_option maxHeartbeats 4000000 in
set_option maxRecDepth 100000 in
theorem ct_X5_refuses {K : Cfg} {l : Launch} (hst : l.stackTraces = false) (a0 : Nat) (a1 : Int32) : mXPi K l yX5_refuses cX5_refuses 2 (some .int) rm_X5_refuses [.ref a0, .int a1] (f_X5_refuses K a0 a1) := by
  refine mXPi.of hst (by decide +kernel) (Nat.le_of_ble_eq_true rfl) ?_
  intro M k Q QX hk hP p e s m below meth c X hr hlocks hno hM ls hl
  have hx := X.1.1
  have hb := X.1.2.1
  have X : Cx K p l s m ([.ref a0, .int a1] : List Value).toArray c cX5_refuses 2 RX5 := X
  have hS : va_S (mFA K) s.heap s.heap [] := va_S.rf
  have hl : lv_has ls 2 [(0, .ref a0), (1, .int a1)] := hl
  unfold f_X5_refuses at hP
  refine lv_aload_n hx hb dX5_refuses_0 rfl (lv_at hl 0 rfl) ?_
  refine lv_iload_n hx hb dX5_refuses_1 rfl (lv_at hl 1 rfl) ?_
  refine rx_callVi (rest := []) (T := TX5) (N := 18) X hM hS (ct_X5_whyNot hst a0 a1) hP mV_X5_166 rfl rfl rfl hl.1 (Nat.le_of_ble_eq_true rfl) ⟨⟨by decide, by decide⟩, by decide, by decide⟩ dX5_refuses_2 (x_out hno hlocks rfl rfl) (fun r1 M H locs hM hS hP => ?_)
  exact vy_ret (e_iret X hM hS (hk _ _ hP) hr hlocks (by decide) (by decide) dX5_refuses_5)
def f_X5_ofRig_b67 (K : Cfg) (k : Int32 → Mem → Prop) (QX : String → Mem → Prop) (t0 : Int32) : Mem → Prop :=
 k t0
def f_X5_ofRig (K : Cfg) (a0 : Nat) (a1 : Int32) (a2 : Int32) (k : Int32 → Mem → Prop) (QX : String → Mem → Prop) : Mem → Prop :=
 mRecv a0 6 <|
 f_X5_rigAt K a0 a1 (fun r1 =>
 mIf (a2.toInt < 0 ∨ 4 < a2.toInt)
 (QX "java/lang/IllegalArgumentException")
 (mIf (a2 = 0)
 (mGetI r1 4 0 fun x2 =>
 k x2)
 (mIf (a2 = 1)
 (mGetI r1 4 1 fun x3 =>
 k x3)
 (mIf (a2 = 2)
 (mGetI r1 4 2 fun x4 =>
 k x4)
 (mIf (a2 = 3)
 (mGetI r1 4 3 fun x5 =>
 mIf (x5 = 0)
 (f_X5_ofRig_b67 K k QX 0)
 (f_X5_ofRig_b67 K k QX 1))
 (mIf (a2 = 4)
 (mRecv a0 6 <|
 f_X5_holderOf K a0 a1 (fun r6 =>
 k r6) QX)
 (mNo))))))) QX
abbrev rm_X5_ofRig : Room := { frames := 8, cells := 1, slots := 6, locals := 125 }
set_option maxHeartbeats 4000000 in
set_option maxRecDepth 100000 in
theorem ct_X5_ofRig {K : Cfg} {l : Launch} (hst : l.stackTraces = false) (a0 : Nat) (a1 : Int32) (a2 : Int32) : mXPi K l yX5_ofRig cX5_ofRig 4 (some .int) rm_X5_ofRig [.ref a0, .int a1, .int a2] (f_X5_ofRig K a0 a1 a2) := by
  refine mXPi.of hst (by decide +kernel) (Nat.le_of_ble_eq_true rfl) ?_
  intro M k Q QX hk hP p e s m below meth c X hr hlocks hno hM ls hl
  have hx := X.1.1
  have hb := X.1.2.1
  have X : Cx K p l s m ([.ref a0, .int a1, .int a2] : List Value).toArray c cX5_ofRig 4 RX5 := X
  have hS : va_S (mFA K) s.heap s.heap [] := va_S.rf
  have hl : lv_has ls 4 [(0, .ref a0), (1, .int a1), (2, .int a2)] := hl
  have hb67 : ∀ (t0 : Int32) (M : Mem) (H : Heap) (locs : List Loc) (ls : Array Slot), mh K M H → va_S (mFA K) s.heap H locs → lv_has ls 4 [] → f_X5_ofRig_b67 K k QX t0 M → W p l e rm_X5_ofRig s m ([.ref a0, .int a1, .int a2] : List Value).toArray below meth c H locs 0 0 (vy_MQ below (mQ K Q) (mX K QX) ([.ref a0, .int a1, .int a2] : List Value).toArray s 0 0 1 6 (mFA K)) (F0 m 67 ls [.int t0]) := by
    intro t0 M H locs ls hM hS hl hP
    unfold f_X5_ofRig_b67 at hP
    exact vy_ret (e_iret X hM hS (hk _ _ hP) hr hlocks (by decide) (by decide) dX5_ofRig_67)
  unfold f_X5_ofRig at hP
  refine lv_aload_n hx hb dX5_ofRig_0 rfl (lv_at hl 0 rfl) ?_
  refine lv_iload_n hx hb dX5_ofRig_1 rfl (lv_at hl 1 rfl) ?_
  refine rx_callVr (rest := []) (T := TX5) (N := 18) X hM hS (ct_X5_rigAt hst a0 a1) hP mV_X5_114 rfl rfl rfl hl.1 (Nat.le_of_ble_eq_true rfl) ⟨⟨by decide, by decide⟩, by decide, by decide⟩ dX5_ofRig_2 (x_out hno hlocks rfl rfl) (fun r1 M H locs hM hS hP => ?_)
  refine lv_astore_n (lv' := [(3, .ref r1), (0, .ref a0), (1, .int a1), (2, .int a2)]) hx hb dX5_ofRig_5 rfl hl (by decide) rfl (fun ls hl => ?_)
  refine lv_iload_n hx hb dX5_ofRig_6 rfl (lv_at hl 3 rfl) ?_
  by_cases hc : a2.toInt < 0 ∨ 4 < a2.toInt
  · have hP := mIf_t hP hc
    refine lv_tableOut (tgt := 74) hx hb dX5_ofRig_7 hc (by decide) ?_
    exact e_throw X hM hS hP th_X5_210_226 hno hlocks hl.1 rfl rfl ⟨by decide, by decide, by decide, by decide⟩ dX5_ofRig_74 dX5_ofRig_77 dX5_ofRig_78 dX5_ofRig_80 dX5_ofRig_83
  · have hP := mIf_f hP hc
    by_cases hv : a2 = 0
    · have hP := mIf_t hP hv
      refine lv_tableIn (off := 33) (tgt := 40) hx hb dX5_ofRig_7 (by rw [hv]; decide) (by rw [hv]; decide) (by rw [hv]; decide) (by decide) ?_
      refine lv_aload_n hx hb dX5_ofRig_40 rfl (lv_at hl 0 rfl) ?_
      refine r_geti X hM hP fl_X5_108 dX5_ofRig_41 (fun x2 hP => ?_)
      exact vy_ret (e_iret X hM hS (hk _ _ hP) hr hlocks (by decide) (by decide) dX5_ofRig_44)
    · have hP := mIf_f hP hv
      by_cases hv : a2 = 1
      · have hP := mIf_t hP hv
        refine lv_tableIn (off := 38) (tgt := 45) hx hb dX5_ofRig_7 (by rw [hv]; decide) (by rw [hv]; decide) (by rw [hv]; decide) (by decide) ?_
        refine lv_aload_n hx hb dX5_ofRig_45 rfl (lv_at hl 0 rfl) ?_
        refine r_geti X hM hP fl_X5_111 dX5_ofRig_46 (fun x3 hP => ?_)
        exact vy_ret (e_iret X hM hS (hk _ _ hP) hr hlocks (by decide) (by decide) dX5_ofRig_49)
      · have hP := mIf_f hP hv
        by_cases hv : a2 = 2
        · have hP := mIf_t hP hv
          refine lv_tableIn (off := 43) (tgt := 50) hx hb dX5_ofRig_7 (by rw [hv]; decide) (by rw [hv]; decide) (by rw [hv]; decide) (by decide) ?_
          refine lv_aload_n hx hb dX5_ofRig_50 rfl (lv_at hl 0 rfl) ?_
          refine r_geti X hM hP fl_X5_148 dX5_ofRig_51 (fun x4 hP => ?_)
          exact vy_ret (e_iret X hM hS (hk _ _ hP) hr hlocks (by decide) (by decide) dX5_ofRig_54)
        · have hP := mIf_f hP hv
          by_cases hv : a2 = 3
          · have hP := mIf_t hP hv
            refine lv_tableIn (off := 48) (tgt := 55) hx hb dX5_ofRig_7 (by rw [hv]; decide) (by rw [hv]; decide) (by rw [hv]; decide) (by decide) ?_
            refine lv_aload_n hx hb dX5_ofRig_55 rfl (lv_at hl 0 rfl) ?_
            refine r_geti X hM hP fl_X5_134 dX5_ofRig_56 (fun x5 hP => ?_)
            refine lv_if_eq (tgt := 66) hx hb dX5_ofRig_59 (by decide) (fun hc => ?_) (fun hc => ?_)
            · have hP := mIf_t hP hc
              refine lv_iconst (v := 0) hx hb dX5_ofRig_66 (by decide) ?_
              exact hb67 0 _ _ _ _ hM hS (lv_sub hl [] rfl) hP
            · have hP := mIf_f hP hc
              refine lv_iconst (v := 1) hx hb dX5_ofRig_62 (by decide) ?_
              refine lv_goto (tgt := 67) hx hb dX5_ofRig_63 (by decide) ?_
              exact hb67 1 _ _ _ _ hM hS (lv_sub hl [] rfl) hP
          · have hP := mIf_f hP hv
            by_cases hv : a2 = 4
            · have hP := mIf_t hP hv
              refine lv_tableIn (off := 61) (tgt := 68) hx hb dX5_ofRig_7 (by rw [hv]; decide) (by rw [hv]; decide) (by rw [hv]; decide) (by decide) ?_
              refine lv_aload_n hx hb dX5_ofRig_68 rfl (lv_at hl 1 rfl) ?_
              refine lv_iload_n hx hb dX5_ofRig_69 rfl (lv_at hl 2 rfl) ?_
              refine rx_callVi (rest := []) (T := TX5) (N := 18) X hM hS (ct_X5_holderOf hst a0 a1) hP mV_X5_122 rfl rfl rfl hl.1 (Nat.le_of_ble_eq_true rfl) ⟨⟨by decide, by decide⟩, by decide, by decide⟩ dX5_ofRig_70 (x_out hno hlocks rfl rfl) (fun r6 M H locs hM hS hP => ?_)
              exact vy_ret (e_iret X hM hS (hk _ _ hP) hr hlocks (by decide) (by decide) dX5_ofRig_73)
            · have hP := mIf_f hP hv
              exact hP.elim
def f_X5_wear (K : Cfg) (a0 : Nat) (a1 : Int32) (k : UInt64 → Mem → Prop) (QX : String → Mem → Prop) : Mem → Prop :=
 mRecv a0 6 <|
 f_X5_rigAt K a0 a1 (fun r1 =>
 mGetF r1 4 4 fun x2 =>
 mAs (vf_n64 (FP.f2d x2)) <|
 k (FP.f2d x2)) QX
abbrev rm_X5_wear : Room := { frames := 7, cells := 1, slots := 6, locals := 103 }
set_option maxHeartbeats 4000000 in
set_option maxRecDepth 100000 in
theorem ct_X5_wear {K : Cfg} {l : Launch} (hst : l.stackTraces = false) (a0 : Nat) (a1 : Int32) : mXPd K l yX5_wear cX5_wear 2 (some .double) rm_X5_wear [.ref a0, .int a1] (f_X5_wear K a0 a1) := by
  refine mXPd.of hst (by decide +kernel) (Nat.le_of_ble_eq_true rfl) ?_
  intro M k Q QX hk hP p e s m below meth c X hr hlocks hno hM ls hl
  have hx := X.1.1
  have hb := X.1.2.1
  have X : Cx K p l s m ([.ref a0, .int a1] : List Value).toArray c cX5_wear 2 RX5 := X
  have hS : va_S (mFA K) s.heap s.heap [] := va_S.rf
  have hl : lv_has ls 2 [(0, .ref a0), (1, .int a1)] := hl
  unfold f_X5_wear at hP
  refine lv_aload_n hx hb dX5_wear_0 rfl (lv_at hl 0 rfl) ?_
  refine lv_iload_n hx hb dX5_wear_1 rfl (lv_at hl 1 rfl) ?_
  refine rx_callVr (rest := []) (T := TX5) (N := 18) X hM hS (ct_X5_rigAt hst a0 a1) hP mV_X5_114 rfl rfl rfl hl.1 (Nat.le_of_ble_eq_true rfl) ⟨⟨by decide, by decide⟩, by decide, by decide⟩ dX5_wear_2 (x_out hno hlocks rfl rfl) (fun r1 M H locs hM hS hP => ?_)
  refine r_getf X hM hP fl_X5_228 dX5_wear_5 (fun x2 hP => ?_)
  obtain ⟨h9, hP⟩ := hP
  refine lv_f2d hx hb dX5_wear_8 h9 ?_
  exact vy_ret (e_dret X hM hS (hk _ _ hP) hr hlocks (by decide) (by decide) dX5_wear_9)
def f_X5_ofWind_b27 (K : Cfg) (k : Int32 → Mem → Prop) (QX : String → Mem → Prop) (t0 : Int32) : Mem → Prop :=
 k t0
def f_X5_ofWind (K : Cfg) (a0 : Nat) (a1 : Int32) (a2 : Int32) (k : Int32 → Mem → Prop) (QX : String → Mem → Prop) : Mem → Prop :=
 f_X5_checkLayer K a1 (
 mIf (a2 = 0)
 (mGetR a0 6 4 fun x2 =>
 mRecv x2 5 <|
 f_X4_xOf K x2 a1 (fun r3 =>
 f_X5_ofWind_b27 K k QX r3))
 (mGetR a0 6 4 fun x4 =>
 mRecv x4 5 <|
 f_X4_yOf K x4 a1 (fun r5 =>
 f_X5_ofWind_b27 K k QX r5))) QX
abbrev rm_X5_ofWind : Room := { frames := 7, cells := 1, slots := 6, locals := 102 }
set_option maxHeartbeats 4000000 in
set_option maxRecDepth 100000 in
theorem ct_X5_ofWind {K : Cfg} {l : Launch} (hst : l.stackTraces = false) (a0 : Nat) (a1 : Int32) (a2 : Int32) : mXPi K l yX5_ofWind cX5_ofWind 3 (some .int) rm_X5_ofWind [.ref a0, .int a1, .int a2] (f_X5_ofWind K a0 a1 a2) := by
  refine mXPi.of hst (by decide +kernel) (Nat.le_of_ble_eq_true rfl) ?_
  intro M k Q QX hk hP p e s m below meth c X hr hlocks hno hM ls hl
  have hx := X.1.1
  have hb := X.1.2.1
  have X : Cx K p l s m ([.ref a0, .int a1, .int a2] : List Value).toArray c cX5_ofWind 3 RX5 := X
  have hS : va_S (mFA K) s.heap s.heap [] := va_S.rf
  have hl : lv_has ls 3 [(0, .ref a0), (1, .int a1), (2, .int a2)] := hl
  have hb27 : ∀ (t0 : Int32) (M : Mem) (H : Heap) (locs : List Loc) (ls : Array Slot), mh K M H → va_S (mFA K) s.heap H locs → lv_has ls 3 [] → f_X5_ofWind_b27 K k QX t0 M → W p l e rm_X5_ofWind s m ([.ref a0, .int a1, .int a2] : List Value).toArray below meth c H locs 0 0 (vy_MQ below (mQ K Q) (mX K QX) ([.ref a0, .int a1, .int a2] : List Value).toArray s 0 0 1 6 (mFA K)) (F0 m 27 ls [.int t0]) := by
    intro t0 M H locs ls hM hS hl hP
    unfold f_X5_ofWind_b27 at hP
    exact vy_ret (e_iret X hM hS (hk _ _ hP) hr hlocks (by decide) (by decide) dX5_ofWind_27)
  unfold f_X5_ofWind at hP
  refine lv_iload_n hx hb dX5_ofWind_0 rfl (lv_at hl 1 rfl) ?_
  refine rx_callSv (rest := []) X hM hS (ct_X5_checkLayer hst a1) hP mS_X5_153 rfl rfl hl.1 (Nat.le_of_ble_eq_true rfl) ⟨⟨by decide, by decide⟩, by decide, by decide⟩ dX5_ofWind_1 (x_out hno hlocks rfl rfl) (fun M H locs hM hS hP => ?_)
  refine lv_iload_n hx hb dX5_ofWind_4 rfl (lv_at hl 2 rfl) ?_
  refine lv_if_eq (tgt := 19) hx hb dX5_ofWind_5 (by decide) (fun hc => ?_) (fun hc => ?_)
  · have hP := mIf_t hP hc
    refine lv_aload_n hx hb dX5_ofWind_19 rfl (lv_at hl 0 rfl) ?_
    refine r_getr X hM hP fl_X5_31 dX5_ofWind_20 (fun x2 hP => ?_)
    refine lv_iload_n hx hb dX5_ofWind_23 rfl (lv_at hl 1 rfl) ?_
    refine r_callVi (rest := []) (T := TX4) (N := 2) X hM hS (ct_X4_xOf hst x2 a1) hP mV_X5_235 rfl rfl rfl hl.1 (Nat.le_of_ble_eq_true rfl) ⟨⟨by decide, by decide⟩, ⟨by decide, by decide⟩⟩ dX5_ofWind_24 (fun r3 M H locs hM hS hP => ?_)
    exact hb27 r3 _ _ _ _ hM hS (lv_sub hl [] rfl) hP
  · have hP := mIf_f hP hc
    refine lv_aload_n hx hb dX5_ofWind_8 rfl (lv_at hl 0 rfl) ?_
    refine r_getr X hM hP fl_X5_31 dX5_ofWind_9 (fun x4 hP => ?_)
    refine lv_iload_n hx hb dX5_ofWind_12 rfl (lv_at hl 1 rfl) ?_
    refine r_callVi (rest := []) (T := TX4) (N := 2) X hM hS (ct_X4_yOf hst x4 a1) hP mV_X5_232 rfl rfl rfl hl.1 (Nat.le_of_ble_eq_true rfl) ⟨⟨by decide, by decide⟩, ⟨by decide, by decide⟩⟩ dX5_ofWind_13 (fun r5 M H locs hM hS hP => ?_)
    refine lv_goto (tgt := 27) hx hb dX5_ofWind_16 (by decide) ?_
    exact hb27 r5 _ _ _ _ hM hS (lv_sub hl [] rfl) hP
def f_X5_many_b138 (K : Cfg) (k : Int32 → Mem → Prop) (QX : String → Mem → Prop) (t0 : Int32) : Mem → Prop :=
 k t0
def f_X5_many (K : Cfg) (a0 : Nat) (a1 : Int32) (k : Int32 → Mem → Prop) (QX : String → Mem → Prop) : Mem → Prop :=
 mIf (a1.toInt < 0 ∨ 12 < a1.toInt)
 (QX "java/lang/IllegalArgumentException")
 (mIf (a1 = 0)
 (mGetI a0 6 10 fun x1 =>
 k x1)
 (mIf (a1 = 1)
 (mGetI a0 6 1 fun x2 =>
 k x2)
 (mIf (a1 = 2)
 (mGetI a0 6 3 fun x3 =>
 k x3)
 (mIf (a1 = 3)
 (mGetR a0 6 4 fun x4 =>
 mRecv x4 5 <|
 f_X4_ground K x4 (fun r5 =>
 k r5))
 (mIf (a1 = 4)
 (mGetI a0 6 6 fun x6 =>
 k x6)
 (mIf (a1 = 5)
 (mGetI a0 6 11 fun x7 =>
 k x7)
 (mIf (a1 = 6)
 (mGetI a0 6 12 fun x8 =>
 k x8)
 (mIf (a1 = 7)
 (mGetI a0 6 13 fun x9 =>
 k x9)
 (mIf (a1 = 8)
 (mGetI a0 6 14 fun x10 =>
 k x10)
 (mIf (a1 = 9)
 (mGetI a0 6 15 fun x11 =>
 k x11)
 (mIf (a1 = 10)
 (mGetI a0 6 16 fun x12 =>
 k x12)
 (mIf (a1 = 11)
 (mGetI a0 6 7 fun x13 =>
 mIf (x13 = 0)
 (f_X5_many_b138 K k QX 0)
 (f_X5_many_b138 K k QX 1))
 (mIf (a1 = 12)
 (mGetI a0 6 17 fun x14 =>
 k x14)
 (mNo))))))))))))))
abbrev rm_X5_many : Room := { frames := 6, cells := 1, slots := 6, locals := 82 }
set_option maxHeartbeats 4000000 in
set_option maxRecDepth 100000 in
theorem ct_X5_many {K : Cfg} {l : Launch} (hst : l.stackTraces = false) (a0 : Nat) (a1 : Int32) : mXPi K l yX5_many cX5_many 2 (some .int) rm_X5_many [.ref a0, .int a1] (f_X5_many K a0 a1) := by
  refine mXPi.of hst (by decide +kernel) (Nat.le_of_ble_eq_true rfl) ?_
  intro M k Q QX hk hP p e s m below meth c X hr hlocks hno hM ls hl
  have hx := X.1.1
  have hb := X.1.2.1
  have X : Cx K p l s m ([.ref a0, .int a1] : List Value).toArray c cX5_many 2 RX5 := X
  have hS : va_S (mFA K) s.heap s.heap [] := va_S.rf
  have hl : lv_has ls 2 [(0, .ref a0), (1, .int a1)] := hl
  have hb138 : ∀ (t0 : Int32) (M : Mem) (H : Heap) (locs : List Loc) (ls : Array Slot), mh K M H → va_S (mFA K) s.heap H locs → lv_has ls 2 [] → f_X5_many_b138 K k QX t0 M → W p l e rm_X5_many s m ([.ref a0, .int a1] : List Value).toArray below meth c H locs 0 0 (vy_MQ below (mQ K Q) (mX K QX) ([.ref a0, .int a1] : List Value).toArray s 0 0 1 6 (mFA K)) (F0 m 138 ls [.int t0]) := by
    intro t0 M H locs ls hM hS hl hP
    unfold f_X5_many_b138 at hP
    exact vy_ret (e_iret X hM hS (hk _ _ hP) hr hlocks (by decide) (by decide) dX5_many_138)
  unfold f_X5_many at hP
  refine lv_iload_n hx hb dX5_many_0 rfl (lv_at hl 1 rfl) ?_
  by_cases hc : a1.toInt < 0 ∨ 12 < a1.toInt
  · have hP := mIf_t hP hc
    refine lv_tableOut (tgt := 144) hx hb dX5_many_1 hc (by decide) ?_
    exact e_throw X hM hS hP th_X5_210_238 hno hlocks hl.1 rfl rfl ⟨by decide, by decide, by decide, by decide⟩ dX5_many_144 dX5_many_147 dX5_many_148 dX5_many_150 dX5_many_153
  · have hP := mIf_f hP hc
    by_cases hv : a1 = 0
    · have hP := mIf_t hP hv
      refine lv_tableIn (off := 67) (tgt := 68) hx hb dX5_many_1 (by rw [hv]; decide) (by rw [hv]; decide) (by rw [hv]; decide) (by decide) ?_
      refine lv_aload_n hx hb dX5_many_68 rfl (lv_at hl 0 rfl) ?_
      refine r_geti X hM hP fl_X5_60 dX5_many_69 (fun x1 hP => ?_)
      exact vy_ret (e_iret X hM hS (hk _ _ hP) hr hlocks (by decide) (by decide) dX5_many_72)
    · have hP := mIf_f hP hv
      by_cases hv : a1 = 1
      · have hP := mIf_t hP hv
        refine lv_tableIn (off := 72) (tgt := 73) hx hb dX5_many_1 (by rw [hv]; decide) (by rw [hv]; decide) (by rw [hv]; decide) (by decide) ?_
        refine lv_aload_n hx hb dX5_many_73 rfl (lv_at hl 0 rfl) ?_
        refine r_geti X hM hP fl_X5_15 dX5_many_74 (fun x2 hP => ?_)
        exact vy_ret (e_iret X hM hS (hk _ _ hP) hr hlocks (by decide) (by decide) dX5_many_77)
      · have hP := mIf_f hP hv
        by_cases hv : a1 = 2
        · have hP := mIf_t hP hv
          refine lv_tableIn (off := 77) (tgt := 78) hx hb dX5_many_1 (by rw [hv]; decide) (by rw [hv]; decide) (by rw [hv]; decide) (by decide) ?_
          refine lv_aload_n hx hb dX5_many_78 rfl (lv_at hl 0 rfl) ?_
          refine r_geti X hM hP fl_X5_25 dX5_many_79 (fun x3 hP => ?_)
          exact vy_ret (e_iret X hM hS (hk _ _ hP) hr hlocks (by decide) (by decide) dX5_many_82)
        · have hP := mIf_f hP hv
          by_cases hv : a1 = 3
          · have hP := mIf_t hP hv
            refine lv_tableIn (off := 82) (tgt := 83) hx hb dX5_many_1 (by rw [hv]; decide) (by rw [hv]; decide) (by rw [hv]; decide) (by decide) ?_
            refine lv_aload_n hx hb dX5_many_83 rfl (lv_at hl 0 rfl) ?_
            refine r_getr X hM hP fl_X5_31 dX5_many_84 (fun x4 hP => ?_)
            refine r_callVi (rest := []) (T := TX4) (N := 2) X hM hS (ct_X4_ground hst x4) hP mV_X5_160 rfl rfl rfl hl.1 (Nat.le_of_ble_eq_true rfl) ⟨⟨by decide, by decide⟩, ⟨by decide, by decide⟩⟩ dX5_many_87 (fun r5 M H locs hM hS hP => ?_)
            exact vy_ret (e_iret X hM hS (hk _ _ hP) hr hlocks (by decide) (by decide) dX5_many_90)
          · have hP := mIf_f hP hv
            by_cases hv : a1 = 4
            · have hP := mIf_t hP hv
              refine lv_tableIn (off := 90) (tgt := 91) hx hb dX5_many_1 (by rw [hv]; decide) (by rw [hv]; decide) (by rw [hv]; decide) (by decide) ?_
              refine lv_aload_n hx hb dX5_many_91 rfl (lv_at hl 0 rfl) ?_
              refine r_geti X hM hP fl_X5_39 dX5_many_92 (fun x6 hP => ?_)
              exact vy_ret (e_iret X hM hS (hk _ _ hP) hr hlocks (by decide) (by decide) dX5_many_95)
            · have hP := mIf_f hP hv
              by_cases hv : a1 = 5
              · have hP := mIf_t hP hv
                refine lv_tableIn (off := 95) (tgt := 96) hx hb dX5_many_1 (by rw [hv]; decide) (by rw [hv]; decide) (by rw [hv]; decide) (by decide) ?_
                refine lv_aload_n hx hb dX5_many_96 rfl (lv_at hl 0 rfl) ?_
                refine r_geti X hM hP fl_X5_63 dX5_many_97 (fun x7 hP => ?_)
                exact vy_ret (e_iret X hM hS (hk _ _ hP) hr hlocks (by decide) (by decide) dX5_many_100)
              · have hP := mIf_f hP hv
                by_cases hv : a1 = 6
                · have hP := mIf_t hP hv
                  refine lv_tableIn (off := 100) (tgt := 101) hx hb dX5_many_1 (by rw [hv]; decide) (by rw [hv]; decide) (by rw [hv]; decide) (by decide) ?_
                  refine lv_aload_n hx hb dX5_many_101 rfl (lv_at hl 0 rfl) ?_
                  refine r_geti X hM hP fl_X5_66 dX5_many_102 (fun x8 hP => ?_)
                  exact vy_ret (e_iret X hM hS (hk _ _ hP) hr hlocks (by decide) (by decide) dX5_many_105)
                · have hP := mIf_f hP hv
                  by_cases hv : a1 = 7
                  · have hP := mIf_t hP hv
                    refine lv_tableIn (off := 105) (tgt := 106) hx hb dX5_many_1 (by rw [hv]; decide) (by rw [hv]; decide) (by rw [hv]; decide) (by decide) ?_
                    refine lv_aload_n hx hb dX5_many_106 rfl (lv_at hl 0 rfl) ?_
                    refine r_geti X hM hP fl_X5_69 dX5_many_107 (fun x9 hP => ?_)
                    exact vy_ret (e_iret X hM hS (hk _ _ hP) hr hlocks (by decide) (by decide) dX5_many_110)
                  · have hP := mIf_f hP hv
                    by_cases hv : a1 = 8
                    · have hP := mIf_t hP hv
                      refine lv_tableIn (off := 110) (tgt := 111) hx hb dX5_many_1 (by rw [hv]; decide) (by rw [hv]; decide) (by rw [hv]; decide) (by decide) ?_
                      refine lv_aload_n hx hb dX5_many_111 rfl (lv_at hl 0 rfl) ?_
                      refine r_geti X hM hP fl_X5_72 dX5_many_112 (fun x10 hP => ?_)
                      exact vy_ret (e_iret X hM hS (hk _ _ hP) hr hlocks (by decide) (by decide) dX5_many_115)
                    · have hP := mIf_f hP hv
                      by_cases hv : a1 = 9
                      · have hP := mIf_t hP hv
                        refine lv_tableIn (off := 115) (tgt := 116) hx hb dX5_many_1 (by rw [hv]; decide) (by rw [hv]; decide) (by rw [hv]; decide) (by decide) ?_
                        refine lv_aload_n hx hb dX5_many_116 rfl (lv_at hl 0 rfl) ?_
                        refine r_geti X hM hP fl_X5_75 dX5_many_117 (fun x11 hP => ?_)
                        exact vy_ret (e_iret X hM hS (hk _ _ hP) hr hlocks (by decide) (by decide) dX5_many_120)
                      · have hP := mIf_f hP hv
                        by_cases hv : a1 = 10
                        · have hP := mIf_t hP hv
                          refine lv_tableIn (off := 120) (tgt := 121) hx hb dX5_many_1 (by rw [hv]; decide) (by rw [hv]; decide) (by rw [hv]; decide) (by decide) ?_
                          refine lv_aload_n hx hb dX5_many_121 rfl (lv_at hl 0 rfl) ?_
                          refine r_geti X hM hP fl_X5_78 dX5_many_122 (fun x12 hP => ?_)
                          exact vy_ret (e_iret X hM hS (hk _ _ hP) hr hlocks (by decide) (by decide) dX5_many_125)
                        · have hP := mIf_f hP hv
                          by_cases hv : a1 = 11
                          · have hP := mIf_t hP hv
                            refine lv_tableIn (off := 125) (tgt := 126) hx hb dX5_many_1 (by rw [hv]; decide) (by rw [hv]; decide) (by rw [hv]; decide) (by decide) ?_
                            refine lv_aload_n hx hb dX5_many_126 rfl (lv_at hl 0 rfl) ?_
                            refine r_geti X hM hP fl_X5_42 dX5_many_127 (fun x13 hP => ?_)
                            refine lv_if_eq (tgt := 137) hx hb dX5_many_130 (by decide) (fun hc => ?_) (fun hc => ?_)
                            · have hP := mIf_t hP hc
                              refine lv_iconst (v := 0) hx hb dX5_many_137 (by decide) ?_
                              exact hb138 0 _ _ _ _ hM hS (lv_sub hl [] rfl) hP
                            · have hP := mIf_f hP hc
                              refine lv_iconst (v := 1) hx hb dX5_many_133 (by decide) ?_
                              refine lv_goto (tgt := 138) hx hb dX5_many_134 (by decide) ?_
                              exact hb138 1 _ _ _ _ hM hS (lv_sub hl [] rfl) hP
                          · have hP := mIf_f hP hv
                            by_cases hv : a1 = 12
                            · have hP := mIf_t hP hv
                              refine lv_tableIn (off := 138) (tgt := 139) hx hb dX5_many_1 (by rw [hv]; decide) (by rw [hv]; decide) (by rw [hv]; decide) (by decide) ?_
                              refine lv_aload_n hx hb dX5_many_139 rfl (lv_at hl 0 rfl) ?_
                              refine r_geti X hM hP fl_X5_81 dX5_many_140 (fun x14 hP => ?_)
                              exact vy_ret (e_iret X hM hS (hk _ _ hP) hr hlocks (by decide) (by decide) dX5_many_143)
                            · have hP := mIf_f hP hv
                              exact hP.elim
def f_X5_planAlone (K : Cfg) (a0 : Nat) (a1 : Nat) (a2 : Int32) (a3 : Int32) (k : Mem → Prop) (QX : String → Mem → Prop) : Mem → Prop :=
 mGetI a1 3 2 fun x1 =>
 mIf (x1 = (-1))
 (QX "java/lang/IllegalStateException")
 (mGetR a0 6 9 fun x2 =>
 mGetI a1 3 1 fun x3 =>
 mRecv a0 6 <|
 f_X5_loadingOf K a0 a1 (fun r4 =>
 mRecv x2 2 <|
 f_X1_plan K x2 x3 a2 a3 r4 (
 k)) QX)
abbrev rm_X5_planAlone : Room := { frames := 8, cells := 1, slots := 6, locals := 124 }
set_option maxHeartbeats 4000000 in
set_option maxRecDepth 100000 in
theorem ct_X5_planAlone {K : Cfg} {l : Launch} (hst : l.stackTraces = false) (a0 : Nat) (a1 : Nat) (a2 : Int32) (a3 : Int32) : mXPv K l yX5_planAlone cX5_planAlone 4 none rm_X5_planAlone [.ref a0, .ref a1, .int a2, .int a3] (f_X5_planAlone K a0 a1 a2 a3) := by
  refine mXPv.of hst (by decide +kernel) (Nat.le_of_ble_eq_true rfl) ?_
  intro M k Q QX hk hP p e s m below meth c X hr hlocks hno hM ls hl
  have hx := X.1.1
  have hb := X.1.2.1
  have X : Cx K p l s m ([.ref a0, .ref a1, .int a2, .int a3] : List Value).toArray c cX5_planAlone 4 RX5 := X
  have hS : va_S (mFA K) s.heap s.heap [] := va_S.rf
  have hl : lv_has ls 4 [(0, .ref a0), (1, .ref a1), (2, .int a2), (3, .int a3)] := hl
  unfold f_X5_planAlone at hP
  refine lv_aload_n hx hb dX5_planAlone_0 rfl (lv_at hl 1 rfl) ?_
  refine r_geti X hM hP fl_X5_131 dX5_planAlone_1 (fun x1 hP => ?_)
  refine lv_iconst (v := (-1)) hx hb dX5_planAlone_4 (by decide) ?_
  refine lv_icmp_ne (tgt := 19) hx hb dX5_planAlone_5 (by decide) (fun hc => ?_) (fun hc => ?_)
  · have hP := mIf_f hP hc
    refine lv_aload_n hx hb dX5_planAlone_19 rfl (lv_at hl 0 rfl) ?_
    refine r_getr X hM hP fl_X5_56 dX5_planAlone_20 (fun x2 hP => ?_)
    refine lv_aload_n hx hb dX5_planAlone_23 rfl (lv_at hl 1 rfl) ?_
    refine r_geti X hM hP fl_X5_100 dX5_planAlone_24 (fun x3 hP => ?_)
    refine lv_iload_n hx hb dX5_planAlone_27 rfl (lv_at hl 2 rfl) ?_
    refine lv_iload_n hx hb dX5_planAlone_28 rfl (lv_at hl 3 rfl) ?_
    refine lv_aload_n hx hb dX5_planAlone_29 rfl (lv_at hl 0 rfl) ?_
    refine lv_aload_n hx hb dX5_planAlone_30 rfl (lv_at hl 1 rfl) ?_
    refine rx_callVf (rest := [.int a3, .int a2, .int x3, .ref x2]) (T := TX5) (N := 18) X hM hS (ct_X5_loadingOf hst a0 a1) hP mV_X5_215 rfl rfl rfl hl.1 (Nat.le_of_ble_eq_true rfl) ⟨⟨by decide, by decide⟩, by decide, by decide⟩ dX5_planAlone_31 (x_out hno hlocks rfl rfl) (fun r4 M H locs hM hS hP => ?_)
    refine r_callVv (rest := []) (T := TX1) (N := 11) X hM hS (ct_X1_plan hst x2 x3 a2 a3 r4) hP mV_X5_352 rfl rfl rfl hl.1 (Nat.le_of_ble_eq_true rfl) ⟨⟨by decide, by decide⟩, ⟨by decide, by decide⟩⟩ dX5_planAlone_34 (fun M H locs hM hS hP => ?_)
    exact vy_ret (e_vret X hM hS (hk _ hP) hr hlocks (by decide) (by decide) dX5_planAlone_37)
  · have hP := mIf_t hP hc
    exact e_throwW X hM hS hP th_X5_90_350 hno hlocks hl.1 rfl rfl ⟨by decide, by decide, by decide, by decide⟩ dX5_planAlone_8 dX5_planAlone_11 dX5_planAlone_12 dX5_planAlone_15 dX5_planAlone_18
def f_X5_wouldLand_b84 (K : Cfg) (k : UInt64 → Mem → Prop) (QX : String → Mem → Prop) (t0 : UInt64) : Mem → Prop :=
 k t0
def f_X5_wouldLand (K : Cfg) (a0 : Nat) (a1 : Int32) (a2 : Int32) (a3 : Int32) (a4 : Int32) (a5 : Int32) (k : UInt64 → Mem → Prop) (QX : String → Mem → Prop) : Mem → Prop :=
 mRecv a0 6 <|
 f_X5_jumperAt K a0 a1 (fun r1 =>
 f_X5_checkArgument K a2 0 1 (
 f_X5_checkArgument K a3 2 6 (
 f_X5_checkArgument K a4 (-200) 200 (
 mRecv a0 6 <|
 f_X5_planAlone K a0 r1 a2 a3 (
 mGetR a0 6 9 fun x6 =>
 mRecv x6 2 <|
 f_X1_leave K x6 (FP.i2d a4) 0 (
 mGetR a0 6 9 fun x8 =>
 mGetR a0 6 4 fun x9 =>
 mRecv x8 2 <|
 f_X1_comeDown K x8 x9 (fun r10 =>
 mIf (a5 = 0)
 (mGetR a0 6 9 fun x11 =>
 mGetD x11 2 8 fun x12 =>
 f_X5_wouldLand_b84 K k QX x12)
 (mGetR a0 6 9 fun x13 =>
 mGetD x13 2 9 fun x14 =>
 f_X5_wouldLand_b84 K k QX x14)))) QX) QX) QX) QX) QX
abbrev rm_X5_wouldLand : Room := { frames := 9, cells := 1, slots := 6, locals := 147 }
set_option maxHeartbeats 4000000 in
set_option maxRecDepth 100000 in
theorem ct_X5_wouldLand {K : Cfg} {l : Launch} (hst : l.stackTraces = false) (a0 : Nat) (a1 : Int32) (a2 : Int32) (a3 : Int32) (a4 : Int32) (a5 : Int32) : mXPd K l yX5_wouldLand cX5_wouldLand 7 (some .double) rm_X5_wouldLand [.ref a0, .int a1, .int a2, .int a3, .int a4, .int a5] (f_X5_wouldLand K a0 a1 a2 a3 a4 a5) := by
  refine mXPd.of hst (by decide +kernel) (Nat.le_of_ble_eq_true rfl) ?_
  intro M k Q QX hk hP p e s m below meth c X hr hlocks hno hM ls hl
  have hx := X.1.1
  have hb := X.1.2.1
  have X : Cx K p l s m ([.ref a0, .int a1, .int a2, .int a3, .int a4, .int a5] : List Value).toArray c cX5_wouldLand 7 RX5 := X
  have hS : va_S (mFA K) s.heap s.heap [] := va_S.rf
  have hl : lv_has ls 7 [(0, .ref a0), (1, .int a1), (2, .int a2), (3, .int a3), (4, .int a4), (5, .int a5)] := hl
  have hb84 : ∀ (t0 : UInt64) (M : Mem) (H : Heap) (locs : List Loc) (ls : Array Slot), mh K M H → va_S (mFA K) s.heap H locs → lv_has ls 7 [] → f_X5_wouldLand_b84 K k QX t0 M → W p l e rm_X5_wouldLand s m ([.ref a0, .int a1, .int a2, .int a3, .int a4, .int a5] : List Value).toArray below meth c H locs 0 0 (vy_MQ below (mQ K Q) (mX K QX) ([.ref a0, .int a1, .int a2, .int a3, .int a4, .int a5] : List Value).toArray s 0 0 1 6 (mFA K)) (F0 m 84 ls [.double t0]) := by
    intro t0 M H locs ls hM hS hl hP
    unfold f_X5_wouldLand_b84 at hP
    exact vy_ret (e_dret X hM hS (hk _ _ hP) hr hlocks (by decide) (by decide) dX5_wouldLand_84)
  unfold f_X5_wouldLand at hP
  refine lv_aload_n hx hb dX5_wouldLand_0 rfl (lv_at hl 0 rfl) ?_
  refine lv_iload_n hx hb dX5_wouldLand_1 rfl (lv_at hl 1 rfl) ?_
  refine rx_callVr (rest := []) (T := TX5) (N := 18) X hM hS (ct_X5_jumperAt hst a0 a1) hP mV_X5_118 rfl rfl rfl hl.1 (Nat.le_of_ble_eq_true rfl) ⟨⟨by decide, by decide⟩, by decide, by decide⟩ dX5_wouldLand_2 (x_out hno hlocks rfl rfl) (fun r1 M H locs hM hS hP => ?_)
  refine lv_astore (lv' := [(6, .ref r1), (0, .ref a0), (1, .int a1), (2, .int a2), (3, .int a3), (4, .int a4), (5, .int a5)]) hx hb dX5_wouldLand_5 hl (by decide) rfl (fun ls hl => ?_)
  refine lv_iload_n hx hb dX5_wouldLand_7 rfl (lv_at hl 3 rfl) ?_
  refine lv_iconst (v := 0) hx hb dX5_wouldLand_8 (by decide) ?_
  refine lv_iconst (v := 1) hx hb dX5_wouldLand_9 (by decide) ?_
  refine rx_callSv (rest := []) X hM hS (ct_X5_checkArgument hst a2 0 1) hP mS_X5_86 rfl rfl hl.1 (Nat.le_of_ble_eq_true rfl) ⟨⟨by decide, by decide⟩, by decide, by decide⟩ dX5_wouldLand_10 (x_out hno hlocks rfl rfl) (fun M H locs hM hS hP => ?_)
  refine lv_iload_n hx hb dX5_wouldLand_13 rfl (lv_at hl 4 rfl) ?_
  refine lv_iconst (v := 2) hx hb dX5_wouldLand_14 (by decide) ?_
  refine lv_bipush (v := 6) hx hb dX5_wouldLand_15 (by decide) ?_
  refine rx_callSv (rest := []) X hM hS (ct_X5_checkArgument hst a3 2 6) hP mS_X5_86 rfl rfl hl.1 (Nat.le_of_ble_eq_true rfl) ⟨⟨by decide, by decide⟩, by decide, by decide⟩ dX5_wouldLand_17 (x_out hno hlocks rfl rfl) (fun M H locs hM hS hP => ?_)
  refine lv_iload hx hb dX5_wouldLand_20 (lv_at hl 5 rfl) ?_
  refine lv_sipush (v := (-200)) hx hb dX5_wouldLand_22 (by decide) ?_
  refine lv_sipush (v := 200) hx hb dX5_wouldLand_25 (by decide) ?_
  refine rx_callSv (rest := []) X hM hS (ct_X5_checkArgument hst a4 (-200) 200) hP mS_X5_86 rfl rfl hl.1 (Nat.le_of_ble_eq_true rfl) ⟨⟨by decide, by decide⟩, by decide, by decide⟩ dX5_wouldLand_28 (x_out hno hlocks rfl rfl) (fun M H locs hM hS hP => ?_)
  refine lv_aload_n hx hb dX5_wouldLand_31 rfl (lv_at hl 1 rfl) ?_
  refine lv_aload hx hb dX5_wouldLand_32 (lv_at hl 0 rfl) ?_
  refine lv_iload_n hx hb dX5_wouldLand_34 rfl (lv_at hl 3 rfl) ?_
  refine lv_iload_n hx hb dX5_wouldLand_35 rfl (lv_at hl 4 rfl) ?_
  refine rx_callVv (rest := []) (T := TX5) (N := 18) X hM hS (ct_X5_planAlone hst a0 r1 a2 a3) hP mV_X5_245 rfl rfl rfl hl.1 (Nat.le_of_ble_eq_true rfl) ⟨⟨by decide, by decide⟩, by decide, by decide⟩ dX5_wouldLand_36 (x_out hno hlocks rfl rfl) (fun M H locs hM hS hP => ?_)
  refine lv_aload_n hx hb dX5_wouldLand_39 rfl (lv_at hl 1 rfl) ?_
  refine r_getr X hM hP fl_X5_56 dX5_wouldLand_40 (fun x6 hP => ?_)
  refine lv_iload hx hb dX5_wouldLand_43 (lv_at hl 5 rfl) ?_
  refine lv_i2d hx hb dX5_wouldLand_45 ?_
  refine lv_iconst (v := 0) hx hb dX5_wouldLand_46 (by decide) ?_
  refine r_callVv (rest := []) (T := TX1) (N := 11) X hM hS (ct_X1_leave hst x6 (FP.i2d a4) 0) hP mV_X5_249 rfl rfl rfl hl.1 (Nat.le_of_ble_eq_true rfl) ⟨⟨by decide, by decide⟩, ⟨by decide, by decide⟩⟩ dX5_wouldLand_47 (fun M H locs hM hS hP => ?_)
  refine lv_aload_n hx hb dX5_wouldLand_50 rfl (lv_at hl 1 rfl) ?_
  refine r_getr X hM hP fl_X5_56 dX5_wouldLand_51 (fun x8 hP => ?_)
  refine lv_aload_n hx hb dX5_wouldLand_54 rfl (lv_at hl 1 rfl) ?_
  refine r_getr X hM hP fl_X5_31 dX5_wouldLand_55 (fun x9 hP => ?_)
  refine r_callVi (rest := []) (T := TX1) (N := 11) X hM hS (ct_X1_comeDown hst x8 x9) hP mV_X5_252 rfl rfl rfl hl.1 (Nat.le_of_ble_eq_true rfl) ⟨⟨by decide, by decide⟩, ⟨by decide, by decide⟩⟩ dX5_wouldLand_58 (fun r10 M H locs hM hS hP => ?_)
  refine lv_pop hx hb dX5_wouldLand_61 rfl ?_
  refine lv_iload hx hb dX5_wouldLand_62 (lv_at hl 6 rfl) ?_
  refine lv_if_eq (tgt := 77) hx hb dX5_wouldLand_64 (by decide) (fun hc => ?_) (fun hc => ?_)
  · have hP := mIf_t hP hc
    refine lv_aload_n hx hb dX5_wouldLand_77 rfl (lv_at hl 1 rfl) ?_
    refine r_getr X hM hP fl_X5_56 dX5_wouldLand_78 (fun x11 hP => ?_)
    refine r_getd X hM hP fl_X5_258 dX5_wouldLand_81 (fun x12 hP => ?_)
    exact hb84 x12 _ _ _ _ hM hS (lv_sub hl [] rfl) hP
  · have hP := mIf_f hP hc
    refine lv_aload_n hx hb dX5_wouldLand_67 rfl (lv_at hl 1 rfl) ?_
    refine r_getr X hM hP fl_X5_56 dX5_wouldLand_68 (fun x13 hP => ?_)
    refine r_getd X hM hP fl_X5_255 dX5_wouldLand_71 (fun x14 hP => ?_)
    refine lv_goto (tgt := 84) hx hb dX5_wouldLand_74 (by decide) ?_
    exact hb84 x14 _ _ _ _ hM hS (lv_sub hl [] rfl) hP
def f_X5_takes (K : Cfg) (a0 : Nat) (a1 : Int32) (a2 : Int32) (a3 : Int32) (k : Int32 → Mem → Prop) (QX : String → Mem → Prop) : Mem → Prop :=
 mRecv a0 6 <|
 f_X5_jumperAt K a0 a1 (fun r1 =>
 f_X5_checkArgument K a2 0 1 (
 f_X5_checkArgument K a3 2 6 (
 mRecv a0 6 <|
 f_X5_planAlone K a0 r1 a2 a3 (
 mGetR a0 6 9 fun x5 =>
 mRecv x5 2 <|
 f_X1_leave K x5 FP.dconst0 0 (
 mGetR a0 6 9 fun x7 =>
 mGetR a0 6 4 fun x8 =>
 mRecv x7 2 <|
 f_X1_comeDown K x7 x8 (fun r9 =>
 k r9))) QX) QX) QX) QX
abbrev rm_X5_takes : Room := { frames := 9, cells := 1, slots := 6, locals := 147 }
set_option maxHeartbeats 4000000 in
set_option maxRecDepth 100000 in
theorem ct_X5_takes {K : Cfg} {l : Launch} (hst : l.stackTraces = false) (a0 : Nat) (a1 : Int32) (a2 : Int32) (a3 : Int32) : mXPi K l yX5_takes cX5_takes 5 (some .int) rm_X5_takes [.ref a0, .int a1, .int a2, .int a3] (f_X5_takes K a0 a1 a2 a3) := by
  refine mXPi.of hst (by decide +kernel) (Nat.le_of_ble_eq_true rfl) ?_
  intro M k Q QX hk hP p e s m below meth c X hr hlocks hno hM ls hl
  have hx := X.1.1
  have hb := X.1.2.1
  have X : Cx K p l s m ([.ref a0, .int a1, .int a2, .int a3] : List Value).toArray c cX5_takes 5 RX5 := X
  have hS : va_S (mFA K) s.heap s.heap [] := va_S.rf
  have hl : lv_has ls 5 [(0, .ref a0), (1, .int a1), (2, .int a2), (3, .int a3)] := hl
  unfold f_X5_takes at hP
  refine lv_aload_n hx hb dX5_takes_0 rfl (lv_at hl 0 rfl) ?_
  refine lv_iload_n hx hb dX5_takes_1 rfl (lv_at hl 1 rfl) ?_
  refine rx_callVr (rest := []) (T := TX5) (N := 18) X hM hS (ct_X5_jumperAt hst a0 a1) hP mV_X5_118 rfl rfl rfl hl.1 (Nat.le_of_ble_eq_true rfl) ⟨⟨by decide, by decide⟩, by decide, by decide⟩ dX5_takes_2 (x_out hno hlocks rfl rfl) (fun r1 M H locs hM hS hP => ?_)
  refine lv_astore (lv' := [(4, .ref r1), (0, .ref a0), (1, .int a1), (2, .int a2), (3, .int a3)]) hx hb dX5_takes_5 hl (by decide) rfl (fun ls hl => ?_)
  refine lv_iload_n hx hb dX5_takes_7 rfl (lv_at hl 3 rfl) ?_
  refine lv_iconst (v := 0) hx hb dX5_takes_8 (by decide) ?_
  refine lv_iconst (v := 1) hx hb dX5_takes_9 (by decide) ?_
  refine rx_callSv (rest := []) X hM hS (ct_X5_checkArgument hst a2 0 1) hP mS_X5_86 rfl rfl hl.1 (Nat.le_of_ble_eq_true rfl) ⟨⟨by decide, by decide⟩, by decide, by decide⟩ dX5_takes_10 (x_out hno hlocks rfl rfl) (fun M H locs hM hS hP => ?_)
  refine lv_iload_n hx hb dX5_takes_13 rfl (lv_at hl 4 rfl) ?_
  refine lv_iconst (v := 2) hx hb dX5_takes_14 (by decide) ?_
  refine lv_bipush (v := 6) hx hb dX5_takes_15 (by decide) ?_
  refine rx_callSv (rest := []) X hM hS (ct_X5_checkArgument hst a3 2 6) hP mS_X5_86 rfl rfl hl.1 (Nat.le_of_ble_eq_true rfl) ⟨⟨by decide, by decide⟩, by decide, by decide⟩ dX5_takes_17 (x_out hno hlocks rfl rfl) (fun M H locs hM hS hP => ?_)
  refine lv_aload_n hx hb dX5_takes_20 rfl (lv_at hl 1 rfl) ?_
  refine lv_aload hx hb dX5_takes_21 (lv_at hl 0 rfl) ?_
  refine lv_iload_n hx hb dX5_takes_23 rfl (lv_at hl 3 rfl) ?_
  refine lv_iload_n hx hb dX5_takes_24 rfl (lv_at hl 4 rfl) ?_
  refine rx_callVv (rest := []) (T := TX5) (N := 18) X hM hS (ct_X5_planAlone hst a0 r1 a2 a3) hP mV_X5_245 rfl rfl rfl hl.1 (Nat.le_of_ble_eq_true rfl) ⟨⟨by decide, by decide⟩, by decide, by decide⟩ dX5_takes_25 (x_out hno hlocks rfl rfl) (fun M H locs hM hS hP => ?_)
  refine lv_aload_n hx hb dX5_takes_28 rfl (lv_at hl 1 rfl) ?_
  refine r_getr X hM hP fl_X5_56 dX5_takes_29 (fun x5 hP => ?_)
  refine lv_dconst0 hx hb dX5_takes_32 ?_
  refine lv_iconst (v := 0) hx hb dX5_takes_33 (by decide) ?_
  refine r_callVv (rest := []) (T := TX1) (N := 11) X hM hS (ct_X1_leave hst x5 FP.dconst0 0) hP mV_X5_249 rfl rfl rfl hl.1 (Nat.le_of_ble_eq_true rfl) ⟨⟨by decide, by decide⟩, ⟨by decide, by decide⟩⟩ dX5_takes_34 (fun M H locs hM hS hP => ?_)
  refine lv_aload_n hx hb dX5_takes_37 rfl (lv_at hl 1 rfl) ?_
  refine r_getr X hM hP fl_X5_56 dX5_takes_38 (fun x7 hP => ?_)
  refine lv_aload_n hx hb dX5_takes_41 rfl (lv_at hl 1 rfl) ?_
  refine r_getr X hM hP fl_X5_31 dX5_takes_42 (fun x8 hP => ?_)
  refine r_callVi (rest := []) (T := TX1) (N := 11) X hM hS (ct_X1_comeDown hst x7 x8) hP mV_X5_252 rfl rfl rfl hl.1 (Nat.le_of_ble_eq_true rfl) ⟨⟨by decide, by decide⟩, ⟨by decide, by decide⟩⟩ dX5_takes_45 (fun r9 M H locs hM hS hP => ?_)
  exact vy_ret (e_iret X hM hS (hk _ _ hP) hr hlocks (by decide) (by decide) dX5_takes_48)
def f_X5_pointsFrom_b18_body (K : Cfg) (k : Int32 → Mem → Prop) (lp18 : Nat → Int32 → Int32 → Mem → Prop) (v0 : Nat) (v3 : Int32) (v4 : Int32) : Mem → Prop :=
 mGetI v0 6 6 fun x1 =>
 mIf (x1 ≤ v4)
 (k v3)
 (mGetR v0 6 8 fun x2 =>
 mRecv x2 1 <|
 f_X0_jumpAt K x2 v4 (fun r3 =>
 mGetR v0 6 4 fun x4 =>
 mRecv r3 2 <|
 f_X1_comeDown K r3 x4 (fun r5 =>
 mRecv r3 2 <|
 f_X1_points K r3 (fun r6 =>
 lp18 v0 (v3 + r6) (v4 + 1)))))
def f_X5_pointsFrom_b18 (K : Cfg) (k : Int32 → Mem → Prop) : Nat → Nat → Int32 → Int32 → Mem → Prop
  | 0 => fun _ _ _ _ => False
  | n + 1 => f_X5_pointsFrom_b18_body K k (f_X5_pointsFrom_b18 K k n)
def f_X5_pointsFrom (K : Cfg) (a0 : Nat) (a1 : Int32) (a2 : Int32) (k : Int32 → Mem → Prop) : Mem → Prop :=
 mGetR a0 6 8 fun x1 =>
 mGetR a0 6 4 fun x2 =>
 mRecv x1 1 <|
 f_X0_leave K x1 a1 a2 x2 (
 f_X5_pointsFrom_b18 K k mFuel a0 0 0)
abbrev rm_X5_pointsFrom : Room := { frames := 4, cells := 0, slots := 0, locals := 87 }
set_option maxHeartbeats 4000000 in
set_option maxRecDepth 100000 in
theorem ct_X5_pointsFrom {K : Cfg} {l : Launch} (hst : l.stackTraces = false) (a0 : Nat) (a1 : Int32) (a2 : Int32) : mPi K l yX5_pointsFrom cX5_pointsFrom 6 (some .int) rm_X5_pointsFrom [.ref a0, .int a1, .int a2] (f_X5_pointsFrom K a0 a1 a2) := by
  refine mPi.of hst (by decide +kernel) (Nat.le_of_ble_eq_true rfl) ?_
  intro M k Q hk hP p e s m below meth c X hr hlocks hname hM ls hl
  have hx := X.1.1
  have hb := X.1.2.1
  have X : Cx K p l s m ([.ref a0, .int a1, .int a2] : List Value).toArray c cX5_pointsFrom 6 RX5 := X
  have hS : va_S (mFA K) s.heap s.heap [] := va_S.rf
  have hl : lv_has ls 6 [(0, .ref a0), (1, .int a1), (2, .int a2)] := hl
  have hb18 : ∀ (n18 : Nat) (v0 : Nat) (v3 : Int32) (v4 : Int32) (M : Mem) (H : Heap) (locs : List Loc) (ls : Array Slot), mh K M H → va_S (mFA K) s.heap H locs → lv_has ls 6 [(0, .ref v0), (3, .int v3), (4, .int v4)] → f_X5_pointsFrom_b18 K k n18 v0 v3 v4 M → W p l e rm_X5_pointsFrom s m ([.ref a0, .int a1, .int a2] : List Value).toArray below meth c H locs 0 0 (MQ below (mQ K Q) ([.ref a0, .int a1, .int a2] : List Value).toArray s rm_X5_pointsFrom.cells rm_X5_pointsFrom.slots (mFA K)) (F0 m 18 ls []) := by
    intro n18
    induction n18 with
    | zero =>
      intro v0 v3 v4 M H locs ls hM hS hl hP
      exact hP.elim
    | succ n18 ih18 =>
      intro v0 v3 v4 M H locs ls hM hS hl hP
      have hP : f_X5_pointsFrom_b18_body K k (f_X5_pointsFrom_b18 K k n18) v0 v3 v4 M := hP
      unfold f_X5_pointsFrom_b18_body at hP
      refine lv_iload hx hb dX5_pointsFrom_18 (lv_at hl 2 rfl) ?_
      refine lv_aload_n hx hb dX5_pointsFrom_20 rfl (lv_at hl 0 rfl) ?_
      refine r_geti X hM hP fl_X5_39 dX5_pointsFrom_21 (fun x1 hP => ?_)
      refine lv_icmp_ge (tgt := 62) hx hb dX5_pointsFrom_24 (by decide) (fun hc => ?_) (fun hc => ?_)
      · have hP := mIf_t hP hc
        refine lv_iload_n hx hb dX5_pointsFrom_62 rfl (lv_at hl 1 rfl) ?_
        exact e_iret X hM hS (hk _ _ hP) hr hlocks (by decide) (by decide) dX5_pointsFrom_63
      · have hP := mIf_f hP hc
        refine lv_aload_n hx hb dX5_pointsFrom_27 rfl (lv_at hl 0 rfl) ?_
        refine r_getr X hM hP fl_X5_49 dX5_pointsFrom_28 (fun x2 hP => ?_)
        refine lv_iload hx hb dX5_pointsFrom_31 (lv_at hl 2 rfl) ?_
        refine r_callVr (rest := []) (T := TX0) (N := 2) X hM hS (ct_X0_jumpAt hst x2 v4) hP mV_X5_197 rfl rfl rfl hl.1 (Nat.le_of_ble_eq_true rfl) ⟨⟨by decide, by decide⟩, ⟨by decide, by decide⟩⟩ dX5_pointsFrom_33 (fun r3 M H locs hM hS hP => ?_)
        refine lv_astore (lv' := [(5, .ref r3), (0, .ref v0), (3, .int v3), (4, .int v4)]) hx hb dX5_pointsFrom_36 hl (by decide) rfl (fun ls hl => ?_)
        refine lv_aload hx hb dX5_pointsFrom_38 (lv_at hl 0 rfl) ?_
        refine lv_aload_n hx hb dX5_pointsFrom_40 rfl (lv_at hl 1 rfl) ?_
        refine r_getr X hM hP fl_X5_31 dX5_pointsFrom_41 (fun x4 hP => ?_)
        refine r_callVi (rest := []) (T := TX1) (N := 11) X hM hS (ct_X1_comeDown hst r3 x4) hP mV_X5_252 rfl rfl rfl hl.1 (Nat.le_of_ble_eq_true rfl) ⟨⟨by decide, by decide⟩, ⟨by decide, by decide⟩⟩ dX5_pointsFrom_44 (fun r5 M H locs hM hS hP => ?_)
        refine lv_pop hx hb dX5_pointsFrom_47 rfl ?_
        refine lv_iload_n hx hb dX5_pointsFrom_48 rfl (lv_at hl 2 rfl) ?_
        refine lv_aload hx hb dX5_pointsFrom_49 (lv_at hl 0 rfl) ?_
        refine r_callVi (rest := [.int v3]) (T := TX1) (N := 11) X hM hS (ct_X1_points hst r3) hP mV_X5_362 rfl rfl rfl hl.1 (Nat.le_of_ble_eq_true rfl) ⟨⟨by decide, by decide⟩, ⟨by decide, by decide⟩⟩ dX5_pointsFrom_51 (fun r6 M H locs hM hS hP => ?_)
        refine lv_iadd hx hb dX5_pointsFrom_54 ?_
        refine lv_istore_n (lv' := [(3, .int (v3 + r6)), (5, .ref r3), (0, .ref v0), (4, .int v4)]) hx hb dX5_pointsFrom_55 rfl hl (by decide) rfl (fun ls hl => ?_)
        refine lv_iinc (v := v4 + 1) (lv' := [(4, .int (v4 + 1)), (3, .int (v3 + r6)), (5, .ref r3), (0, .ref v0)]) hx hb dX5_pointsFrom_56 hl (k := 3) rfl rfl (by decide) rfl (fun ls hl => ?_)
        refine lv_goto (tgt := 18) hx hb dX5_pointsFrom_59 (by decide) ?_
        exact ih18 v0 (v3 + r6) (v4 + 1) _ _ _ _ hM hS (lv_sub hl [3, 1, 0] rfl) hP
  unfold f_X5_pointsFrom at hP
  refine lv_aload_n hx hb dX5_pointsFrom_0 rfl (lv_at hl 0 rfl) ?_
  refine r_getr X hM hP fl_X5_49 dX5_pointsFrom_1 (fun x1 hP => ?_)
  refine lv_iload_n hx hb dX5_pointsFrom_4 rfl (lv_at hl 1 rfl) ?_
  refine lv_iload_n hx hb dX5_pointsFrom_5 rfl (lv_at hl 2 rfl) ?_
  refine lv_aload_n hx hb dX5_pointsFrom_6 rfl (lv_at hl 0 rfl) ?_
  refine r_getr X hM hP fl_X5_31 dX5_pointsFrom_7 (fun x2 hP => ?_)
  refine r_callVv (rest := []) (T := TX0) (N := 2) X hM hS (ct_X0_leave hst x1 a1 a2 x2) hP mV_X5_186 rfl rfl rfl hl.1 (Nat.le_of_ble_eq_true rfl) ⟨⟨by decide, by decide⟩, ⟨by decide, by decide⟩⟩ dX5_pointsFrom_10 (fun M H locs hM hS hP => ?_)
  refine lv_iconst (v := 0) hx hb dX5_pointsFrom_13 (by decide) ?_
  refine lv_istore_n (lv' := [(3, .int 0), (0, .ref a0), (1, .int a1), (2, .int a2)]) hx hb dX5_pointsFrom_14 rfl hl (by decide) rfl (fun ls hl => ?_)
  refine lv_iconst (v := 0) hx hb dX5_pointsFrom_15 (by decide) ?_
  refine lv_istore (lv' := [(4, .int 0), (3, .int 0), (0, .ref a0), (1, .int a1), (2, .int a2)]) hx hb dX5_pointsFrom_16 hl (by decide) rfl (fun ls hl => ?_)
  exact hb18 mFuel a0 0 0 _ _ _ _ hM hS (lv_sub hl [2, 1, 0] rfl) hP
def f_X5_spot_b67 (K : Cfg) (k : Int32 → Mem → Prop) (QX : String → Mem → Prop) (lp20 : Nat → Int32 → Int32 → Int32 → Int32 → Mem → Prop) (v0 : Nat) (v1 : Int32) (v2 : Int32) (v3 : Int32) (v4 : Int32) : Mem → Prop :=
 lp20 v0 v1 v2 v3 (v4 + 20)
def f_X5_spot_b61 (K : Cfg) (k : Int32 → Mem → Prop) (QX : String → Mem → Prop) (lp20 : Nat → Int32 → Int32 → Int32 → Int32 → Mem → Prop) (v0 : Nat) (v1 : Int32) (v4 : Int32) (v5 : Int32) : Mem → Prop :=
 f_X5_spot_b67 K k QX lp20 v0 v1 v4 v5 v4
def f_X5_spot_b20_body (K : Cfg) (k : Int32 → Mem → Prop) (QX : String → Mem → Prop) (lp20 : Nat → Int32 → Int32 → Int32 → Int32 → Mem → Prop) (v0 : Nat) (v1 : Int32) (v2 : Int32) (v3 : Int32) (v4 : Int32) : Mem → Prop :=
 mIf (200 < v4)
 (k v2)
 (mRecv v0 6 <|
 f_X5_pointsFrom K v0 v4 v1 (fun r1 =>
 mIf (v3 < r1)
 (f_X5_spot_b61 K k QX lp20 v0 v1 v4 r1)
 (mIf (r1 = v3)
 (f_J9_abs_0f7a4 K v4 (fun r2 =>
 f_J9_abs_0f7a4 K v2 (fun r3 =>
 mIf (r3 ≤ r2)
 (f_X5_spot_b67 K k QX lp20 v0 v1 v2 v3 v4)
 (f_X5_spot_b61 K k QX lp20 v0 v1 v4 r1))))
 (f_X5_spot_b67 K k QX lp20 v0 v1 v2 v3 v4))))
def f_X5_spot_b20 (K : Cfg) (k : Int32 → Mem → Prop) (QX : String → Mem → Prop) : Nat → Nat → Int32 → Int32 → Int32 → Int32 → Mem → Prop
  | 0 => fun _ _ _ _ _ _ => False
  | n + 1 => f_X5_spot_b20_body K k QX (f_X5_spot_b20 K k QX n)
def f_X5_spot (K : Cfg) (a0 : Nat) (a1 : Int32) (k : Int32 → Mem → Prop) (QX : String → Mem → Prop) : Mem → Prop :=
 f_X5_checkArgument K a1 1 9 (
 mRecv a0 6 <|
 f_X5_planFlight K a0 (
 f_X5_spot_b20 K k QX mFuel a0 a1 0 (-1) (-200)) QX) QX
abbrev rm_X5_spot : Room := { frames := 9, cells := 1, slots := 6, locals := 146 }
set_option maxHeartbeats 4000000 in
set_option maxRecDepth 100000 in
theorem ct_X5_spot {K : Cfg} {l : Launch} (hst : l.stackTraces = false) (a0 : Nat) (a1 : Int32) : mXPi K l yX5_spot cX5_spot 6 (some .int) rm_X5_spot [.ref a0, .int a1] (f_X5_spot K a0 a1) := by
  refine mXPi.of hst (by decide +kernel) (Nat.le_of_ble_eq_true rfl) ?_
  intro M k Q QX hk hP p e s m below meth c X hr hlocks hno hM ls hl
  have hx := X.1.1
  have hb := X.1.2.1
  have X : Cx K p l s m ([.ref a0, .int a1] : List Value).toArray c cX5_spot 6 RX5 := X
  have hS : va_S (mFA K) s.heap s.heap [] := va_S.rf
  have hl : lv_has ls 6 [(0, .ref a0), (1, .int a1)] := hl
  have hb20 : ∀ (n20 : Nat) (v0 : Nat) (v1 : Int32) (v2 : Int32) (v3 : Int32) (v4 : Int32) (M : Mem) (H : Heap) (locs : List Loc) (ls : Array Slot), mh K M H → va_S (mFA K) s.heap H locs → lv_has ls 6 [(0, .ref v0), (1, .int v1), (2, .int v2), (3, .int v3), (4, .int v4)] → f_X5_spot_b20 K k QX n20 v0 v1 v2 v3 v4 M → W p l e rm_X5_spot s m ([.ref a0, .int a1] : List Value).toArray below meth c H locs 0 0 (vy_MQ below (mQ K Q) (mX K QX) ([.ref a0, .int a1] : List Value).toArray s 0 0 1 6 (mFA K)) (F0 m 20 ls []) := by
    intro n20
    induction n20 with
    | zero =>
      intro v0 v1 v2 v3 v4 M H locs ls hM hS hl hP
      exact hP.elim
    | succ n20 ih20 =>
      have hb67 : ∀ (v0 : Nat) (v1 : Int32) (v2 : Int32) (v3 : Int32) (v4 : Int32) (M : Mem) (H : Heap) (locs : List Loc) (ls : Array Slot), mh K M H → va_S (mFA K) s.heap H locs → lv_has ls 6 [(0, .ref v0), (1, .int v1), (2, .int v2), (3, .int v3), (4, .int v4)] → f_X5_spot_b67 K k QX (f_X5_spot_b20 K k QX n20) v0 v1 v2 v3 v4 M → W p l e rm_X5_spot s m ([.ref a0, .int a1] : List Value).toArray below meth c H locs 0 0 (vy_MQ below (mQ K Q) (mX K QX) ([.ref a0, .int a1] : List Value).toArray s 0 0 1 6 (mFA K)) (F0 m 67 ls []) := by
        intro v0 v1 v2 v3 v4 M H locs ls hM hS hl hP
        unfold f_X5_spot_b67 at hP
        refine lv_iinc (v := v4 + 20) (lv' := [(4, .int (v4 + 20)), (0, .ref v0), (1, .int v1), (2, .int v2), (3, .int v3)]) hx hb dX5_spot_67 hl (k := 4) rfl rfl (by decide) rfl (fun ls hl => ?_)
        refine lv_goto (tgt := 20) hx hb dX5_spot_70 (by decide) ?_
        exact ih20 v0 v1 v2 v3 (v4 + 20) _ _ _ _ hM hS (lv_sub hl [1, 2, 3, 4, 0] rfl) hP
      have hb61 : ∀ (v0 : Nat) (v1 : Int32) (v4 : Int32) (v5 : Int32) (M : Mem) (H : Heap) (locs : List Loc) (ls : Array Slot), mh K M H → va_S (mFA K) s.heap H locs → lv_has ls 6 [(0, .ref v0), (1, .int v1), (4, .int v4), (5, .int v5)] → f_X5_spot_b61 K k QX (f_X5_spot_b20 K k QX n20) v0 v1 v4 v5 M → W p l e rm_X5_spot s m ([.ref a0, .int a1] : List Value).toArray below meth c H locs 0 0 (vy_MQ below (mQ K Q) (mX K QX) ([.ref a0, .int a1] : List Value).toArray s 0 0 1 6 (mFA K)) (F0 m 61 ls []) := by
        intro v0 v1 v4 v5 M H locs ls hM hS hl hP
        unfold f_X5_spot_b61 at hP
        refine lv_iload hx hb dX5_spot_61 (lv_at hl 3 rfl) ?_
        refine lv_istore_n (lv' := [(3, .int v5), (0, .ref v0), (1, .int v1), (4, .int v4), (5, .int v5)]) hx hb dX5_spot_63 rfl hl (by decide) rfl (fun ls hl => ?_)
        refine lv_iload hx hb dX5_spot_64 (lv_at hl 3 rfl) ?_
        refine lv_istore_n (lv' := [(2, .int v4), (3, .int v5), (0, .ref v0), (1, .int v1), (4, .int v4), (5, .int v5)]) hx hb dX5_spot_66 rfl hl (by decide) rfl (fun ls hl => ?_)
        exact hb67 v0 v1 v4 v5 v4 _ _ _ _ hM hS (lv_sub hl [2, 3, 0, 1, 4] rfl) hP
      intro v0 v1 v2 v3 v4 M H locs ls hM hS hl hP
      have hP : f_X5_spot_b20_body K k QX (f_X5_spot_b20 K k QX n20) v0 v1 v2 v3 v4 M := hP
      unfold f_X5_spot_b20_body at hP
      refine lv_iload hx hb dX5_spot_20 (lv_at hl 4 rfl) ?_
      refine lv_sipush (v := 200) hx hb dX5_spot_22 (by decide) ?_
      refine lv_icmp_gt (tgt := 73) hx hb dX5_spot_25 (by decide) (fun hc => ?_) (fun hc => ?_)
      · have hP := mIf_t hP hc
        refine lv_iload_n hx hb dX5_spot_73 rfl (lv_at hl 2 rfl) ?_
        exact vy_ret (e_iret X hM hS (hk _ _ hP) hr hlocks (by decide) (by decide) dX5_spot_74)
      · have hP := mIf_f hP hc
        refine lv_aload_n hx hb dX5_spot_28 rfl (lv_at hl 0 rfl) ?_
        refine lv_iload hx hb dX5_spot_29 (lv_at hl 4 rfl) ?_
        refine lv_iload_n hx hb dX5_spot_31 rfl (lv_at hl 1 rfl) ?_
        refine r_callVi (rest := []) (T := TX5) (N := 18) X hM hS (ct_X5_pointsFrom hst v0 v4 v1) hP mV_X5_261 rfl rfl rfl hl.1 (Nat.le_of_ble_eq_true rfl) ⟨⟨by decide, by decide⟩, ⟨by decide, by decide⟩⟩ dX5_spot_32 (fun r1 M H locs hM hS hP => ?_)
        refine lv_istore (lv' := [(5, .int r1), (0, .ref v0), (1, .int v1), (2, .int v2), (3, .int v3), (4, .int v4)]) hx hb dX5_spot_35 hl (by decide) rfl (fun ls hl => ?_)
        refine lv_iload hx hb dX5_spot_37 (lv_at hl 0 rfl) ?_
        refine lv_iload_n hx hb dX5_spot_39 rfl (lv_at hl 4 rfl) ?_
        refine lv_icmp_gt (tgt := 61) hx hb dX5_spot_40 (by decide) (fun hc => ?_) (fun hc => ?_)
        · have hP := mIf_t hP hc
          exact hb61 v0 v1 v4 r1 _ _ _ _ hM hS (lv_sub hl [1, 2, 5, 0] rfl) hP
        · have hP := mIf_f hP hc
          refine lv_iload hx hb dX5_spot_43 (lv_at hl 0 rfl) ?_
          refine lv_iload_n hx hb dX5_spot_45 rfl (lv_at hl 4 rfl) ?_
          refine lv_icmp_ne (tgt := 67) hx hb dX5_spot_46 (by decide) (fun hc => ?_) (fun hc => ?_)
          · have hP := mIf_f hP hc
            exact hb67 v0 v1 v2 v3 v4 _ _ _ _ hM hS (lv_sub hl [1, 2, 3, 4, 5] rfl) hP
          · have hP := mIf_t hP hc
            refine lv_iload hx hb dX5_spot_49 (lv_at hl 5 rfl) ?_
            refine r_callSi (rest := []) X hM hS (ct_J9_abs_0f7a4 hst v4) hP mS_X5_264 rfl rfl hl.1 (Nat.le_of_ble_eq_true rfl) ⟨⟨by decide, by decide⟩, ⟨by decide, by decide⟩⟩ dX5_spot_51 (fun r2 M H locs hM hS hP => ?_)
            refine lv_iload_n hx hb dX5_spot_54 rfl (lv_at hl 3 rfl) ?_
            refine r_callSi (rest := [.int r2]) X hM hS (ct_J9_abs_0f7a4 hst v2) hP mS_X5_264 rfl rfl hl.1 (Nat.le_of_ble_eq_true rfl) ⟨⟨by decide, by decide⟩, ⟨by decide, by decide⟩⟩ dX5_spot_55 (fun r3 M H locs hM hS hP => ?_)
            refine lv_icmp_ge (tgt := 67) hx hb dX5_spot_58 (by decide) (fun hc => ?_) (fun hc => ?_)
            · have hP := mIf_t hP hc
              exact hb67 v0 v1 v2 v3 v4 _ _ _ _ hM hS (lv_sub hl [1, 2, 3, 4, 5] rfl) hP
            · have hP := mIf_f hP hc
              exact hb61 v0 v1 v4 r1 _ _ _ _ hM hS (lv_sub hl [1, 2, 5, 0] rfl) hP
  unfold f_X5_spot at hP
  refine lv_iload_n hx hb dX5_spot_0 rfl (lv_at hl 1 rfl) ?_
  refine lv_iconst (v := 1) hx hb dX5_spot_1 (by decide) ?_
  refine lv_bipush (v := 9) hx hb dX5_spot_2 (by decide) ?_
  refine rx_callSv (rest := []) X hM hS (ct_X5_checkArgument hst a1 1 9) hP mS_X5_86 rfl rfl hl.1 (Nat.le_of_ble_eq_true rfl) ⟨⟨by decide, by decide⟩, by decide, by decide⟩ dX5_spot_4 (x_out hno hlocks rfl rfl) (fun M H locs hM hS hP => ?_)
  refine lv_aload_n hx hb dX5_spot_7 rfl (lv_at hl 0 rfl) ?_
  refine rx_callVv (rest := []) (T := TX5) (N := 18) X hM hS (ct_X5_planFlight hst a0) hP mV_X5_180 rfl rfl rfl hl.1 (Nat.le_of_ble_eq_true rfl) ⟨⟨by decide, by decide⟩, by decide, by decide⟩ dX5_spot_8 (x_out hno hlocks rfl rfl) (fun M H locs hM hS hP => ?_)
  refine lv_iconst (v := 0) hx hb dX5_spot_11 (by decide) ?_
  refine lv_istore_n (lv' := [(2, .int 0), (0, .ref a0), (1, .int a1)]) hx hb dX5_spot_12 rfl hl (by decide) rfl (fun ls hl => ?_)
  refine lv_iconst (v := (-1)) hx hb dX5_spot_13 (by decide) ?_
  refine lv_istore_n (lv' := [(3, .int (-1)), (2, .int 0), (0, .ref a0), (1, .int a1)]) hx hb dX5_spot_14 rfl hl (by decide) rfl (fun ls hl => ?_)
  refine lv_sipush (v := (-200)) hx hb dX5_spot_15 (by decide) ?_
  refine lv_istore (lv' := [(4, .int (-200)), (3, .int (-1)), (2, .int 0), (0, .ref a0), (1, .int a1)]) hx hb dX5_spot_18 hl (by decide) rfl (fun ls hl => ?_)
  exact hb20 mFuel a0 a1 0 (-1) (-200) _ _ _ _ hM hS (lv_sub hl [3, 4, 2, 1, 0] rfl) hP
def f_X5_wouldMeet (K : Cfg) (a0 : Nat) (a1 : Int32) (a2 : Int32) (k : Int32 → Mem → Prop) (QX : String → Mem → Prop) : Mem → Prop :=
 f_X5_checkArgument K a1 1 9 (
 f_X5_checkArgument K a2 (-200) 200 (
 mRecv a0 6 <|
 f_X5_planFlight K a0 (
 mGetR a0 6 8 fun x4 =>
 mGetR a0 6 4 fun x5 =>
 mRecv x4 1 <|
 f_X0_leave K x4 a2 a1 x5 (
 mGetR a0 6 8 fun x7 =>
 mGetR a0 6 4 fun x8 =>
 mRecv x7 1 <|
 f_X0_run K x7 x8 (fun r9 =>
 k r9))) QX) QX) QX
abbrev rm_X5_wouldMeet : Room := { frames := 9, cells := 1, slots := 6, locals := 146 }
set_option maxHeartbeats 4000000 in
set_option maxRecDepth 100000 in
theorem ct_X5_wouldMeet {K : Cfg} {l : Launch} (hst : l.stackTraces = false) (a0 : Nat) (a1 : Int32) (a2 : Int32) : mXPi K l yX5_wouldMeet cX5_wouldMeet 3 (some .int) rm_X5_wouldMeet [.ref a0, .int a1, .int a2] (f_X5_wouldMeet K a0 a1 a2) := by
  refine mXPi.of hst (by decide +kernel) (Nat.le_of_ble_eq_true rfl) ?_
  intro M k Q QX hk hP p e s m below meth c X hr hlocks hno hM ls hl
  have hx := X.1.1
  have hb := X.1.2.1
  have X : Cx K p l s m ([.ref a0, .int a1, .int a2] : List Value).toArray c cX5_wouldMeet 3 RX5 := X
  have hS : va_S (mFA K) s.heap s.heap [] := va_S.rf
  have hl : lv_has ls 3 [(0, .ref a0), (1, .int a1), (2, .int a2)] := hl
  unfold f_X5_wouldMeet at hP
  refine lv_iload_n hx hb dX5_wouldMeet_0 rfl (lv_at hl 1 rfl) ?_
  refine lv_iconst (v := 1) hx hb dX5_wouldMeet_1 (by decide) ?_
  refine lv_bipush (v := 9) hx hb dX5_wouldMeet_2 (by decide) ?_
  refine rx_callSv (rest := []) X hM hS (ct_X5_checkArgument hst a1 1 9) hP mS_X5_86 rfl rfl hl.1 (Nat.le_of_ble_eq_true rfl) ⟨⟨by decide, by decide⟩, by decide, by decide⟩ dX5_wouldMeet_4 (x_out hno hlocks rfl rfl) (fun M H locs hM hS hP => ?_)
  refine lv_iload_n hx hb dX5_wouldMeet_7 rfl (lv_at hl 2 rfl) ?_
  refine lv_sipush (v := (-200)) hx hb dX5_wouldMeet_8 (by decide) ?_
  refine lv_sipush (v := 200) hx hb dX5_wouldMeet_11 (by decide) ?_
  refine rx_callSv (rest := []) X hM hS (ct_X5_checkArgument hst a2 (-200) 200) hP mS_X5_86 rfl rfl hl.1 (Nat.le_of_ble_eq_true rfl) ⟨⟨by decide, by decide⟩, by decide, by decide⟩ dX5_wouldMeet_14 (x_out hno hlocks rfl rfl) (fun M H locs hM hS hP => ?_)
  refine lv_aload_n hx hb dX5_wouldMeet_17 rfl (lv_at hl 0 rfl) ?_
  refine rx_callVv (rest := []) (T := TX5) (N := 18) X hM hS (ct_X5_planFlight hst a0) hP mV_X5_180 rfl rfl rfl hl.1 (Nat.le_of_ble_eq_true rfl) ⟨⟨by decide, by decide⟩, by decide, by decide⟩ dX5_wouldMeet_18 (x_out hno hlocks rfl rfl) (fun M H locs hM hS hP => ?_)
  refine lv_aload_n hx hb dX5_wouldMeet_21 rfl (lv_at hl 0 rfl) ?_
  refine r_getr X hM hP fl_X5_49 dX5_wouldMeet_22 (fun x4 hP => ?_)
  refine lv_iload_n hx hb dX5_wouldMeet_25 rfl (lv_at hl 2 rfl) ?_
  refine lv_iload_n hx hb dX5_wouldMeet_26 rfl (lv_at hl 1 rfl) ?_
  refine lv_aload_n hx hb dX5_wouldMeet_27 rfl (lv_at hl 0 rfl) ?_
  refine r_getr X hM hP fl_X5_31 dX5_wouldMeet_28 (fun x5 hP => ?_)
  refine r_callVv (rest := []) (T := TX0) (N := 2) X hM hS (ct_X0_leave hst x4 a2 a1 x5) hP mV_X5_186 rfl rfl rfl hl.1 (Nat.le_of_ble_eq_true rfl) ⟨⟨by decide, by decide⟩, ⟨by decide, by decide⟩⟩ dX5_wouldMeet_31 (fun M H locs hM hS hP => ?_)
  refine lv_aload_n hx hb dX5_wouldMeet_34 rfl (lv_at hl 0 rfl) ?_
  refine r_getr X hM hP fl_X5_49 dX5_wouldMeet_35 (fun x7 hP => ?_)
  refine lv_aload_n hx hb dX5_wouldMeet_38 rfl (lv_at hl 0 rfl) ?_
  refine r_getr X hM hP fl_X5_31 dX5_wouldMeet_39 (fun x8 hP => ?_)
  refine r_callVi (rest := []) (T := TX0) (N := 2) X hM hS (ct_X0_run hst x7 x8) hP mV_X5_190 rfl rfl rfl hl.1 (Nat.le_of_ble_eq_true rfl) ⟨⟨by decide, by decide⟩, ⟨by decide, by decide⟩⟩ dX5_wouldMeet_42 (fun r9 M H locs hM hS hP => ?_)
  exact vy_ret (e_iret X hM hS (hk _ _ hP) hr hlocks (by decide) (by decide) dX5_wouldMeet_45)
def f_X5_best_b80 (K : Cfg) (k : Int32 → Mem → Prop) (QX : String → Mem → Prop) (lp14 : Nat → Int32 → Nat → Int32 → UInt32 → Int32 → Mem → Prop) (v0 : Nat) (v1 : Int32) (v2 : Nat) (v3 : Int32) (v4 : UInt32) (v5 : Int32) : Mem → Prop :=
 lp14 v0 v1 v2 v3 v4 (v5 + 1)
def f_X5_best_b55 (K : Cfg) (k : Int32 → Mem → Prop) (QX : String → Mem → Prop) (lp14 : Nat → Int32 → Nat → Int32 → UInt32 → Int32 → Mem → Prop) (v0 : Nat) (v1 : Int32) (v2 : Nat) (v3 : Int32) (v4 : UInt32) (v5 : Int32) (v7 : UInt32) : Mem → Prop :=
 mRecv v0 6 <|
 f_X5_isLet K v0 v2 v7 (fun r1 =>
 mIf (r1 = 0)
 (f_X5_best_b80 K k QX lp14 v0 v1 v2 v3 v4 v5)
 (mIf ((Op.cmpValue (FP.fcmp v7 v4) .l) ≤ 0)
 (f_X5_best_b80 K k QX lp14 v0 v1 v2 v3 v4 v5)
 (f_X5_best_b80 K k QX lp14 v0 v1 v2 v5 v7 v5)))
def f_X5_best_b14_body (K : Cfg) (k : Int32 → Mem → Prop) (QX : String → Mem → Prop) (lp14 : Nat → Int32 → Nat → Int32 → UInt32 → Int32 → Mem → Prop) (v0 : Nat) (v1 : Int32) (v2 : Nat) (v3 : Int32) (v4 : UInt32) (v5 : Int32) : Mem → Prop :=
 mGetI v0 6 3 fun x1 =>
 mIf (x1 ≤ v5)
 (k v3)
 (mRecv v0 6 <|
 f_X5_holderOf K v0 v5 (fun r2 =>
 mRecv v0 6 <|
 f_X5_rigAt K v0 v5 (fun r3 =>
 f_X5_loadingWith K v2 r3 (fun r4 =>
 mIf (r2 = (-1))
 (f_X5_best_b55 K k QX lp14 v0 v1 v2 v3 v4 v5 r4)
 (mIf (r2 = v1)
 (f_X5_best_b55 K k QX lp14 v0 v1 v2 v3 v4 v5 r4)
 (f_X5_best_b80 K k QX lp14 v0 v1 v2 v3 v4 v5)))) QX) QX)
def f_X5_best_b14 (K : Cfg) (k : Int32 → Mem → Prop) (QX : String → Mem → Prop) : Nat → Nat → Int32 → Nat → Int32 → UInt32 → Int32 → Mem → Prop
  | 0 => fun _ _ _ _ _ _ _ => False
  | n + 1 => f_X5_best_b14_body K k QX (f_X5_best_b14 K k QX n)
def f_X5_best (K : Cfg) (a0 : Nat) (a1 : Int32) (k : Int32 → Mem → Prop) (QX : String → Mem → Prop) : Mem → Prop :=
 mRecv a0 6 <|
 f_X5_jumperAt K a0 a1 (fun r1 =>
 f_X5_best_b14 K k QX mFuel a0 a1 r1 (-1) FP.fconst0 0) QX
abbrev rm_X5_best : Room := { frames := 8, cells := 1, slots := 6, locals := 125 }
set_option maxHeartbeats 4000000 in
set_option maxRecDepth 100000 in
theorem ct_X5_best {K : Cfg} {l : Launch} (hst : l.stackTraces = false) (a0 : Nat) (a1 : Int32) : mXPi K l yX5_best cX5_best 8 (some .int) rm_X5_best [.ref a0, .int a1] (f_X5_best K a0 a1) := by
  refine mXPi.of hst (by decide +kernel) (Nat.le_of_ble_eq_true rfl) ?_
  intro M k Q QX hk hP p e s m below meth c X hr hlocks hno hM ls hl
  have hx := X.1.1
  have hb := X.1.2.1
  have X : Cx K p l s m ([.ref a0, .int a1] : List Value).toArray c cX5_best 8 RX5 := X
  have hS : va_S (mFA K) s.heap s.heap [] := va_S.rf
  have hl : lv_has ls 8 [(0, .ref a0), (1, .int a1)] := hl
  have hb14 : ∀ (n14 : Nat) (v0 : Nat) (v1 : Int32) (v2 : Nat) (v3 : Int32) (v4 : UInt32) (v5 : Int32) (M : Mem) (H : Heap) (locs : List Loc) (ls : Array Slot), mh K M H → va_S (mFA K) s.heap H locs → lv_has ls 8 [(0, .ref v0), (1, .int v1), (2, .ref v2), (3, .int v3), (4, .float v4), (5, .int v5)] → f_X5_best_b14 K k QX n14 v0 v1 v2 v3 v4 v5 M → W p l e rm_X5_best s m ([.ref a0, .int a1] : List Value).toArray below meth c H locs 0 0 (vy_MQ below (mQ K Q) (mX K QX) ([.ref a0, .int a1] : List Value).toArray s 0 0 1 6 (mFA K)) (F0 m 14 ls []) := by
    intro n14
    induction n14 with
    | zero =>
      intro v0 v1 v2 v3 v4 v5 M H locs ls hM hS hl hP
      exact hP.elim
    | succ n14 ih14 =>
      have hb80 : ∀ (v0 : Nat) (v1 : Int32) (v2 : Nat) (v3 : Int32) (v4 : UInt32) (v5 : Int32) (M : Mem) (H : Heap) (locs : List Loc) (ls : Array Slot), mh K M H → va_S (mFA K) s.heap H locs → lv_has ls 8 [(0, .ref v0), (1, .int v1), (2, .ref v2), (3, .int v3), (4, .float v4), (5, .int v5)] → f_X5_best_b80 K k QX (f_X5_best_b14 K k QX n14) v0 v1 v2 v3 v4 v5 M → W p l e rm_X5_best s m ([.ref a0, .int a1] : List Value).toArray below meth c H locs 0 0 (vy_MQ below (mQ K Q) (mX K QX) ([.ref a0, .int a1] : List Value).toArray s 0 0 1 6 (mFA K)) (F0 m 80 ls []) := by
        intro v0 v1 v2 v3 v4 v5 M H locs ls hM hS hl hP
        unfold f_X5_best_b80 at hP
        refine lv_iinc (v := v5 + 1) (lv' := [(5, .int (v5 + 1)), (0, .ref v0), (1, .int v1), (2, .ref v2), (3, .int v3), (4, .float v4)]) hx hb dX5_best_80 hl (k := 5) rfl rfl (by decide) rfl (fun ls hl => ?_)
        refine lv_goto (tgt := 14) hx hb dX5_best_83 (by decide) ?_
        exact ih14 v0 v1 v2 v3 v4 (v5 + 1) _ _ _ _ hM hS (lv_sub hl [1, 2, 3, 4, 5, 0] rfl) hP
      have hb55 : ∀ (v0 : Nat) (v1 : Int32) (v2 : Nat) (v3 : Int32) (v4 : UInt32) (v5 : Int32) (v7 : UInt32) (M : Mem) (H : Heap) (locs : List Loc) (ls : Array Slot), mh K M H → va_S (mFA K) s.heap H locs → lv_has ls 8 [(0, .ref v0), (1, .int v1), (2, .ref v2), (3, .int v3), (4, .float v4), (5, .int v5), (7, .float v7)] → f_X5_best_b55 K k QX (f_X5_best_b14 K k QX n14) v0 v1 v2 v3 v4 v5 v7 M → W p l e rm_X5_best s m ([.ref a0, .int a1] : List Value).toArray below meth c H locs 0 0 (vy_MQ below (mQ K Q) (mX K QX) ([.ref a0, .int a1] : List Value).toArray s 0 0 1 6 (mFA K)) (F0 m 55 ls []) := by
        intro v0 v1 v2 v3 v4 v5 v7 M H locs ls hM hS hl hP
        unfold f_X5_best_b55 at hP
        refine lv_aload_n hx hb dX5_best_55 rfl (lv_at hl 0 rfl) ?_
        refine lv_aload_n hx hb dX5_best_56 rfl (lv_at hl 2 rfl) ?_
        refine lv_fload hx hb dX5_best_57 (lv_at hl 6 rfl) ?_
        refine r_callVi (rest := []) (T := TX5) (N := 18) X hM hS (ct_X5_isLet hst v0 v2 v7) hP mV_X5_271 rfl rfl rfl hl.1 (Nat.le_of_ble_eq_true rfl) ⟨⟨by decide, by decide⟩, ⟨by decide, by decide⟩⟩ dX5_best_59 (fun r1 M H locs hM hS hP => ?_)
        refine lv_if_eq (tgt := 80) hx hb dX5_best_62 (by decide) (fun hc => ?_) (fun hc => ?_)
        · have hP := mIf_t hP hc
          exact hb80 v0 v1 v2 v3 v4 v5 _ _ _ _ hM hS (lv_sub hl [0, 1, 2, 3, 4, 5] rfl) hP
        · have hP := mIf_f hP hc
          refine lv_fload hx hb dX5_best_65 (lv_at hl 6 rfl) ?_
          refine lv_fload hx hb dX5_best_67 (lv_at hl 4 rfl) ?_
          refine lv_fcmp hx hb dX5_best_69 ?_
          refine lv_if_le (tgt := 80) hx hb dX5_best_70 (by decide) (fun hc => ?_) (fun hc => ?_)
          · have hP := mIf_t hP hc
            exact hb80 v0 v1 v2 v3 v4 v5 _ _ _ _ hM hS (lv_sub hl [0, 1, 2, 3, 4, 5] rfl) hP
          · have hP := mIf_f hP hc
            refine lv_iload hx hb dX5_best_73 (lv_at hl 5 rfl) ?_
            refine lv_istore_n (lv' := [(3, .int v5), (0, .ref v0), (1, .int v1), (2, .ref v2), (4, .float v4), (5, .int v5), (7, .float v7)]) hx hb dX5_best_75 rfl hl (by decide) rfl (fun ls hl => ?_)
            refine lv_fload hx hb dX5_best_76 (lv_at hl 6 rfl) ?_
            refine lv_fstore (lv' := [(4, .float v7), (3, .int v5), (0, .ref v0), (1, .int v1), (2, .ref v2), (5, .int v5), (7, .float v7)]) hx hb dX5_best_78 hl (by decide) rfl (fun ls hl => ?_)
            exact hb80 v0 v1 v2 v5 v7 v5 _ _ _ _ hM hS (lv_sub hl [2, 3, 4, 1, 0, 5] rfl) hP
      intro v0 v1 v2 v3 v4 v5 M H locs ls hM hS hl hP
      have hP : f_X5_best_b14_body K k QX (f_X5_best_b14 K k QX n14) v0 v1 v2 v3 v4 v5 M := hP
      unfold f_X5_best_b14_body at hP
      refine lv_iload hx hb dX5_best_14 (lv_at hl 5 rfl) ?_
      refine lv_aload_n hx hb dX5_best_16 rfl (lv_at hl 0 rfl) ?_
      refine r_geti X hM hP fl_X5_25 dX5_best_17 (fun x1 hP => ?_)
      refine lv_icmp_ge (tgt := 86) hx hb dX5_best_20 (by decide) (fun hc => ?_) (fun hc => ?_)
      · have hP := mIf_t hP hc
        refine lv_iload_n hx hb dX5_best_86 rfl (lv_at hl 3 rfl) ?_
        exact vy_ret (e_iret X hM hS (hk _ _ hP) hr hlocks (by decide) (by decide) dX5_best_87)
      · have hP := mIf_f hP hc
        refine lv_aload_n hx hb dX5_best_23 rfl (lv_at hl 0 rfl) ?_
        refine lv_iload hx hb dX5_best_24 (lv_at hl 5 rfl) ?_
        refine rx_callVi (rest := []) (T := TX5) (N := 18) X hM hS (ct_X5_holderOf hst v0 v5) hP mV_X5_122 rfl rfl rfl hl.1 (Nat.le_of_ble_eq_true rfl) ⟨⟨by decide, by decide⟩, by decide, by decide⟩ dX5_best_26 (x_out hno hlocks rfl rfl) (fun r2 M H locs hM hS hP => ?_)
        refine lv_istore (lv' := [(6, .int r2), (0, .ref v0), (1, .int v1), (2, .ref v2), (3, .int v3), (4, .float v4), (5, .int v5)]) hx hb dX5_best_29 hl (by decide) rfl (fun ls hl => ?_)
        refine lv_aload_n hx hb dX5_best_31 rfl (lv_at hl 3 rfl) ?_
        refine lv_aload_n hx hb dX5_best_32 rfl (lv_at hl 1 rfl) ?_
        refine lv_iload hx hb dX5_best_33 (lv_at hl 6 rfl) ?_
        refine rx_callVr (rest := [.ref v2]) (T := TX5) (N := 18) X hM hS (ct_X5_rigAt hst v0 v5) hP mV_X5_114 rfl rfl rfl hl.1 (Nat.le_of_ble_eq_true rfl) ⟨⟨by decide, by decide⟩, by decide, by decide⟩ dX5_best_35 (x_out hno hlocks rfl rfl) (fun r3 M H locs hM hS hP => ?_)
        refine r_callSf (rest := []) X hM hS (ct_X5_loadingWith hst v2 r3) hP mS_X5_267 rfl rfl hl.1 (Nat.le_of_ble_eq_true rfl) ⟨⟨by decide, by decide⟩, ⟨by decide, by decide⟩⟩ dX5_best_38 (fun r4 M H locs hM hS hP => ?_)
        refine lv_fstore (lv' := [(7, .float r4), (6, .int r2), (0, .ref v0), (1, .int v1), (2, .ref v2), (3, .int v3), (4, .float v4), (5, .int v5)]) hx hb dX5_best_41 hl (by decide) rfl (fun ls hl => ?_)
        refine lv_iload hx hb dX5_best_43 (lv_at hl 1 rfl) ?_
        refine lv_iconst (v := (-1)) hx hb dX5_best_45 (by decide) ?_
        refine lv_icmp_eq (tgt := 55) hx hb dX5_best_46 (by decide) (fun hc => ?_) (fun hc => ?_)
        · have hP := mIf_t hP hc
          exact hb55 v0 v1 v2 v3 v4 v5 r4 _ _ _ _ hM hS (lv_sub hl [2, 3, 4, 5, 6, 7, 0] rfl) hP
        · have hP := mIf_f hP hc
          refine lv_iload hx hb dX5_best_49 (lv_at hl 1 rfl) ?_
          refine lv_iload_n hx hb dX5_best_51 rfl (lv_at hl 3 rfl) ?_
          refine lv_icmp_ne (tgt := 80) hx hb dX5_best_52 (by decide) (fun hc => ?_) (fun hc => ?_)
          · have hP := mIf_f hP hc
            exact hb80 v0 v1 v2 v3 v4 v5 _ _ _ _ hM hS (lv_sub hl [2, 3, 4, 5, 6, 7] rfl) hP
          · have hP := mIf_t hP hc
            exact hb55 v0 v1 v2 v3 v4 v5 r4 _ _ _ _ hM hS (lv_sub hl [2, 3, 4, 5, 6, 7, 0] rfl) hP
  unfold f_X5_best at hP
  refine lv_aload_n hx hb dX5_best_0 rfl (lv_at hl 0 rfl) ?_
  refine lv_iload_n hx hb dX5_best_1 rfl (lv_at hl 1 rfl) ?_
  refine rx_callVr (rest := []) (T := TX5) (N := 18) X hM hS (ct_X5_jumperAt hst a0 a1) hP mV_X5_118 rfl rfl rfl hl.1 (Nat.le_of_ble_eq_true rfl) ⟨⟨by decide, by decide⟩, by decide, by decide⟩ dX5_best_2 (x_out hno hlocks rfl rfl) (fun r1 M H locs hM hS hP => ?_)
  refine lv_astore_n (lv' := [(2, .ref r1), (0, .ref a0), (1, .int a1)]) hx hb dX5_best_5 rfl hl (by decide) rfl (fun ls hl => ?_)
  refine lv_iconst (v := (-1)) hx hb dX5_best_6 (by decide) ?_
  refine lv_istore_n (lv' := [(3, .int (-1)), (2, .ref r1), (0, .ref a0), (1, .int a1)]) hx hb dX5_best_7 rfl hl (by decide) rfl (fun ls hl => ?_)
  refine lv_fconst0 hx hb dX5_best_8 ?_
  refine lv_fstore (lv' := [(4, .float FP.fconst0), (3, .int (-1)), (2, .ref r1), (0, .ref a0), (1, .int a1)]) hx hb dX5_best_9 hl (by decide) rfl (fun ls hl => ?_)
  refine lv_iconst (v := 0) hx hb dX5_best_11 (by decide) ?_
  refine lv_istore (lv' := [(5, .int 0), (4, .float FP.fconst0), (3, .int (-1)), (2, .ref r1), (0, .ref a0), (1, .int a1)]) hx hb dX5_best_12 hl (by decide) rfl (fun ls hl => ?_)
  exact hb14 mFuel a0 a1 r1 (-1) FP.fconst0 0 _ _ _ _ hM hS (lv_sub hl [4, 5, 3, 2, 1, 0] rfl) hP
def f_X5_digestOfJumper_b6_body (K : Cfg) (k : Int64 → Mem → Prop) (QX : String → Mem → Prop) (lp6 : Nat → Int32 → Int64 → Int32 → Mem → Prop) (v0 : Nat) (v3 : Int32) (v4 : Int64) (v6 : Int32) : Mem → Prop :=
 mIf (8 < v6)
 (mRecv v0 6 <|
 f_X5_landed K v0 v3 0 (fun r1 =>
 mAs (vf_n64 (FP.dmul 4652218415073722368 r1)) <|
 mRecv v0 6 <|
 f_X5_landed K v0 v3 1 (fun r2 =>
 mAs (vf_n64 (FP.dmul 4652218415073722368 r2)) <|
 mRecv v0 6 <|
 f_X5_refuses K v0 v3 (fun r3 =>
 mRecv v0 6 <|
 f_X5_best K v0 v3 (fun r4 =>
 k ((((((((v4 * 31) + (FP.d2l (FP.dmul 4652218415073722368 r1))) * 31) + (FP.d2l (FP.dmul 4652218415073722368 r2))) * 31) + r3.toInt64) * 31) + r4.toInt64)) QX) QX) QX) QX)
 (mRecv v0 6 <|
 f_X5_ofJumper K v0 v3 v6 (fun r5 =>
 lp6 v0 v3 ((v4 * 31) + r5.toInt64) (v6 + 1)) QX)
def f_X5_digestOfJumper_b6 (K : Cfg) (k : Int64 → Mem → Prop) (QX : String → Mem → Prop) : Nat → Nat → Int32 → Int64 → Int32 → Mem → Prop
  | 0 => fun _ _ _ _ _ => False
  | n + 1 => f_X5_digestOfJumper_b6_body K k QX (f_X5_digestOfJumper_b6 K k QX n)
def f_X5_digestOfJumper (K : Cfg) (a0 : Nat) (a1 : Int64) (a2 : Int32) (k : Int64 → Mem → Prop) (QX : String → Mem → Prop) : Mem → Prop :=
 f_X5_digestOfJumper_b6 K k QX mFuel a0 a2 a1 0
abbrev rm_X5_digestOfJumper : Room := { frames := 10, cells := 1, slots := 6, locals := 169 }
set_option maxHeartbeats 4000000 in
set_option maxRecDepth 100000 in
theorem ct_X5_digestOfJumper {K : Cfg} {l : Launch} (hst : l.stackTraces = false) (a0 : Nat) (a1 : Int64) (a2 : Int32) : mXPl K l yX5_digestOfJumper cX5_digestOfJumper 7 (some .long) rm_X5_digestOfJumper [.ref a0, .long a1, .int a2] (f_X5_digestOfJumper K a0 a1 a2) := by
  refine mXPl.of hst (by decide +kernel) (Nat.le_of_ble_eq_true rfl) ?_
  intro M k Q QX hk hP p e s m below meth c X hr hlocks hno hM ls hl
  have hx := X.1.1
  have hb := X.1.2.1
  have X : Cx K p l s m ([.ref a0, .long a1, .int a2] : List Value).toArray c cX5_digestOfJumper 7 RX5 := X
  have hS : va_S (mFA K) s.heap s.heap [] := va_S.rf
  have hl : lv_has ls 7 [(0, .ref a0), (1, .long a1), (3, .int a2)] := hl
  have hb6 : ∀ (n6 : Nat) (v0 : Nat) (v3 : Int32) (v4 : Int64) (v6 : Int32) (M : Mem) (H : Heap) (locs : List Loc) (ls : Array Slot), mh K M H → va_S (mFA K) s.heap H locs → lv_has ls 7 [(0, .ref v0), (3, .int v3), (4, .long v4), (6, .int v6)] → f_X5_digestOfJumper_b6 K k QX n6 v0 v3 v4 v6 M → W p l e rm_X5_digestOfJumper s m ([.ref a0, .long a1, .int a2] : List Value).toArray below meth c H locs 0 0 (vy_MQ below (mQ K Q) (mX K QX) ([.ref a0, .long a1, .int a2] : List Value).toArray s 0 0 1 6 (mFA K)) (F0 m 6 ls []) := by
    intro n6
    induction n6 with
    | zero =>
      intro v0 v3 v4 v6 M H locs ls hM hS hl hP
      exact hP.elim
    | succ n6 ih6 =>
      intro v0 v3 v4 v6 M H locs ls hM hS hl hP
      have hP : f_X5_digestOfJumper_b6_body K k QX (f_X5_digestOfJumper_b6 K k QX n6) v0 v3 v4 v6 M := hP
      unfold f_X5_digestOfJumper_b6_body at hP
      refine lv_iload hx hb dX5_digestOfJumper_6 (lv_at hl 3 rfl) ?_
      refine lv_bipush (v := 8) hx hb dX5_digestOfJumper_8 (by decide) ?_
      refine lv_icmp_gt (tgt := 36) hx hb dX5_digestOfJumper_10 (by decide) (fun hc => ?_) (fun hc => ?_)
      · have hP := mIf_t hP hc
        refine lv_lload hx hb dX5_digestOfJumper_36 (lv_at hl 2 rfl) ?_
        refine r_ldcl (v := 31) X kc_X5_277 dX5_digestOfJumper_38 ?_
        refine lv_lmul hx hb dX5_digestOfJumper_41 ?_
        refine r_ldcd (v := 4652218415073722368) X kc_X5_302 dX5_digestOfJumper_42 ?_
        refine lv_aload_n hx hb dX5_digestOfJumper_45 rfl (lv_at hl 0 rfl) ?_
        refine lv_iload_n hx hb dX5_digestOfJumper_46 rfl (lv_at hl 1 rfl) ?_
        refine lv_iconst (v := 0) hx hb dX5_digestOfJumper_47 (by decide) ?_
        refine rx_callVd (rest := [.double 4652218415073722368, .long (v4 * 31)]) (T := TX5) (N := 18) X hM hS (ct_X5_landed hst v0 v3 0) hP mV_X5_304 rfl rfl rfl hl.1 (Nat.le_of_ble_eq_true rfl) ⟨⟨by decide, by decide⟩, by decide, by decide⟩ dX5_digestOfJumper_48 (x_out hno hlocks rfl rfl) (fun r1 M H locs hM hS hP => ?_)
        obtain ⟨h9, hP⟩ := hP
        refine lv_dmul hx hb dX5_digestOfJumper_51 h9 ?_
        refine lv_d2l hx hb dX5_digestOfJumper_52 ?_
        refine lv_ladd hx hb dX5_digestOfJumper_53 ?_
        refine lv_lstore (lv' := [(4, .long ((v4 * 31) + (FP.d2l (FP.dmul 4652218415073722368 r1)))), (0, .ref v0), (3, .int v3), (6, .int v6)]) hx hb dX5_digestOfJumper_54 hl (by decide) rfl (fun ls hl => ?_)
        refine lv_lload hx hb dX5_digestOfJumper_56 (lv_at hl 0 rfl) ?_
        refine r_ldcl (v := 31) X kc_X5_277 dX5_digestOfJumper_58 ?_
        refine lv_lmul hx hb dX5_digestOfJumper_61 ?_
        refine r_ldcd (v := 4652218415073722368) X kc_X5_302 dX5_digestOfJumper_62 ?_
        refine lv_aload_n hx hb dX5_digestOfJumper_65 rfl (lv_at hl 1 rfl) ?_
        refine lv_iload_n hx hb dX5_digestOfJumper_66 rfl (lv_at hl 2 rfl) ?_
        refine lv_iconst (v := 1) hx hb dX5_digestOfJumper_67 (by decide) ?_
        refine rx_callVd (rest := [.double 4652218415073722368, .long (((v4 * 31) + (FP.d2l (FP.dmul 4652218415073722368 r1))) * 31)]) (T := TX5) (N := 18) X hM hS (ct_X5_landed hst v0 v3 1) hP mV_X5_304 rfl rfl rfl hl.1 (Nat.le_of_ble_eq_true rfl) ⟨⟨by decide, by decide⟩, by decide, by decide⟩ dX5_digestOfJumper_68 (x_out hno hlocks rfl rfl) (fun r2 M H locs hM hS hP => ?_)
        obtain ⟨h9, hP⟩ := hP
        refine lv_dmul hx hb dX5_digestOfJumper_71 h9 ?_
        refine lv_d2l hx hb dX5_digestOfJumper_72 ?_
        refine lv_ladd hx hb dX5_digestOfJumper_73 ?_
        refine lv_lstore (lv' := [(4, .long ((((v4 * 31) + (FP.d2l (FP.dmul 4652218415073722368 r1))) * 31) + (FP.d2l (FP.dmul 4652218415073722368 r2)))), (0, .ref v0), (3, .int v3), (6, .int v6)]) hx hb dX5_digestOfJumper_74 hl (by decide) rfl (fun ls hl => ?_)
        refine lv_lload hx hb dX5_digestOfJumper_76 (lv_at hl 0 rfl) ?_
        refine r_ldcl (v := 31) X kc_X5_277 dX5_digestOfJumper_78 ?_
        refine lv_lmul hx hb dX5_digestOfJumper_81 ?_
        refine lv_aload_n hx hb dX5_digestOfJumper_82 rfl (lv_at hl 1 rfl) ?_
        refine lv_iload_n hx hb dX5_digestOfJumper_83 rfl (lv_at hl 2 rfl) ?_
        refine rx_callVi (rest := [.long (((((v4 * 31) + (FP.d2l (FP.dmul 4652218415073722368 r1))) * 31) + (FP.d2l (FP.dmul 4652218415073722368 r2))) * 31)]) (T := TX5) (N := 18) X hM hS (ct_X5_refuses hst v0 v3) hP mV_X5_308 rfl rfl rfl hl.1 (Nat.le_of_ble_eq_true rfl) ⟨⟨by decide, by decide⟩, by decide, by decide⟩ dX5_digestOfJumper_84 (x_out hno hlocks rfl rfl) (fun r3 M H locs hM hS hP => ?_)
        refine lv_i2l hx hb dX5_digestOfJumper_87 rfl ?_
        refine lv_ladd hx hb dX5_digestOfJumper_88 ?_
        refine lv_lstore (lv' := [(4, .long ((((((v4 * 31) + (FP.d2l (FP.dmul 4652218415073722368 r1))) * 31) + (FP.d2l (FP.dmul 4652218415073722368 r2))) * 31) + r3.toInt64)), (0, .ref v0), (3, .int v3), (6, .int v6)]) hx hb dX5_digestOfJumper_89 hl (by decide) rfl (fun ls hl => ?_)
        refine lv_lload hx hb dX5_digestOfJumper_91 (lv_at hl 0 rfl) ?_
        refine r_ldcl (v := 31) X kc_X5_277 dX5_digestOfJumper_93 ?_
        refine lv_lmul hx hb dX5_digestOfJumper_96 ?_
        refine lv_aload_n hx hb dX5_digestOfJumper_97 rfl (lv_at hl 1 rfl) ?_
        refine lv_iload_n hx hb dX5_digestOfJumper_98 rfl (lv_at hl 2 rfl) ?_
        refine rx_callVi (rest := [.long (((((((v4 * 31) + (FP.d2l (FP.dmul 4652218415073722368 r1))) * 31) + (FP.d2l (FP.dmul 4652218415073722368 r2))) * 31) + r3.toInt64) * 31)]) (T := TX5) (N := 18) X hM hS (ct_X5_best hst v0 v3) hP mV_X5_311 rfl rfl rfl hl.1 (Nat.le_of_ble_eq_true rfl) ⟨⟨by decide, by decide⟩, by decide, by decide⟩ dX5_digestOfJumper_99 (x_out hno hlocks rfl rfl) (fun r4 M H locs hM hS hP => ?_)
        refine lv_i2l hx hb dX5_digestOfJumper_102 rfl ?_
        refine lv_ladd hx hb dX5_digestOfJumper_103 ?_
        exact vy_ret (e_lret X hM hS (hk _ _ hP) hr hlocks (by decide) (by decide) dX5_digestOfJumper_104)
      · have hP := mIf_f hP hc
        refine lv_lload hx hb dX5_digestOfJumper_13 (lv_at hl 2 rfl) ?_
        refine r_ldcl (v := 31) X kc_X5_277 dX5_digestOfJumper_15 ?_
        refine lv_lmul hx hb dX5_digestOfJumper_18 ?_
        refine lv_aload_n hx hb dX5_digestOfJumper_19 rfl (lv_at hl 0 rfl) ?_
        refine lv_iload_n hx hb dX5_digestOfJumper_20 rfl (lv_at hl 1 rfl) ?_
        refine lv_iload hx hb dX5_digestOfJumper_21 (lv_at hl 3 rfl) ?_
        refine rx_callVi (rest := [.long (v4 * 31)]) (T := TX5) (N := 18) X hM hS (ct_X5_ofJumper hst v0 v3 v6) hP mV_X5_299 rfl rfl rfl hl.1 (Nat.le_of_ble_eq_true rfl) ⟨⟨by decide, by decide⟩, by decide, by decide⟩ dX5_digestOfJumper_23 (x_out hno hlocks rfl rfl) (fun r5 M H locs hM hS hP => ?_)
        refine lv_i2l hx hb dX5_digestOfJumper_26 rfl ?_
        refine lv_ladd hx hb dX5_digestOfJumper_27 ?_
        refine lv_lstore (lv' := [(4, .long ((v4 * 31) + r5.toInt64)), (0, .ref v0), (3, .int v3), (6, .int v6)]) hx hb dX5_digestOfJumper_28 hl (by decide) rfl (fun ls hl => ?_)
        refine lv_iinc (v := v6 + 1) (lv' := [(6, .int (v6 + 1)), (4, .long ((v4 * 31) + r5.toInt64)), (0, .ref v0), (3, .int v3)]) hx hb dX5_digestOfJumper_30 hl (k := 3) rfl rfl (by decide) rfl (fun ls hl => ?_)
        refine lv_goto (tgt := 6) hx hb dX5_digestOfJumper_33 (by decide) ?_
        exact ih6 v0 v3 ((v4 * 31) + r5.toInt64) (v6 + 1) _ _ _ _ hM hS (lv_sub hl [2, 3, 1, 0] rfl) hP
  unfold f_X5_digestOfJumper at hP
  refine lv_lload_n hx hb dX5_digestOfJumper_0 rfl (lv_at hl 1 rfl) ?_
  refine lv_lstore (lv' := [(4, .long a1), (0, .ref a0), (1, .long a1), (3, .int a2)]) hx hb dX5_digestOfJumper_1 hl (by decide) rfl (fun ls hl => ?_)
  refine lv_iconst (v := 0) hx hb dX5_digestOfJumper_3 (by decide) ?_
  refine lv_istore (lv' := [(6, .int 0), (4, .long a1), (0, .ref a0), (1, .long a1), (3, .int a2)]) hx hb dX5_digestOfJumper_4 hl (by decide) rfl (fun ls hl => ?_)
  exact hb6 mFuel a0 a2 a1 0 _ _ _ _ hM hS (lv_sub hl [2, 4, 1, 0] rfl) hP
def f_X5_digestOfRig_b6_body (K : Cfg) (k : Int64 → Mem → Prop) (QX : String → Mem → Prop) (lp6 : Nat → Int32 → Int64 → Int32 → Mem → Prop) (v0 : Nat) (v3 : Int32) (v4 : Int64) (v6 : Int32) : Mem → Prop :=
 mIf (4 < v6)
 (mRecv v0 6 <|
 f_X5_wear K v0 v3 (fun r1 =>
 mAs (vf_n64 (FP.dmul 4634204016564240384 r1)) <|
 k ((v4 * 31) + (FP.d2l (FP.dmul 4634204016564240384 r1)))) QX)
 (mRecv v0 6 <|
 f_X5_ofRig K v0 v3 v6 (fun r2 =>
 lp6 v0 v3 ((v4 * 31) + r2.toInt64) (v6 + 1)) QX)
def f_X5_digestOfRig_b6 (K : Cfg) (k : Int64 → Mem → Prop) (QX : String → Mem → Prop) : Nat → Nat → Int32 → Int64 → Int32 → Mem → Prop
  | 0 => fun _ _ _ _ _ => False
  | n + 1 => f_X5_digestOfRig_b6_body K k QX (f_X5_digestOfRig_b6 K k QX n)
def f_X5_digestOfRig (K : Cfg) (a0 : Nat) (a1 : Int64) (a2 : Int32) (k : Int64 → Mem → Prop) (QX : String → Mem → Prop) : Mem → Prop :=
 f_X5_digestOfRig_b6 K k QX mFuel a0 a2 a1 0
abbrev rm_X5_digestOfRig : Room := { frames := 9, cells := 1, slots := 6, locals := 148 }
set_option maxHeartbeats 4000000 in
set_option maxRecDepth 100000 in
theorem ct_X5_digestOfRig {K : Cfg} {l : Launch} (hst : l.stackTraces = false) (a0 : Nat) (a1 : Int64) (a2 : Int32) : mXPl K l yX5_digestOfRig cX5_digestOfRig 7 (some .long) rm_X5_digestOfRig [.ref a0, .long a1, .int a2] (f_X5_digestOfRig K a0 a1 a2) := by
  refine mXPl.of hst (by decide +kernel) (Nat.le_of_ble_eq_true rfl) ?_
  intro M k Q QX hk hP p e s m below meth c X hr hlocks hno hM ls hl
  have hx := X.1.1
  have hb := X.1.2.1
  have X : Cx K p l s m ([.ref a0, .long a1, .int a2] : List Value).toArray c cX5_digestOfRig 7 RX5 := X
  have hS : va_S (mFA K) s.heap s.heap [] := va_S.rf
  have hl : lv_has ls 7 [(0, .ref a0), (1, .long a1), (3, .int a2)] := hl
  have hb6 : ∀ (n6 : Nat) (v0 : Nat) (v3 : Int32) (v4 : Int64) (v6 : Int32) (M : Mem) (H : Heap) (locs : List Loc) (ls : Array Slot), mh K M H → va_S (mFA K) s.heap H locs → lv_has ls 7 [(0, .ref v0), (3, .int v3), (4, .long v4), (6, .int v6)] → f_X5_digestOfRig_b6 K k QX n6 v0 v3 v4 v6 M → W p l e rm_X5_digestOfRig s m ([.ref a0, .long a1, .int a2] : List Value).toArray below meth c H locs 0 0 (vy_MQ below (mQ K Q) (mX K QX) ([.ref a0, .long a1, .int a2] : List Value).toArray s 0 0 1 6 (mFA K)) (F0 m 6 ls []) := by
    intro n6
    induction n6 with
    | zero =>
      intro v0 v3 v4 v6 M H locs ls hM hS hl hP
      exact hP.elim
    | succ n6 ih6 =>
      intro v0 v3 v4 v6 M H locs ls hM hS hl hP
      have hP : f_X5_digestOfRig_b6_body K k QX (f_X5_digestOfRig_b6 K k QX n6) v0 v3 v4 v6 M := hP
      unfold f_X5_digestOfRig_b6_body at hP
      refine lv_iload hx hb dX5_digestOfRig_6 (lv_at hl 3 rfl) ?_
      refine lv_iconst (v := 4) hx hb dX5_digestOfRig_8 (by decide) ?_
      refine lv_icmp_gt (tgt := 35) hx hb dX5_digestOfRig_9 (by decide) (fun hc => ?_) (fun hc => ?_)
      · have hP := mIf_t hP hc
        refine lv_lload hx hb dX5_digestOfRig_35 (lv_at hl 2 rfl) ?_
        refine r_ldcl (v := 31) X kc_X5_277 dX5_digestOfRig_37 ?_
        refine lv_lmul hx hb dX5_digestOfRig_40 ?_
        refine r_ldcd (v := 4634204016564240384) X kc_X5_317 dX5_digestOfRig_41 ?_
        refine lv_aload_n hx hb dX5_digestOfRig_44 rfl (lv_at hl 0 rfl) ?_
        refine lv_iload_n hx hb dX5_digestOfRig_45 rfl (lv_at hl 1 rfl) ?_
        refine rx_callVd (rest := [.double 4634204016564240384, .long (v4 * 31)]) (T := TX5) (N := 18) X hM hS (ct_X5_wear hst v0 v3) hP mV_X5_319 rfl rfl rfl hl.1 (Nat.le_of_ble_eq_true rfl) ⟨⟨by decide, by decide⟩, by decide, by decide⟩ dX5_digestOfRig_46 (x_out hno hlocks rfl rfl) (fun r1 M H locs hM hS hP => ?_)
        obtain ⟨h9, hP⟩ := hP
        refine lv_dmul hx hb dX5_digestOfRig_49 h9 ?_
        refine lv_d2l hx hb dX5_digestOfRig_50 ?_
        refine lv_ladd hx hb dX5_digestOfRig_51 ?_
        exact vy_ret (e_lret X hM hS (hk _ _ hP) hr hlocks (by decide) (by decide) dX5_digestOfRig_52)
      · have hP := mIf_f hP hc
        refine lv_lload hx hb dX5_digestOfRig_12 (lv_at hl 2 rfl) ?_
        refine r_ldcl (v := 31) X kc_X5_277 dX5_digestOfRig_14 ?_
        refine lv_lmul hx hb dX5_digestOfRig_17 ?_
        refine lv_aload_n hx hb dX5_digestOfRig_18 rfl (lv_at hl 0 rfl) ?_
        refine lv_iload_n hx hb dX5_digestOfRig_19 rfl (lv_at hl 1 rfl) ?_
        refine lv_iload hx hb dX5_digestOfRig_20 (lv_at hl 3 rfl) ?_
        refine rx_callVi (rest := [.long (v4 * 31)]) (T := TX5) (N := 18) X hM hS (ct_X5_ofRig hst v0 v3 v6) hP mV_X5_314 rfl rfl rfl hl.1 (Nat.le_of_ble_eq_true rfl) ⟨⟨by decide, by decide⟩, by decide, by decide⟩ dX5_digestOfRig_22 (x_out hno hlocks rfl rfl) (fun r2 M H locs hM hS hP => ?_)
        refine lv_i2l hx hb dX5_digestOfRig_25 rfl ?_
        refine lv_ladd hx hb dX5_digestOfRig_26 ?_
        refine lv_lstore (lv' := [(4, .long ((v4 * 31) + r2.toInt64)), (0, .ref v0), (3, .int v3), (6, .int v6)]) hx hb dX5_digestOfRig_27 hl (by decide) rfl (fun ls hl => ?_)
        refine lv_iinc (v := v6 + 1) (lv' := [(6, .int (v6 + 1)), (4, .long ((v4 * 31) + r2.toInt64)), (0, .ref v0), (3, .int v3)]) hx hb dX5_digestOfRig_29 hl (k := 3) rfl rfl (by decide) rfl (fun ls hl => ?_)
        refine lv_goto (tgt := 6) hx hb dX5_digestOfRig_32 (by decide) ?_
        exact ih6 v0 v3 ((v4 * 31) + r2.toInt64) (v6 + 1) _ _ _ _ hM hS (lv_sub hl [2, 3, 1, 0] rfl) hP
  unfold f_X5_digestOfRig at hP
  refine lv_lload_n hx hb dX5_digestOfRig_0 rfl (lv_at hl 1 rfl) ?_
  refine lv_lstore (lv' := [(4, .long a1), (0, .ref a0), (1, .long a1), (3, .int a2)]) hx hb dX5_digestOfRig_1 hl (by decide) rfl (fun ls hl => ?_)
  refine lv_iconst (v := 0) hx hb dX5_digestOfRig_3 (by decide) ?_
  refine lv_istore (lv' := [(6, .int 0), (4, .long a1), (0, .ref a0), (1, .long a1), (3, .int a2)]) hx hb dX5_digestOfRig_4 hl (by decide) rfl (fun ls hl => ?_)
  exact hb6 mFuel a0 a2 a1 0 _ _ _ _ hM hS (lv_sub hl [2, 4, 1, 0] rfl) hP
def f_X5_digest_b79_body (K : Cfg) (k : Int64 → Mem → Prop) (QX : String → Mem → Prop) (lp79 : Nat → Int64 → Int32 → Mem → Prop) (v0 : Nat) (v1 : Int64) (v3 : Int32) : Mem → Prop :=
 mIf (10 ≤ v3)
 (mRecv v0 6 <|
 f_X5_spot K v0 3 (fun r1 =>
 mRecv v0 6 <|
 f_X5_wouldMeet K v0 3 0 (fun r2 =>
 k ((((v1 * 31) + r1.toInt64) * 31) + r2.toInt64)) QX) QX)
 (mRecv v0 6 <|
 f_X5_ofWind K v0 v3 0 (fun r3 =>
 mRecv v0 6 <|
 f_X5_ofWind K v0 v3 1 (fun r4 =>
 lp79 v0 ((((v1 * 31) + r3.toInt64) * 31) + r4.toInt64) (v3 + 1)) QX) QX)
def f_X5_digest_b79 (K : Cfg) (k : Int64 → Mem → Prop) (QX : String → Mem → Prop) : Nat → Nat → Int64 → Int32 → Mem → Prop
  | 0 => fun _ _ _ _ => False
  | n + 1 => f_X5_digest_b79_body K k QX (f_X5_digest_b79 K k QX n)
def f_X5_digest_b56_body (K : Cfg) (k : Int64 → Mem → Prop) (QX : String → Mem → Prop) (lp56 : Nat → Int64 → Int32 → Mem → Prop) (v0 : Nat) (v1 : Int64) (v3 : Int32) : Mem → Prop :=
 mGetI v0 6 3 fun x1 =>
 mIf (x1 ≤ v3)
 (f_X5_digest_b79 K k QX mFuel v0 v1 0)
 (mRecv v0 6 <|
 f_X5_digestOfRig K v0 v1 v3 (fun r2 =>
 lp56 v0 r2 (v3 + 1)) QX)
def f_X5_digest_b56 (K : Cfg) (k : Int64 → Mem → Prop) (QX : String → Mem → Prop) : Nat → Nat → Int64 → Int32 → Mem → Prop
  | 0 => fun _ _ _ _ => False
  | n + 1 => f_X5_digest_b56_body K k QX (f_X5_digest_b56 K k QX n)
def f_X5_digest_b33_body (K : Cfg) (k : Int64 → Mem → Prop) (QX : String → Mem → Prop) (lp33 : Nat → Int64 → Int32 → Mem → Prop) (v0 : Nat) (v1 : Int64) (v3 : Int32) : Mem → Prop :=
 mGetI v0 6 1 fun x1 =>
 mIf (x1 ≤ v3)
 (f_X5_digest_b56 K k QX mFuel v0 v1 0)
 (mRecv v0 6 <|
 f_X5_digestOfJumper K v0 v1 v3 (fun r2 =>
 lp33 v0 r2 (v3 + 1)) QX)
def f_X5_digest_b33 (K : Cfg) (k : Int64 → Mem → Prop) (QX : String → Mem → Prop) : Nat → Nat → Int64 → Int32 → Mem → Prop
  | 0 => fun _ _ _ _ => False
  | n + 1 => f_X5_digest_b33_body K k QX (f_X5_digest_b33 K k QX n)
def f_X5_digest_b6_body (K : Cfg) (k : Int64 → Mem → Prop) (QX : String → Mem → Prop) (lp6 : Nat → Int64 → Int32 → Mem → Prop) (v0 : Nat) (v1 : Int64) (v3 : Int32) : Mem → Prop :=
 mIf (12 < v3)
 (f_X5_digest_b33 K k QX mFuel v0 v1 0)
 (mRecv v0 6 <|
 f_X5_many K v0 v3 (fun r1 =>
 lp6 v0 ((v1 * 31) + r1.toInt64) (v3 + 1)) QX)
def f_X5_digest_b6 (K : Cfg) (k : Int64 → Mem → Prop) (QX : String → Mem → Prop) : Nat → Nat → Int64 → Int32 → Mem → Prop
  | 0 => fun _ _ _ _ => False
  | n + 1 => f_X5_digest_b6_body K k QX (f_X5_digest_b6 K k QX n)
def f_X5_digest (K : Cfg) (a0 : Nat) (k : Int64 → Mem → Prop) (QX : String → Mem → Prop) : Mem → Prop :=
 f_X5_digest_b6 K k QX mFuel a0 58311 0
abbrev rm_X5_digest : Room := { frames := 11, cells := 1, slots := 6, locals := 195 }
set_option maxHeartbeats 4000000 in
set_option maxRecDepth 100000 in
theorem ct_X5_digest {K : Cfg} {l : Launch} (hst : l.stackTraces = false) (a0 : Nat) : mXPl K l yX5_digest cX5_digest 4 (some .long) rm_X5_digest [.ref a0] (f_X5_digest K a0) := by
  refine mXPl.of hst (by decide +kernel) (Nat.le_of_ble_eq_true rfl) ?_
  intro M k Q QX hk hP p e s m below meth c X hr hlocks hno hM ls hl
  have hx := X.1.1
  have hb := X.1.2.1
  have X : Cx K p l s m ([.ref a0] : List Value).toArray c cX5_digest 4 RX5 := X
  have hS : va_S (mFA K) s.heap s.heap [] := va_S.rf
  have hl : lv_has ls 4 [(0, .ref a0)] := hl
  have hb79 : ∀ (n79 : Nat) (v0 : Nat) (v1 : Int64) (v3 : Int32) (M : Mem) (H : Heap) (locs : List Loc) (ls : Array Slot), mh K M H → va_S (mFA K) s.heap H locs → lv_has ls 4 [(0, .ref v0), (1, .long v1), (3, .int v3)] → f_X5_digest_b79 K k QX n79 v0 v1 v3 M → W p l e rm_X5_digest s m ([.ref a0] : List Value).toArray below meth c H locs 0 0 (vy_MQ below (mQ K Q) (mX K QX) ([.ref a0] : List Value).toArray s 0 0 1 6 (mFA K)) (F0 m 79 ls []) := by
    intro n79
    induction n79 with
    | zero =>
      intro v0 v1 v3 M H locs ls hM hS hl hP
      exact hP.elim
    | succ n79 ih79 =>
      intro v0 v1 v3 M H locs ls hM hS hl hP
      have hP : f_X5_digest_b79_body K k QX (f_X5_digest_b79 K k QX n79) v0 v1 v3 M := hP
      unfold f_X5_digest_b79_body at hP
      refine lv_iload_n hx hb dX5_digest_79 rfl (lv_at hl 2 rfl) ?_
      refine lv_bipush (v := 10) hx hb dX5_digest_80 (by decide) ?_
      refine lv_icmp_ge (tgt := 119) hx hb dX5_digest_82 (by decide) (fun hc => ?_) (fun hc => ?_)
      · have hP := mIf_t hP hc
        refine lv_lload_n hx hb dX5_digest_119 rfl (lv_at hl 1 rfl) ?_
        refine r_ldcl (v := 31) X kc_X5_277 dX5_digest_120 ?_
        refine lv_lmul hx hb dX5_digest_123 ?_
        refine lv_aload_n hx hb dX5_digest_124 rfl (lv_at hl 0 rfl) ?_
        refine lv_iconst (v := 3) hx hb dX5_digest_125 (by decide) ?_
        refine rx_callVi (rest := [.long (v1 * 31)]) (T := TX5) (N := 18) X hM hS (ct_X5_spot hst v0 3) hP mV_X5_293 rfl rfl rfl hl.1 (Nat.le_of_ble_eq_true rfl) ⟨⟨by decide, by decide⟩, by decide, by decide⟩ dX5_digest_126 (x_out hno hlocks rfl rfl) (fun r1 M H locs hM hS hP => ?_)
        refine lv_i2l hx hb dX5_digest_129 rfl ?_
        refine lv_ladd hx hb dX5_digest_130 ?_
        refine lv_lstore_n (lv' := [(1, .long ((v1 * 31) + r1.toInt64)), (0, .ref v0), (3, .int v3)]) hx hb dX5_digest_131 rfl hl (by decide) rfl (fun ls hl => ?_)
        refine lv_lload_n hx hb dX5_digest_132 rfl (lv_at hl 0 rfl) ?_
        refine r_ldcl (v := 31) X kc_X5_277 dX5_digest_133 ?_
        refine lv_lmul hx hb dX5_digest_136 ?_
        refine lv_aload_n hx hb dX5_digest_137 rfl (lv_at hl 1 rfl) ?_
        refine lv_iconst (v := 3) hx hb dX5_digest_138 (by decide) ?_
        refine lv_iconst (v := 0) hx hb dX5_digest_139 (by decide) ?_
        refine rx_callVi (rest := [.long (((v1 * 31) + r1.toInt64) * 31)]) (T := TX5) (N := 18) X hM hS (ct_X5_wouldMeet hst v0 3 0) hP mV_X5_296 rfl rfl rfl hl.1 (Nat.le_of_ble_eq_true rfl) ⟨⟨by decide, by decide⟩, by decide, by decide⟩ dX5_digest_140 (x_out hno hlocks rfl rfl) (fun r2 M H locs hM hS hP => ?_)
        refine lv_i2l hx hb dX5_digest_143 rfl ?_
        refine lv_ladd hx hb dX5_digest_144 ?_
        exact vy_ret (e_lret X hM hS (hk _ _ hP) hr hlocks (by decide) (by decide) dX5_digest_145)
      · have hP := mIf_f hP hc
        refine lv_lload_n hx hb dX5_digest_85 rfl (lv_at hl 1 rfl) ?_
        refine r_ldcl (v := 31) X kc_X5_277 dX5_digest_86 ?_
        refine lv_lmul hx hb dX5_digest_89 ?_
        refine lv_aload_n hx hb dX5_digest_90 rfl (lv_at hl 0 rfl) ?_
        refine lv_iload_n hx hb dX5_digest_91 rfl (lv_at hl 2 rfl) ?_
        refine lv_iconst (v := 0) hx hb dX5_digest_92 (by decide) ?_
        refine rx_callVi (rest := [.long (v1 * 31)]) (T := TX5) (N := 18) X hM hS (ct_X5_ofWind hst v0 v3 0) hP mV_X5_289 rfl rfl rfl hl.1 (Nat.le_of_ble_eq_true rfl) ⟨⟨by decide, by decide⟩, by decide, by decide⟩ dX5_digest_93 (x_out hno hlocks rfl rfl) (fun r3 M H locs hM hS hP => ?_)
        refine lv_i2l hx hb dX5_digest_96 rfl ?_
        refine lv_ladd hx hb dX5_digest_97 ?_
        refine lv_lstore_n (lv' := [(1, .long ((v1 * 31) + r3.toInt64)), (0, .ref v0), (3, .int v3)]) hx hb dX5_digest_98 rfl hl (by decide) rfl (fun ls hl => ?_)
        refine lv_lload_n hx hb dX5_digest_99 rfl (lv_at hl 0 rfl) ?_
        refine r_ldcl (v := 31) X kc_X5_277 dX5_digest_100 ?_
        refine lv_lmul hx hb dX5_digest_103 ?_
        refine lv_aload_n hx hb dX5_digest_104 rfl (lv_at hl 1 rfl) ?_
        refine lv_iload_n hx hb dX5_digest_105 rfl (lv_at hl 2 rfl) ?_
        refine lv_iconst (v := 1) hx hb dX5_digest_106 (by decide) ?_
        refine rx_callVi (rest := [.long (((v1 * 31) + r3.toInt64) * 31)]) (T := TX5) (N := 18) X hM hS (ct_X5_ofWind hst v0 v3 1) hP mV_X5_289 rfl rfl rfl hl.1 (Nat.le_of_ble_eq_true rfl) ⟨⟨by decide, by decide⟩, by decide, by decide⟩ dX5_digest_107 (x_out hno hlocks rfl rfl) (fun r4 M H locs hM hS hP => ?_)
        refine lv_i2l hx hb dX5_digest_110 rfl ?_
        refine lv_ladd hx hb dX5_digest_111 ?_
        refine lv_lstore_n (lv' := [(1, .long ((((v1 * 31) + r3.toInt64) * 31) + r4.toInt64)), (0, .ref v0), (3, .int v3)]) hx hb dX5_digest_112 rfl hl (by decide) rfl (fun ls hl => ?_)
        refine lv_iinc (v := v3 + 1) (lv' := [(3, .int (v3 + 1)), (1, .long ((((v1 * 31) + r3.toInt64) * 31) + r4.toInt64)), (0, .ref v0)]) hx hb dX5_digest_113 hl (k := 2) rfl rfl (by decide) rfl (fun ls hl => ?_)
        refine lv_goto (tgt := 79) hx hb dX5_digest_116 (by decide) ?_
        exact ih79 v0 ((((v1 * 31) + r3.toInt64) * 31) + r4.toInt64) (v3 + 1) _ _ _ _ hM hS (lv_sub hl [2, 1, 0] rfl) hP
  have hb56 : ∀ (n56 : Nat) (v0 : Nat) (v1 : Int64) (v3 : Int32) (M : Mem) (H : Heap) (locs : List Loc) (ls : Array Slot), mh K M H → va_S (mFA K) s.heap H locs → lv_has ls 4 [(0, .ref v0), (1, .long v1), (3, .int v3)] → f_X5_digest_b56 K k QX n56 v0 v1 v3 M → W p l e rm_X5_digest s m ([.ref a0] : List Value).toArray below meth c H locs 0 0 (vy_MQ below (mQ K Q) (mX K QX) ([.ref a0] : List Value).toArray s 0 0 1 6 (mFA K)) (F0 m 56 ls []) := by
    intro n56
    induction n56 with
    | zero =>
      intro v0 v1 v3 M H locs ls hM hS hl hP
      exact hP.elim
    | succ n56 ih56 =>
      intro v0 v1 v3 M H locs ls hM hS hl hP
      have hP : f_X5_digest_b56_body K k QX (f_X5_digest_b56 K k QX n56) v0 v1 v3 M := hP
      unfold f_X5_digest_b56_body at hP
      refine lv_iload_n hx hb dX5_digest_56 rfl (lv_at hl 2 rfl) ?_
      refine lv_aload_n hx hb dX5_digest_57 rfl (lv_at hl 0 rfl) ?_
      refine r_geti X hM hP fl_X5_25 dX5_digest_58 (fun x1 hP => ?_)
      refine lv_icmp_ge (tgt := 77) hx hb dX5_digest_61 (by decide) (fun hc => ?_) (fun hc => ?_)
      · have hP := mIf_t hP hc
        refine lv_iconst (v := 0) hx hb dX5_digest_77 (by decide) ?_
        refine lv_istore_n (lv' := [(3, .int 0), (0, .ref v0), (1, .long v1)]) hx hb dX5_digest_78 rfl hl (by decide) rfl (fun ls hl => ?_)
        exact hb79 mFuel v0 v1 0 _ _ _ _ hM hS (lv_sub hl [1, 2, 0] rfl) hP
      · have hP := mIf_f hP hc
        refine lv_aload_n hx hb dX5_digest_64 rfl (lv_at hl 0 rfl) ?_
        refine lv_lload_n hx hb dX5_digest_65 rfl (lv_at hl 1 rfl) ?_
        refine lv_iload_n hx hb dX5_digest_66 rfl (lv_at hl 2 rfl) ?_
        refine rx_callVl (rest := []) (T := TX5) (N := 18) X hM hS (ct_X5_digestOfRig hst v0 v1 v3) hP mV_X5_286 rfl rfl rfl hl.1 (Nat.le_of_ble_eq_true rfl) ⟨⟨by decide, by decide⟩, by decide, by decide⟩ dX5_digest_67 (x_out hno hlocks rfl rfl) (fun r2 M H locs hM hS hP => ?_)
        refine lv_lstore_n (lv' := [(1, .long r2), (0, .ref v0), (3, .int v3)]) hx hb dX5_digest_70 rfl hl (by decide) rfl (fun ls hl => ?_)
        refine lv_iinc (v := v3 + 1) (lv' := [(3, .int (v3 + 1)), (1, .long r2), (0, .ref v0)]) hx hb dX5_digest_71 hl (k := 2) rfl rfl (by decide) rfl (fun ls hl => ?_)
        refine lv_goto (tgt := 56) hx hb dX5_digest_74 (by decide) ?_
        exact ih56 v0 r2 (v3 + 1) _ _ _ _ hM hS (lv_sub hl [2, 1, 0] rfl) hP
  have hb33 : ∀ (n33 : Nat) (v0 : Nat) (v1 : Int64) (v3 : Int32) (M : Mem) (H : Heap) (locs : List Loc) (ls : Array Slot), mh K M H → va_S (mFA K) s.heap H locs → lv_has ls 4 [(0, .ref v0), (1, .long v1), (3, .int v3)] → f_X5_digest_b33 K k QX n33 v0 v1 v3 M → W p l e rm_X5_digest s m ([.ref a0] : List Value).toArray below meth c H locs 0 0 (vy_MQ below (mQ K Q) (mX K QX) ([.ref a0] : List Value).toArray s 0 0 1 6 (mFA K)) (F0 m 33 ls []) := by
    intro n33
    induction n33 with
    | zero =>
      intro v0 v1 v3 M H locs ls hM hS hl hP
      exact hP.elim
    | succ n33 ih33 =>
      intro v0 v1 v3 M H locs ls hM hS hl hP
      have hP : f_X5_digest_b33_body K k QX (f_X5_digest_b33 K k QX n33) v0 v1 v3 M := hP
      unfold f_X5_digest_b33_body at hP
      refine lv_iload_n hx hb dX5_digest_33 rfl (lv_at hl 2 rfl) ?_
      refine lv_aload_n hx hb dX5_digest_34 rfl (lv_at hl 0 rfl) ?_
      refine r_geti X hM hP fl_X5_15 dX5_digest_35 (fun x1 hP => ?_)
      refine lv_icmp_ge (tgt := 54) hx hb dX5_digest_38 (by decide) (fun hc => ?_) (fun hc => ?_)
      · have hP := mIf_t hP hc
        refine lv_iconst (v := 0) hx hb dX5_digest_54 (by decide) ?_
        refine lv_istore_n (lv' := [(3, .int 0), (0, .ref v0), (1, .long v1)]) hx hb dX5_digest_55 rfl hl (by decide) rfl (fun ls hl => ?_)
        exact hb56 mFuel v0 v1 0 _ _ _ _ hM hS (lv_sub hl [1, 2, 0] rfl) hP
      · have hP := mIf_f hP hc
        refine lv_aload_n hx hb dX5_digest_41 rfl (lv_at hl 0 rfl) ?_
        refine lv_lload_n hx hb dX5_digest_42 rfl (lv_at hl 1 rfl) ?_
        refine lv_iload_n hx hb dX5_digest_43 rfl (lv_at hl 2 rfl) ?_
        refine rx_callVl (rest := []) (T := TX5) (N := 18) X hM hS (ct_X5_digestOfJumper hst v0 v1 v3) hP mV_X5_282 rfl rfl rfl hl.1 (Nat.le_of_ble_eq_true rfl) ⟨⟨by decide, by decide⟩, by decide, by decide⟩ dX5_digest_44 (x_out hno hlocks rfl rfl) (fun r2 M H locs hM hS hP => ?_)
        refine lv_lstore_n (lv' := [(1, .long r2), (0, .ref v0), (3, .int v3)]) hx hb dX5_digest_47 rfl hl (by decide) rfl (fun ls hl => ?_)
        refine lv_iinc (v := v3 + 1) (lv' := [(3, .int (v3 + 1)), (1, .long r2), (0, .ref v0)]) hx hb dX5_digest_48 hl (k := 2) rfl rfl (by decide) rfl (fun ls hl => ?_)
        refine lv_goto (tgt := 33) hx hb dX5_digest_51 (by decide) ?_
        exact ih33 v0 r2 (v3 + 1) _ _ _ _ hM hS (lv_sub hl [2, 1, 0] rfl) hP
  have hb6 : ∀ (n6 : Nat) (v0 : Nat) (v1 : Int64) (v3 : Int32) (M : Mem) (H : Heap) (locs : List Loc) (ls : Array Slot), mh K M H → va_S (mFA K) s.heap H locs → lv_has ls 4 [(0, .ref v0), (1, .long v1), (3, .int v3)] → f_X5_digest_b6 K k QX n6 v0 v1 v3 M → W p l e rm_X5_digest s m ([.ref a0] : List Value).toArray below meth c H locs 0 0 (vy_MQ below (mQ K Q) (mX K QX) ([.ref a0] : List Value).toArray s 0 0 1 6 (mFA K)) (F0 m 6 ls []) := by
    intro n6
    induction n6 with
    | zero =>
      intro v0 v1 v3 M H locs ls hM hS hl hP
      exact hP.elim
    | succ n6 ih6 =>
      intro v0 v1 v3 M H locs ls hM hS hl hP
      have hP : f_X5_digest_b6_body K k QX (f_X5_digest_b6 K k QX n6) v0 v1 v3 M := hP
      unfold f_X5_digest_b6_body at hP
      refine lv_iload_n hx hb dX5_digest_6 rfl (lv_at hl 2 rfl) ?_
      refine lv_bipush (v := 12) hx hb dX5_digest_7 (by decide) ?_
      refine lv_icmp_gt (tgt := 31) hx hb dX5_digest_9 (by decide) (fun hc => ?_) (fun hc => ?_)
      · have hP := mIf_t hP hc
        refine lv_iconst (v := 0) hx hb dX5_digest_31 (by decide) ?_
        refine lv_istore_n (lv' := [(3, .int 0), (0, .ref v0), (1, .long v1)]) hx hb dX5_digest_32 rfl hl (by decide) rfl (fun ls hl => ?_)
        exact hb33 mFuel v0 v1 0 _ _ _ _ hM hS (lv_sub hl [1, 2, 0] rfl) hP
      · have hP := mIf_f hP hc
        refine lv_lload_n hx hb dX5_digest_12 rfl (lv_at hl 1 rfl) ?_
        refine r_ldcl (v := 31) X kc_X5_277 dX5_digest_13 ?_
        refine lv_lmul hx hb dX5_digest_16 ?_
        refine lv_aload_n hx hb dX5_digest_17 rfl (lv_at hl 0 rfl) ?_
        refine lv_iload_n hx hb dX5_digest_18 rfl (lv_at hl 2 rfl) ?_
        refine rx_callVi (rest := [.long (v1 * 31)]) (T := TX5) (N := 18) X hM hS (ct_X5_many hst v0 v3) hP mV_X5_279 rfl rfl rfl hl.1 (Nat.le_of_ble_eq_true rfl) ⟨⟨by decide, by decide⟩, by decide, by decide⟩ dX5_digest_19 (x_out hno hlocks rfl rfl) (fun r1 M H locs hM hS hP => ?_)
        refine lv_i2l hx hb dX5_digest_22 rfl ?_
        refine lv_ladd hx hb dX5_digest_23 ?_
        refine lv_lstore_n (lv' := [(1, .long ((v1 * 31) + r1.toInt64)), (0, .ref v0), (3, .int v3)]) hx hb dX5_digest_24 rfl hl (by decide) rfl (fun ls hl => ?_)
        refine lv_iinc (v := v3 + 1) (lv' := [(3, .int (v3 + 1)), (1, .long ((v1 * 31) + r1.toInt64)), (0, .ref v0)]) hx hb dX5_digest_25 hl (k := 2) rfl rfl (by decide) rfl (fun ls hl => ?_)
        refine lv_goto (tgt := 6) hx hb dX5_digest_28 (by decide) ?_
        exact ih6 v0 ((v1 * 31) + r1.toInt64) (v3 + 1) _ _ _ _ hM hS (lv_sub hl [2, 1, 0] rfl) hP
  unfold f_X5_digest at hP
  refine r_ldcl (v := 58311) X kc_X5_275 dX5_digest_0 ?_
  refine lv_lstore_n (lv' := [(1, .long 58311), (0, .ref a0)]) hx hb dX5_digest_3 rfl hl (by decide) rfl (fun ls hl => ?_)
  refine lv_iconst (v := 0) hx hb dX5_digest_4 (by decide) ?_
  refine lv_istore_n (lv' := [(3, .int 0), (1, .long 58311), (0, .ref a0)]) hx hb dX5_digest_5 rfl hl (by decide) rfl (fun ls hl => ?_)
  exact hb6 mFuel a0 58311 0 _ _ _ _ hM hS (lv_sub hl [2, 1, 0] rfl) hP
