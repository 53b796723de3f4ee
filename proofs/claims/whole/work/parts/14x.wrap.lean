def f_L_jumper (K : Cfg) (a0 : Nat) (a1 : Int32) (a2 : Int32) (a3 : Nat) (k : Int32 → Mem → Prop) : Mem → Prop :=
 mRecv a0 6 <|
 f_X5_jumper K a0 a1 a2 (fun r =>
 mStL K a3 0 r.toInt64 <|
 k 0) (fun E M => (E = "java/lang/IllegalArgumentException" ∧ k 1 M) ∨ (E = "java/lang/IllegalStateException" ∧ k 2 M))
abbrev rm_L_jumper : Room := { frames := 8, cells := 1, slots := 6, locals := 127 }
set_option maxHeartbeats 4000000 in
set_option maxRecDepth 100000 in
theorem ct_L_jumper {K : Cfg} {l : Launch} (hst : l.stackTraces = false) (a0 : Nat) (a1 : Int32) (a2 : Int32) (a3 : Nat) : mPW K l yL_jumper cL_jumper 5 (some .int) [(0, 10, 13, 13), (0, 10, 17, 15)] rm_L_jumper [.ref a0, .int a1, .int a2, .ref a3] (f_L_jumper K a0 a1 a2 a3) := by
  refine mPW.of hst (by decide +kernel) (Nat.le_of_ble_eq_true rfl) ?_
  intro M k Q hk hP p e s m below meth c X hr hlocks htab hM ls hl
  have hx := X.1.1
  have hb := X.1.2.1
  have hown := X.1.2.2.2.1
  have hts := X.1.2.2.2.2
  have X : Cx K p l s m ([.ref a0, .int a1, .int a2, .ref a3] : List Value).toArray c cL_jumper 5 RL := X
  have hS : va_S (mFA K) s.heap s.heap [] := va_S.rf
  have hl : lv_has ls 5 [(0, .ref a0), (1, .int a1), (2, .int a2), (3, .ref a3)] := hl
  unfold f_L_jumper at hP
  refine lv_aload_n hx hb dL_jumper_0 rfl (lv_at hl 3 rfl) ?_
  refine lv_iconst (v := 0) hx hb dL_jumper_1 (by decide) ?_
  refine lv_aload_n hx hb dL_jumper_2 rfl (lv_at hl 0 rfl) ?_
  refine lv_iload_n hx hb dL_jumper_3 rfl (lv_at hl 1 rfl) ?_
  refine lv_iload_n hx hb dL_jumper_4 rfl (lv_at hl 2 rfl) ?_
  refine rx_callVi (rest := [.int 0, .ref a3]) (T := TX5) (N := 18) X hM hS (ct_X5_jumper hst a0 a1 a2) hP mV_L_7 rfl rfl rfl hl.1 (Nat.le_of_ble_eq_true rfl) ⟨⟨by decide, by decide⟩, by decide, by decide⟩ dL_jumper_5 ?_ (fun r M H locs hM hS hP => ?_)
  · intro E ce q9 M H locs hM hS hq hce hcv hcl
    rcases hq with ⟨rfl, hP⟩ | ⟨rfl, hP⟩
    · refine vx_catch (name := "java/lang/IllegalArgumentException") hown [] ⟨0, 10, 13, 13⟩ [⟨0, 10, 17, 15⟩] (htab.trans rfl) ?_ (by decide) (by decide) (hts _ lc_13) (va_Nw.use rfl (X.2.1.2.2.1.2.2.1 _ (List.mem_of_getElem? (i := 1) rfl))) hce hcv hcl ?_
      · intro z hz
        exact absurd hz List.not_mem_nil
      · refine lv_astore (lv' := [(4, .ref q9), (0, .ref a0), (1, .int a1), (2, .int a2), (3, .ref a3)]) hx hb dL_jumper_13 hl (by decide) rfl (fun ls hl => ?_)
        refine lv_iconst (v := 1) hx hb dL_jumper_15 (by decide) ?_
        exact e_iret X hM hS (hk _ _ hP) hr hlocks (by decide) (by decide) dL_jumper_16
    · refine vx_catch (name := "java/lang/IllegalStateException") hown [⟨0, 10, 13, 13⟩] ⟨0, 10, 17, 15⟩ [] (htab.trans rfl) ?_ (by decide) (by decide) (hts _ lc_15) (va_Nw.use rfl (X.2.1.2.2.1.2.2.1 _ (List.mem_of_getElem? (i := 0) rfl))) hce hcv hcl ?_
      · intro z hz
        simp only [List.mem_cons, List.not_mem_nil, or_false] at hz
        subst hz
        exact Or.inr ⟨by decide, _, hts _ lc_13, X.2.1.2.2.2.1.2.2.2.2 _ (List.mem_of_getElem? (i := 0) rfl)⟩
      · refine lv_astore (lv' := [(4, .ref q9), (0, .ref a0), (1, .int a1), (2, .int a2), (3, .ref a3)]) hx hb dL_jumper_17 hl (by decide) rfl (fun ls hl => ?_)
        refine lv_iconst (v := 2) hx hb dL_jumper_19 (by decide) ?_
        exact e_iret X hM hS (hk _ _ hP) hr hlocks (by decide) (by decide) dL_jumper_20
  · refine lv_i2l hx hb dL_jumper_8 rfl ?_
    refine r_stl X hM hS hP dL_jumper_9 (fun M H locs hM hS hP => ?_)
    refine lv_goto (tgt := 21) hx hb dL_jumper_10 (by decide) ?_
    refine lv_iconst (v := 0) hx hb dL_jumper_21 (by decide) ?_
    exact e_iret X hM hS (hk _ _ hP) hr hlocks (by decide) (by decide) dL_jumper_22
def f_L_rig (K : Cfg) (a0 : Nat) (a1 : Int32) (a2 : Int32) (a3 : Nat) (k : Int32 → Mem → Prop) : Mem → Prop :=
 mRecv a0 6 <|
 f_X5_rig K a0 a1 a2 (fun r =>
 mStL K a3 0 r.toInt64 <|
 k 0) (fun E M => (E = "java/lang/IllegalArgumentException" ∧ k 1 M) ∨ (E = "java/lang/IllegalStateException" ∧ k 2 M))
abbrev rm_L_rig : Room := { frames := 8, cells := 1, slots := 6, locals := 127 }
set_option maxHeartbeats 4000000 in
set_option maxRecDepth 100000 in
theorem ct_L_rig {K : Cfg} {l : Launch} (hst : l.stackTraces = false) (a0 : Nat) (a1 : Int32) (a2 : Int32) (a3 : Nat) : mPW K l yL_rig cL_rig 5 (some .int) [(0, 10, 13, 13), (0, 10, 17, 15)] rm_L_rig [.ref a0, .int a1, .int a2, .ref a3] (f_L_rig K a0 a1 a2 a3) := by
  refine mPW.of hst (by decide +kernel) (Nat.le_of_ble_eq_true rfl) ?_
  intro M k Q hk hP p e s m below meth c X hr hlocks htab hM ls hl
  have hx := X.1.1
  have hb := X.1.2.1
  have hown := X.1.2.2.2.1
  have hts := X.1.2.2.2.2
  have X : Cx K p l s m ([.ref a0, .int a1, .int a2, .ref a3] : List Value).toArray c cL_rig 5 RL := X
  have hS : va_S (mFA K) s.heap s.heap [] := va_S.rf
  have hl : lv_has ls 5 [(0, .ref a0), (1, .int a1), (2, .int a2), (3, .ref a3)] := hl
  unfold f_L_rig at hP
  refine lv_aload_n hx hb dL_rig_0 rfl (lv_at hl 3 rfl) ?_
  refine lv_iconst (v := 0) hx hb dL_rig_1 (by decide) ?_
  refine lv_aload_n hx hb dL_rig_2 rfl (lv_at hl 0 rfl) ?_
  refine lv_iload_n hx hb dL_rig_3 rfl (lv_at hl 1 rfl) ?_
  refine lv_iload_n hx hb dL_rig_4 rfl (lv_at hl 2 rfl) ?_
  refine rx_callVi (rest := [.int 0, .ref a3]) (T := TX5) (N := 18) X hM hS (ct_X5_rig hst a0 a1 a2) hP mV_L_17 rfl rfl rfl hl.1 (Nat.le_of_ble_eq_true rfl) ⟨⟨by decide, by decide⟩, by decide, by decide⟩ dL_rig_5 ?_ (fun r M H locs hM hS hP => ?_)
  · intro E ce q9 M H locs hM hS hq hce hcv hcl
    rcases hq with ⟨rfl, hP⟩ | ⟨rfl, hP⟩
    · refine vx_catch (name := "java/lang/IllegalArgumentException") hown [] ⟨0, 10, 13, 13⟩ [⟨0, 10, 17, 15⟩] (htab.trans rfl) ?_ (by decide) (by decide) (hts _ lc_13) (va_Nw.use rfl (X.2.1.2.2.1.2.2.1 _ (List.mem_of_getElem? (i := 1) rfl))) hce hcv hcl ?_
      · intro z hz
        exact absurd hz List.not_mem_nil
      · refine lv_astore (lv' := [(4, .ref q9), (0, .ref a0), (1, .int a1), (2, .int a2), (3, .ref a3)]) hx hb dL_rig_13 hl (by decide) rfl (fun ls hl => ?_)
        refine lv_iconst (v := 1) hx hb dL_rig_15 (by decide) ?_
        exact e_iret X hM hS (hk _ _ hP) hr hlocks (by decide) (by decide) dL_rig_16
    · refine vx_catch (name := "java/lang/IllegalStateException") hown [⟨0, 10, 13, 13⟩] ⟨0, 10, 17, 15⟩ [] (htab.trans rfl) ?_ (by decide) (by decide) (hts _ lc_15) (va_Nw.use rfl (X.2.1.2.2.1.2.2.1 _ (List.mem_of_getElem? (i := 0) rfl))) hce hcv hcl ?_
      · intro z hz
        simp only [List.mem_cons, List.not_mem_nil, or_false] at hz
        subst hz
        exact Or.inr ⟨by decide, _, hts _ lc_13, X.2.1.2.2.2.1.2.2.2.2 _ (List.mem_of_getElem? (i := 0) rfl)⟩
      · refine lv_astore (lv' := [(4, .ref q9), (0, .ref a0), (1, .int a1), (2, .int a2), (3, .ref a3)]) hx hb dL_rig_17 hl (by decide) rfl (fun ls hl => ?_)
        refine lv_iconst (v := 2) hx hb dL_rig_19 (by decide) ?_
        exact e_iret X hM hS (hk _ _ hP) hr hlocks (by decide) (by decide) dL_rig_20
  · refine lv_i2l hx hb dL_rig_8 rfl ?_
    refine r_stl X hM hS hP dL_rig_9 (fun M H locs hM hS hP => ?_)
    refine lv_goto (tgt := 21) hx hb dL_rig_10 (by decide) ?_
    refine lv_iconst (v := 0) hx hb dL_rig_21 (by decide) ?_
    exact e_iret X hM hS (hk _ _ hP) hr hlocks (by decide) (by decide) dL_rig_22
def f_L_lend (K : Cfg) (a0 : Nat) (a1 : Int32) (a2 : Int32) (a3 : Nat) (k : Int32 → Mem → Prop) : Mem → Prop :=
 mRecv a0 6 <|
 f_X5_lend K a0 a1 a2 (fun r =>
 mStL K a3 0 r.toInt64 <|
 k 0) (fun E M => (E = "java/lang/IndexOutOfBoundsException" ∧ k 1 M) ∨ (E = "java/lang/IllegalStateException" ∧ k 2 M))
abbrev rm_L_lend : Room := { frames := 9, cells := 1, slots := 6, locals := 149 }
set_option maxHeartbeats 4000000 in
set_option maxRecDepth 100000 in
theorem ct_L_lend {K : Cfg} {l : Launch} (hst : l.stackTraces = false) (a0 : Nat) (a1 : Int32) (a2 : Int32) (a3 : Nat) : mPW K l yL_lend cL_lend 5 (some .int) [(0, 10, 13, 23), (0, 10, 17, 15)] rm_L_lend [.ref a0, .int a1, .int a2, .ref a3] (f_L_lend K a0 a1 a2 a3) := by
  refine mPW.of hst (by decide +kernel) (Nat.le_of_ble_eq_true rfl) ?_
  intro M k Q hk hP p e s m below meth c X hr hlocks htab hM ls hl
  have hx := X.1.1
  have hb := X.1.2.1
  have hown := X.1.2.2.2.1
  have hts := X.1.2.2.2.2
  have X : Cx K p l s m ([.ref a0, .int a1, .int a2, .ref a3] : List Value).toArray c cL_lend 5 RL := X
  have hS : va_S (mFA K) s.heap s.heap [] := va_S.rf
  have hl : lv_has ls 5 [(0, .ref a0), (1, .int a1), (2, .int a2), (3, .ref a3)] := hl
  unfold f_L_lend at hP
  refine lv_aload_n hx hb dL_lend_0 rfl (lv_at hl 3 rfl) ?_
  refine lv_iconst (v := 0) hx hb dL_lend_1 (by decide) ?_
  refine lv_aload_n hx hb dL_lend_2 rfl (lv_at hl 0 rfl) ?_
  refine lv_iload_n hx hb dL_lend_3 rfl (lv_at hl 1 rfl) ?_
  refine lv_iload_n hx hb dL_lend_4 rfl (lv_at hl 2 rfl) ?_
  refine rx_callVi (rest := [.int 0, .ref a3]) (T := TX5) (N := 18) X hM hS (ct_X5_lend hst a0 a1 a2) hP mV_L_20 rfl rfl rfl hl.1 (Nat.le_of_ble_eq_true rfl) ⟨⟨by decide, by decide⟩, by decide, by decide⟩ dL_lend_5 ?_ (fun r M H locs hM hS hP => ?_)
  · intro E ce q9 M H locs hM hS hq hce hcv hcl
    rcases hq with ⟨rfl, hP⟩ | ⟨rfl, hP⟩
    · refine vx_catch (name := "java/lang/IndexOutOfBoundsException") hown [] ⟨0, 10, 13, 23⟩ [⟨0, 10, 17, 15⟩] (htab.trans rfl) ?_ (by decide) (by decide) (hts _ lc_23) (va_Nw.use rfl (X.2.1.2.2.1.2.2.1 _ (List.mem_of_getElem? (i := 2) rfl))) hce hcv hcl ?_
      · intro z hz
        exact absurd hz List.not_mem_nil
      · refine lv_astore (lv' := [(4, .ref q9), (0, .ref a0), (1, .int a1), (2, .int a2), (3, .ref a3)]) hx hb dL_lend_13 hl (by decide) rfl (fun ls hl => ?_)
        refine lv_iconst (v := 1) hx hb dL_lend_15 (by decide) ?_
        exact e_iret X hM hS (hk _ _ hP) hr hlocks (by decide) (by decide) dL_lend_16
    · refine vx_catch (name := "java/lang/IllegalStateException") hown [⟨0, 10, 13, 23⟩] ⟨0, 10, 17, 15⟩ [] (htab.trans rfl) ?_ (by decide) (by decide) (hts _ lc_15) (va_Nw.use rfl (X.2.1.2.2.1.2.2.1 _ (List.mem_of_getElem? (i := 0) rfl))) hce hcv hcl ?_
      · intro z hz
        simp only [List.mem_cons, List.not_mem_nil, or_false] at hz
        subst hz
        exact Or.inr ⟨by decide, _, hts _ lc_23, X.2.1.2.2.2.1.2.2.2.2 _ (List.mem_of_getElem? (i := 1) rfl)⟩
      · refine lv_astore (lv' := [(4, .ref q9), (0, .ref a0), (1, .int a1), (2, .int a2), (3, .ref a3)]) hx hb dL_lend_17 hl (by decide) rfl (fun ls hl => ?_)
        refine lv_iconst (v := 2) hx hb dL_lend_19 (by decide) ?_
        exact e_iret X hM hS (hk _ _ hP) hr hlocks (by decide) (by decide) dL_lend_20
  · refine lv_i2l hx hb dL_lend_8 rfl ?_
    refine r_stl X hM hS hP dL_lend_9 (fun M H locs hM hS hP => ?_)
    refine lv_goto (tgt := 21) hx hb dL_lend_10 (by decide) ?_
    refine lv_iconst (v := 0) hx hb dL_lend_21 (by decide) ?_
    exact e_iret X hM hS (hk _ _ hP) hr hlocks (by decide) (by decide) dL_lend_22
def f_L_pack (K : Cfg) (a0 : Nat) (a1 : Int32) (a2 : Int32) (a3 : Nat) (k : Int32 → Mem → Prop) : Mem → Prop :=
 mRecv a0 6 <|
 f_X5_pack K a0 a1 a2 (fun r =>
 mStL K a3 0 r.toInt64 <|
 k 0) (fun E M => (E = "java/lang/IndexOutOfBoundsException" ∧ k 1 M) ∨ (E = "java/lang/IllegalStateException" ∧ k 2 M))
abbrev rm_L_pack : Room := { frames := 8, cells := 1, slots := 6, locals := 127 }
set_option maxHeartbeats 4000000 in
set_option maxRecDepth 100000 in
theorem ct_L_pack {K : Cfg} {l : Launch} (hst : l.stackTraces = false) (a0 : Nat) (a1 : Int32) (a2 : Int32) (a3 : Nat) : mPW K l yL_pack cL_pack 5 (some .int) [(0, 10, 13, 23), (0, 10, 17, 15)] rm_L_pack [.ref a0, .int a1, .int a2, .ref a3] (f_L_pack K a0 a1 a2 a3) := by
  refine mPW.of hst (by decide +kernel) (Nat.le_of_ble_eq_true rfl) ?_
  intro M k Q hk hP p e s m below meth c X hr hlocks htab hM ls hl
  have hx := X.1.1
  have hb := X.1.2.1
  have hown := X.1.2.2.2.1
  have hts := X.1.2.2.2.2
  have X : Cx K p l s m ([.ref a0, .int a1, .int a2, .ref a3] : List Value).toArray c cL_pack 5 RL := X
  have hS : va_S (mFA K) s.heap s.heap [] := va_S.rf
  have hl : lv_has ls 5 [(0, .ref a0), (1, .int a1), (2, .int a2), (3, .ref a3)] := hl
  unfold f_L_pack at hP
  refine lv_aload_n hx hb dL_pack_0 rfl (lv_at hl 3 rfl) ?_
  refine lv_iconst (v := 0) hx hb dL_pack_1 (by decide) ?_
  refine lv_aload_n hx hb dL_pack_2 rfl (lv_at hl 0 rfl) ?_
  refine lv_iload_n hx hb dL_pack_3 rfl (lv_at hl 1 rfl) ?_
  refine lv_iload_n hx hb dL_pack_4 rfl (lv_at hl 2 rfl) ?_
  refine rx_callVi (rest := [.int 0, .ref a3]) (T := TX5) (N := 18) X hM hS (ct_X5_pack hst a0 a1 a2) hP mV_L_25 rfl rfl rfl hl.1 (Nat.le_of_ble_eq_true rfl) ⟨⟨by decide, by decide⟩, by decide, by decide⟩ dL_pack_5 ?_ (fun r M H locs hM hS hP => ?_)
  · intro E ce q9 M H locs hM hS hq hce hcv hcl
    rcases hq with ⟨rfl, hP⟩ | ⟨rfl, hP⟩
    · refine vx_catch (name := "java/lang/IndexOutOfBoundsException") hown [] ⟨0, 10, 13, 23⟩ [⟨0, 10, 17, 15⟩] (htab.trans rfl) ?_ (by decide) (by decide) (hts _ lc_23) (va_Nw.use rfl (X.2.1.2.2.1.2.2.1 _ (List.mem_of_getElem? (i := 2) rfl))) hce hcv hcl ?_
      · intro z hz
        exact absurd hz List.not_mem_nil
      · refine lv_astore (lv' := [(4, .ref q9), (0, .ref a0), (1, .int a1), (2, .int a2), (3, .ref a3)]) hx hb dL_pack_13 hl (by decide) rfl (fun ls hl => ?_)
        refine lv_iconst (v := 1) hx hb dL_pack_15 (by decide) ?_
        exact e_iret X hM hS (hk _ _ hP) hr hlocks (by decide) (by decide) dL_pack_16
    · refine vx_catch (name := "java/lang/IllegalStateException") hown [⟨0, 10, 13, 23⟩] ⟨0, 10, 17, 15⟩ [] (htab.trans rfl) ?_ (by decide) (by decide) (hts _ lc_15) (va_Nw.use rfl (X.2.1.2.2.1.2.2.1 _ (List.mem_of_getElem? (i := 0) rfl))) hce hcv hcl ?_
      · intro z hz
        simp only [List.mem_cons, List.not_mem_nil, or_false] at hz
        subst hz
        exact Or.inr ⟨by decide, _, hts _ lc_23, X.2.1.2.2.2.1.2.2.2.2 _ (List.mem_of_getElem? (i := 1) rfl)⟩
      · refine lv_astore (lv' := [(4, .ref q9), (0, .ref a0), (1, .int a1), (2, .int a2), (3, .ref a3)]) hx hb dL_pack_17 hl (by decide) rfl (fun ls hl => ?_)
        refine lv_iconst (v := 2) hx hb dL_pack_19 (by decide) ?_
        exact e_iret X hM hS (hk _ _ hP) hr hlocks (by decide) (by decide) dL_pack_20
  · refine lv_i2l hx hb dL_pack_8 rfl ?_
    refine r_stl X hM hS hP dL_pack_9 (fun M H locs hM hS hP => ?_)
    refine lv_goto (tgt := 21) hx hb dL_pack_10 (by decide) ?_
    refine lv_iconst (v := 0) hx hb dL_pack_21 (by decide) ?_
    exact e_iret X hM hS (hk _ _ hP) hr hlocks (by decide) (by decide) dL_pack_22
def f_L_renew (K : Cfg) (a0 : Nat) (a1 : Int32) (a2 : Nat) (k : Int32 → Mem → Prop) : Mem → Prop :=
 mRecv a0 6 <|
 f_X5_renew K a0 a1 (fun r =>
 mStL K a2 0 r.toInt64 <|
 k 0) (fun E M => (E = "java/lang/IndexOutOfBoundsException" ∧ k 1 M))
abbrev rm_L_renew : Room := { frames := 8, cells := 1, slots := 6, locals := 125 }
set_option maxHeartbeats 4000000 in
set_option maxRecDepth 100000 in
theorem ct_L_renew {K : Cfg} {l : Launch} (hst : l.stackTraces = false) (a0 : Nat) (a1 : Int32) (a2 : Nat) : mPW K l yL_renew cL_renew 4 (some .int) [(0, 9, 12, 23)] rm_L_renew [.ref a0, .int a1, .ref a2] (f_L_renew K a0 a1 a2) := by
  refine mPW.of hst (by decide +kernel) (Nat.le_of_ble_eq_true rfl) ?_
  intro M k Q hk hP p e s m below meth c X hr hlocks htab hM ls hl
  have hx := X.1.1
  have hb := X.1.2.1
  have hown := X.1.2.2.2.1
  have hts := X.1.2.2.2.2
  have X : Cx K p l s m ([.ref a0, .int a1, .ref a2] : List Value).toArray c cL_renew 4 RL := X
  have hS : va_S (mFA K) s.heap s.heap [] := va_S.rf
  have hl : lv_has ls 4 [(0, .ref a0), (1, .int a1), (2, .ref a2)] := hl
  unfold f_L_renew at hP
  refine lv_aload_n hx hb dL_renew_0 rfl (lv_at hl 2 rfl) ?_
  refine lv_iconst (v := 0) hx hb dL_renew_1 (by decide) ?_
  refine lv_aload_n hx hb dL_renew_2 rfl (lv_at hl 0 rfl) ?_
  refine lv_iload_n hx hb dL_renew_3 rfl (lv_at hl 1 rfl) ?_
  refine rx_callVi (rest := [.int 0, .ref a2]) (T := TX5) (N := 18) X hM hS (ct_X5_renew hst a0 a1) hP mV_L_28 rfl rfl rfl hl.1 (Nat.le_of_ble_eq_true rfl) ⟨⟨by decide, by decide⟩, by decide, by decide⟩ dL_renew_4 ?_ (fun r M H locs hM hS hP => ?_)
  · intro E ce q9 M H locs hM hS hq hce hcv hcl
    obtain ⟨rfl, hP⟩ := hq
    refine vx_catch (name := "java/lang/IndexOutOfBoundsException") hown [] ⟨0, 9, 12, 23⟩ [] (htab.trans rfl) ?_ (by decide) (by decide) (hts _ lc_23) (va_Nw.use rfl (X.2.1.2.2.1.2.2.1 _ (List.mem_of_getElem? (i := 2) rfl))) hce hcv hcl ?_
    · intro z hz
      exact absurd hz List.not_mem_nil
    · refine lv_astore_n (lv' := [(3, .ref q9), (0, .ref a0), (1, .int a1), (2, .ref a2)]) hx hb dL_renew_12 rfl hl (by decide) rfl (fun ls hl => ?_)
      refine lv_iconst (v := 1) hx hb dL_renew_13 (by decide) ?_
      exact e_iret X hM hS (hk _ _ hP) hr hlocks (by decide) (by decide) dL_renew_14
  · refine lv_i2l hx hb dL_renew_7 rfl ?_
    refine r_stl X hM hS hP dL_renew_8 (fun M H locs hM hS hP => ?_)
    refine lv_goto (tgt := 15) hx hb dL_renew_9 (by decide) ?_
    refine lv_iconst (v := 0) hx hb dL_renew_15 (by decide) ?_
    exact e_iret X hM hS (hk _ _ hP) hr hlocks (by decide) (by decide) dL_renew_16
def f_L_pass (K : Cfg) (a0 : Nat) (a1 : Int32) (a2 : Nat) (k : Int32 → Mem → Prop) : Mem → Prop :=
 mRecv a0 6 <|
 f_X5_pass K a0 a1 (fun r =>
 mStL K a2 0 r.toInt64 <|
 k 0) (fun E M => (E = "java/lang/IllegalArgumentException" ∧ k 1 M) ∨ (E = "java/lang/IllegalStateException" ∧ k 2 M))
abbrev rm_L_pass : Room := { frames := 8, cells := 1, slots := 6, locals := 126 }
set_option maxHeartbeats 4000000 in
set_option maxRecDepth 100000 in
theorem ct_L_pass {K : Cfg} {l : Launch} (hst : l.stackTraces = false) (a0 : Nat) (a1 : Int32) (a2 : Nat) : mPW K l yL_pass cL_pass 4 (some .int) [(0, 9, 12, 13), (0, 9, 15, 15)] rm_L_pass [.ref a0, .int a1, .ref a2] (f_L_pass K a0 a1 a2) := by
  refine mPW.of hst (by decide +kernel) (Nat.le_of_ble_eq_true rfl) ?_
  intro M k Q hk hP p e s m below meth c X hr hlocks htab hM ls hl
  have hx := X.1.1
  have hb := X.1.2.1
  have hown := X.1.2.2.2.1
  have hts := X.1.2.2.2.2
  have X : Cx K p l s m ([.ref a0, .int a1, .ref a2] : List Value).toArray c cL_pass 4 RL := X
  have hS : va_S (mFA K) s.heap s.heap [] := va_S.rf
  have hl : lv_has ls 4 [(0, .ref a0), (1, .int a1), (2, .ref a2)] := hl
  unfold f_L_pass at hP
  refine lv_aload_n hx hb dL_pass_0 rfl (lv_at hl 2 rfl) ?_
  refine lv_iconst (v := 0) hx hb dL_pass_1 (by decide) ?_
  refine lv_aload_n hx hb dL_pass_2 rfl (lv_at hl 0 rfl) ?_
  refine lv_iload_n hx hb dL_pass_3 rfl (lv_at hl 1 rfl) ?_
  refine rx_callVi (rest := [.int 0, .ref a2]) (T := TX5) (N := 18) X hM hS (ct_X5_pass hst a0 a1) hP mV_L_32 rfl rfl rfl hl.1 (Nat.le_of_ble_eq_true rfl) ⟨⟨by decide, by decide⟩, by decide, by decide⟩ dL_pass_4 ?_ (fun r M H locs hM hS hP => ?_)
  · intro E ce q9 M H locs hM hS hq hce hcv hcl
    rcases hq with ⟨rfl, hP⟩ | ⟨rfl, hP⟩
    · refine vx_catch (name := "java/lang/IllegalArgumentException") hown [] ⟨0, 9, 12, 13⟩ [⟨0, 9, 15, 15⟩] (htab.trans rfl) ?_ (by decide) (by decide) (hts _ lc_13) (va_Nw.use rfl (X.2.1.2.2.1.2.2.1 _ (List.mem_of_getElem? (i := 1) rfl))) hce hcv hcl ?_
      · intro z hz
        exact absurd hz List.not_mem_nil
      · refine lv_astore_n (lv' := [(3, .ref q9), (0, .ref a0), (1, .int a1), (2, .ref a2)]) hx hb dL_pass_12 rfl hl (by decide) rfl (fun ls hl => ?_)
        refine lv_iconst (v := 1) hx hb dL_pass_13 (by decide) ?_
        exact e_iret X hM hS (hk _ _ hP) hr hlocks (by decide) (by decide) dL_pass_14
    · refine vx_catch (name := "java/lang/IllegalStateException") hown [⟨0, 9, 12, 13⟩] ⟨0, 9, 15, 15⟩ [] (htab.trans rfl) ?_ (by decide) (by decide) (hts _ lc_15) (va_Nw.use rfl (X.2.1.2.2.1.2.2.1 _ (List.mem_of_getElem? (i := 0) rfl))) hce hcv hcl ?_
      · intro z hz
        simp only [List.mem_cons, List.not_mem_nil, or_false] at hz
        subst hz
        exact Or.inr ⟨by decide, _, hts _ lc_13, X.2.1.2.2.2.1.2.2.2.2 _ (List.mem_of_getElem? (i := 0) rfl)⟩
      · refine lv_astore_n (lv' := [(3, .ref q9), (0, .ref a0), (1, .int a1), (2, .ref a2)]) hx hb dL_pass_15 rfl hl (by decide) rfl (fun ls hl => ?_)
        refine lv_iconst (v := 2) hx hb dL_pass_16 (by decide) ?_
        exact e_iret X hM hS (hk _ _ hP) hr hlocks (by decide) (by decide) dL_pass_17
  · refine lv_i2l hx hb dL_pass_7 rfl ?_
    refine r_stl X hM hS hP dL_pass_8 (fun M H locs hM hS hP => ?_)
    refine lv_goto (tgt := 18) hx hb dL_pass_9 (by decide) ?_
    refine lv_iconst (v := 0) hx hb dL_pass_18 (by decide) ?_
    exact e_iret X hM hS (hk _ _ hP) hr hlocks (by decide) (by decide) dL_pass_19
def f_L_wind (K : Cfg) (a0 : Nat) (a1 : Int32) (a2 : Int32) (a3 : Int32) (a4 : Nat) (k : Int32 → Mem → Prop) : Mem → Prop :=
 mRecv a0 6 <|
 f_X5_wind K a0 a1 a2 a3 (fun r =>
 mStL K a4 0 r.toInt64 <|
 k 0) (fun E M => (E = "java/lang/IndexOutOfBoundsException" ∧ k 1 M) ∨ (E = "java/lang/IllegalArgumentException" ∧ k 2 M))
abbrev rm_L_wind : Room := { frames := 8, cells := 1, slots := 6, locals := 127 }
set_option maxHeartbeats 4000000 in
set_option maxRecDepth 100000 in
theorem ct_L_wind {K : Cfg} {l : Launch} (hst : l.stackTraces = false) (a0 : Nat) (a1 : Int32) (a2 : Int32) (a3 : Int32) (a4 : Nat) : mPW K l yL_wind cL_wind 6 (some .int) [(0, 12, 15, 23), (0, 12, 19, 13)] rm_L_wind [.ref a0, .int a1, .int a2, .int a3, .ref a4] (f_L_wind K a0 a1 a2 a3 a4) := by
  refine mPW.of hst (by decide +kernel) (Nat.le_of_ble_eq_true rfl) ?_
  intro M k Q hk hP p e s m below meth c X hr hlocks htab hM ls hl
  have hx := X.1.1
  have hb := X.1.2.1
  have hown := X.1.2.2.2.1
  have hts := X.1.2.2.2.2
  have X : Cx K p l s m ([.ref a0, .int a1, .int a2, .int a3, .ref a4] : List Value).toArray c cL_wind 6 RL := X
  have hS : va_S (mFA K) s.heap s.heap [] := va_S.rf
  have hl : lv_has ls 6 [(0, .ref a0), (1, .int a1), (2, .int a2), (3, .int a3), (4, .ref a4)] := hl
  unfold f_L_wind at hP
  refine lv_aload hx hb dL_wind_0 (lv_at hl 4 rfl) ?_
  refine lv_iconst (v := 0) hx hb dL_wind_2 (by decide) ?_
  refine lv_aload_n hx hb dL_wind_3 rfl (lv_at hl 0 rfl) ?_
  refine lv_iload_n hx hb dL_wind_4 rfl (lv_at hl 1 rfl) ?_
  refine lv_iload_n hx hb dL_wind_5 rfl (lv_at hl 2 rfl) ?_
  refine lv_iload_n hx hb dL_wind_6 rfl (lv_at hl 3 rfl) ?_
  refine rx_callVi (rest := [.int 0, .ref a4]) (T := TX5) (N := 18) X hM hS (ct_X5_wind hst a0 a1 a2 a3) hP mV_L_35 rfl rfl rfl hl.1 (Nat.le_of_ble_eq_true rfl) ⟨⟨by decide, by decide⟩, by decide, by decide⟩ dL_wind_7 ?_ (fun r M H locs hM hS hP => ?_)
  · intro E ce q9 M H locs hM hS hq hce hcv hcl
    rcases hq with ⟨rfl, hP⟩ | ⟨rfl, hP⟩
    · refine vx_catch (name := "java/lang/IndexOutOfBoundsException") hown [] ⟨0, 12, 15, 23⟩ [⟨0, 12, 19, 13⟩] (htab.trans rfl) ?_ (by decide) (by decide) (hts _ lc_23) (va_Nw.use rfl (X.2.1.2.2.1.2.2.1 _ (List.mem_of_getElem? (i := 2) rfl))) hce hcv hcl ?_
      · intro z hz
        exact absurd hz List.not_mem_nil
      · refine lv_astore (lv' := [(5, .ref q9), (0, .ref a0), (1, .int a1), (2, .int a2), (3, .int a3), (4, .ref a4)]) hx hb dL_wind_15 hl (by decide) rfl (fun ls hl => ?_)
        refine lv_iconst (v := 1) hx hb dL_wind_17 (by decide) ?_
        exact e_iret X hM hS (hk _ _ hP) hr hlocks (by decide) (by decide) dL_wind_18
    · refine vx_catch (name := "java/lang/IllegalArgumentException") hown [⟨0, 12, 15, 23⟩] ⟨0, 12, 19, 13⟩ [] (htab.trans rfl) ?_ (by decide) (by decide) (hts _ lc_13) (va_Nw.use rfl (X.2.1.2.2.1.2.2.1 _ (List.mem_of_getElem? (i := 1) rfl))) hce hcv hcl ?_
      · intro z hz
        simp only [List.mem_cons, List.not_mem_nil, or_false] at hz
        subst hz
        exact Or.inr ⟨by decide, _, hts _ lc_23, X.2.1.2.2.2.1.2.2.2.2 _ (List.mem_of_getElem? (i := 2) rfl)⟩
      · refine lv_astore (lv' := [(5, .ref q9), (0, .ref a0), (1, .int a1), (2, .int a2), (3, .int a3), (4, .ref a4)]) hx hb dL_wind_19 hl (by decide) rfl (fun ls hl => ?_)
        refine lv_iconst (v := 2) hx hb dL_wind_21 (by decide) ?_
        exact e_iret X hM hS (hk _ _ hP) hr hlocks (by decide) (by decide) dL_wind_22
  · refine lv_i2l hx hb dL_wind_10 rfl ?_
    refine r_stl X hM hS hP dL_wind_11 (fun M H locs hM hS hP => ?_)
    refine lv_goto (tgt := 23) hx hb dL_wind_12 (by decide) ?_
    refine lv_iconst (v := 0) hx hb dL_wind_23 (by decide) ?_
    exact e_iret X hM hS (hk _ _ hP) hr hlocks (by decide) (by decide) dL_wind_24
def f_L_board (K : Cfg) (a0 : Nat) (a1 : Int32) (a2 : Int32) (a3 : Int32) (a4 : Nat) (k : Int32 → Mem → Prop) : Mem → Prop :=
 mRecv a0 6 <|
 f_X5_board K a0 a1 a2 a3 (fun r =>
 mStL K a4 0 r.toInt64 <|
 k 0) (fun E M => (E = "java/lang/IndexOutOfBoundsException" ∧ k 1 M) ∨ (E = "java/lang/IllegalArgumentException" ∧ k 2 M) ∨ (E = "java/lang/IllegalStateException" ∧ k 3 M))
abbrev rm_L_board : Room := { frames := 11, cells := 1, slots := 6, locals := 199 }
set_option maxHeartbeats 4000000 in
set_option maxRecDepth 100000 in
theorem ct_L_board {K : Cfg} {l : Launch} (hst : l.stackTraces = false) (a0 : Nat) (a1 : Int32) (a2 : Int32) (a3 : Int32) (a4 : Nat) : mPW K l yL_board cL_board 6 (some .int) [(0, 12, 15, 23), (0, 12, 19, 13), (0, 12, 23, 15)] rm_L_board [.ref a0, .int a1, .int a2, .int a3, .ref a4] (f_L_board K a0 a1 a2 a3 a4) := by
  refine mPW.of hst (by decide +kernel) (Nat.le_of_ble_eq_true rfl) ?_
  intro M k Q hk hP p e s m below meth c X hr hlocks htab hM ls hl
  have hx := X.1.1
  have hb := X.1.2.1
  have hown := X.1.2.2.2.1
  have hts := X.1.2.2.2.2
  have X : Cx K p l s m ([.ref a0, .int a1, .int a2, .int a3, .ref a4] : List Value).toArray c cL_board 6 RL := X
  have hS : va_S (mFA K) s.heap s.heap [] := va_S.rf
  have hl : lv_has ls 6 [(0, .ref a0), (1, .int a1), (2, .int a2), (3, .int a3), (4, .ref a4)] := hl
  unfold f_L_board at hP
  refine lv_aload hx hb dL_board_0 (lv_at hl 4 rfl) ?_
  refine lv_iconst (v := 0) hx hb dL_board_2 (by decide) ?_
  refine lv_aload_n hx hb dL_board_3 rfl (lv_at hl 0 rfl) ?_
  refine lv_iload_n hx hb dL_board_4 rfl (lv_at hl 1 rfl) ?_
  refine lv_iload_n hx hb dL_board_5 rfl (lv_at hl 2 rfl) ?_
  refine lv_iload_n hx hb dL_board_6 rfl (lv_at hl 3 rfl) ?_
  refine rx_callVi (rest := [.int 0, .ref a4]) (T := TX5) (N := 18) X hM hS (ct_X5_board hst a0 a1 a2 a3) hP mV_L_39 rfl rfl rfl hl.1 (Nat.le_of_ble_eq_true rfl) ⟨⟨by decide, by decide⟩, by decide, by decide⟩ dL_board_7 ?_ (fun r M H locs hM hS hP => ?_)
  · intro E ce q9 M H locs hM hS hq hce hcv hcl
    rcases hq with ⟨rfl, hP⟩ | ⟨rfl, hP⟩ | ⟨rfl, hP⟩
    · refine vx_catch (name := "java/lang/IndexOutOfBoundsException") hown [] ⟨0, 12, 15, 23⟩ [⟨0, 12, 19, 13⟩, ⟨0, 12, 23, 15⟩] (htab.trans rfl) ?_ (by decide) (by decide) (hts _ lc_23) (va_Nw.use rfl (X.2.1.2.2.1.2.2.1 _ (List.mem_of_getElem? (i := 2) rfl))) hce hcv hcl ?_
      · intro z hz
        exact absurd hz List.not_mem_nil
      · refine lv_astore (lv' := [(5, .ref q9), (0, .ref a0), (1, .int a1), (2, .int a2), (3, .int a3), (4, .ref a4)]) hx hb dL_board_15 hl (by decide) rfl (fun ls hl => ?_)
        refine lv_iconst (v := 1) hx hb dL_board_17 (by decide) ?_
        exact e_iret X hM hS (hk _ _ hP) hr hlocks (by decide) (by decide) dL_board_18
    · refine vx_catch (name := "java/lang/IllegalArgumentException") hown [⟨0, 12, 15, 23⟩] ⟨0, 12, 19, 13⟩ [⟨0, 12, 23, 15⟩] (htab.trans rfl) ?_ (by decide) (by decide) (hts _ lc_13) (va_Nw.use rfl (X.2.1.2.2.1.2.2.1 _ (List.mem_of_getElem? (i := 1) rfl))) hce hcv hcl ?_
      · intro z hz
        simp only [List.mem_cons, List.not_mem_nil, or_false] at hz
        subst hz
        exact Or.inr ⟨by decide, _, hts _ lc_23, X.2.1.2.2.2.1.2.2.2.2 _ (List.mem_of_getElem? (i := 2) rfl)⟩
      · refine lv_astore (lv' := [(5, .ref q9), (0, .ref a0), (1, .int a1), (2, .int a2), (3, .int a3), (4, .ref a4)]) hx hb dL_board_19 hl (by decide) rfl (fun ls hl => ?_)
        refine lv_iconst (v := 2) hx hb dL_board_21 (by decide) ?_
        exact e_iret X hM hS (hk _ _ hP) hr hlocks (by decide) (by decide) dL_board_22
    · refine vx_catch (name := "java/lang/IllegalStateException") hown [⟨0, 12, 15, 23⟩, ⟨0, 12, 19, 13⟩] ⟨0, 12, 23, 15⟩ [] (htab.trans rfl) ?_ (by decide) (by decide) (hts _ lc_15) (va_Nw.use rfl (X.2.1.2.2.1.2.2.1 _ (List.mem_of_getElem? (i := 0) rfl))) hce hcv hcl ?_
      · intro z hz
        simp only [List.mem_cons, List.not_mem_nil, or_false] at hz
        rcases hz with rfl | rfl
        · exact Or.inr ⟨by decide, _, hts _ lc_23, X.2.1.2.2.2.1.2.2.2.2 _ (List.mem_of_getElem? (i := 1) rfl)⟩
        · exact Or.inr ⟨by decide, _, hts _ lc_13, X.2.1.2.2.2.1.2.2.2.2 _ (List.mem_of_getElem? (i := 0) rfl)⟩
      · refine lv_astore (lv' := [(5, .ref q9), (0, .ref a0), (1, .int a1), (2, .int a2), (3, .int a3), (4, .ref a4)]) hx hb dL_board_23 hl (by decide) rfl (fun ls hl => ?_)
        refine lv_iconst (v := 3) hx hb dL_board_25 (by decide) ?_
        exact e_iret X hM hS (hk _ _ hP) hr hlocks (by decide) (by decide) dL_board_26
  · refine lv_i2l hx hb dL_board_10 rfl ?_
    refine r_stl X hM hS hP dL_board_11 (fun M H locs hM hS hP => ?_)
    refine lv_goto (tgt := 27) hx hb dL_board_12 (by decide) ?_
    refine lv_iconst (v := 0) hx hb dL_board_27 (by decide) ?_
    exact e_iret X hM hS (hk _ _ hP) hr hlocks (by decide) (by decide) dL_board_28
def f_L_fly (K : Cfg) (a0 : Nat) (a1 : Int32) (a2 : Int32) (a3 : Nat) (k : Int32 → Mem → Prop) : Mem → Prop :=
 mRecv a0 6 <|
 f_X5_fly K a0 a1 a2 (fun r =>
 mStL K a3 0 r.toInt64 <|
 k 0) (fun E M => (E = "java/lang/IllegalArgumentException" ∧ k 1 M) ∨ (E = "java/lang/IllegalStateException" ∧ k 2 M))
abbrev rm_L_fly : Room := { frames := 10, cells := 1, slots := 6, locals := 170 }
set_option maxHeartbeats 4000000 in
set_option maxRecDepth 100000 in
theorem ct_L_fly {K : Cfg} {l : Launch} (hst : l.stackTraces = false) (a0 : Nat) (a1 : Int32) (a2 : Int32) (a3 : Nat) : mPW K l yL_fly cL_fly 5 (some .int) [(0, 10, 13, 13), (0, 10, 17, 15)] rm_L_fly [.ref a0, .int a1, .int a2, .ref a3] (f_L_fly K a0 a1 a2 a3) := by
  refine mPW.of hst (by decide +kernel) (Nat.le_of_ble_eq_true rfl) ?_
  intro M k Q hk hP p e s m below meth c X hr hlocks htab hM ls hl
  have hx := X.1.1
  have hb := X.1.2.1
  have hown := X.1.2.2.2.1
  have hts := X.1.2.2.2.2
  have X : Cx K p l s m ([.ref a0, .int a1, .int a2, .ref a3] : List Value).toArray c cL_fly 5 RL := X
  have hS : va_S (mFA K) s.heap s.heap [] := va_S.rf
  have hl : lv_has ls 5 [(0, .ref a0), (1, .int a1), (2, .int a2), (3, .ref a3)] := hl
  unfold f_L_fly at hP
  refine lv_aload_n hx hb dL_fly_0 rfl (lv_at hl 3 rfl) ?_
  refine lv_iconst (v := 0) hx hb dL_fly_1 (by decide) ?_
  refine lv_aload_n hx hb dL_fly_2 rfl (lv_at hl 0 rfl) ?_
  refine lv_iload_n hx hb dL_fly_3 rfl (lv_at hl 1 rfl) ?_
  refine lv_iload_n hx hb dL_fly_4 rfl (lv_at hl 2 rfl) ?_
  refine rx_callVi (rest := [.int 0, .ref a3]) (T := TX5) (N := 18) X hM hS (ct_X5_fly hst a0 a1 a2) hP mV_L_42 rfl rfl rfl hl.1 (Nat.le_of_ble_eq_true rfl) ⟨⟨by decide, by decide⟩, by decide, by decide⟩ dL_fly_5 ?_ (fun r M H locs hM hS hP => ?_)
  · intro E ce q9 M H locs hM hS hq hce hcv hcl
    rcases hq with ⟨rfl, hP⟩ | ⟨rfl, hP⟩
    · refine vx_catch (name := "java/lang/IllegalArgumentException") hown [] ⟨0, 10, 13, 13⟩ [⟨0, 10, 17, 15⟩] (htab.trans rfl) ?_ (by decide) (by decide) (hts _ lc_13) (va_Nw.use rfl (X.2.1.2.2.1.2.2.1 _ (List.mem_of_getElem? (i := 1) rfl))) hce hcv hcl ?_
      · intro z hz
        exact absurd hz List.not_mem_nil
      · refine lv_astore (lv' := [(4, .ref q9), (0, .ref a0), (1, .int a1), (2, .int a2), (3, .ref a3)]) hx hb dL_fly_13 hl (by decide) rfl (fun ls hl => ?_)
        refine lv_iconst (v := 1) hx hb dL_fly_15 (by decide) ?_
        exact e_iret X hM hS (hk _ _ hP) hr hlocks (by decide) (by decide) dL_fly_16
    · refine vx_catch (name := "java/lang/IllegalStateException") hown [⟨0, 10, 13, 13⟩] ⟨0, 10, 17, 15⟩ [] (htab.trans rfl) ?_ (by decide) (by decide) (hts _ lc_15) (va_Nw.use rfl (X.2.1.2.2.1.2.2.1 _ (List.mem_of_getElem? (i := 0) rfl))) hce hcv hcl ?_
      · intro z hz
        simp only [List.mem_cons, List.not_mem_nil, or_false] at hz
        subst hz
        exact Or.inr ⟨by decide, _, hts _ lc_13, X.2.1.2.2.2.1.2.2.2.2 _ (List.mem_of_getElem? (i := 0) rfl)⟩
      · refine lv_astore (lv' := [(4, .ref q9), (0, .ref a0), (1, .int a1), (2, .int a2), (3, .ref a3)]) hx hb dL_fly_17 hl (by decide) rfl (fun ls hl => ?_)
        refine lv_iconst (v := 2) hx hb dL_fly_19 (by decide) ?_
        exact e_iret X hM hS (hk _ _ hP) hr hlocks (by decide) (by decide) dL_fly_20
  · refine lv_i2l hx hb dL_fly_8 rfl ?_
    refine r_stl X hM hS hP dL_fly_9 (fun M H locs hM hS hP => ?_)
    refine lv_goto (tgt := 21) hx hb dL_fly_10 (by decide) ?_
    refine lv_iconst (v := 0) hx hb dL_fly_21 (by decide) ?_
    exact e_iret X hM hS (hk _ _ hP) hr hlocks (by decide) (by decide) dL_fly_22
def f_L_ofJumper (K : Cfg) (a0 : Nat) (a1 : Int32) (a2 : Int32) (a3 : Nat) (k : Int32 → Mem → Prop) : Mem → Prop :=
 mRecv a0 6 <|
 f_X5_ofJumper K a0 a1 a2 (fun r =>
 mStL K a3 0 r.toInt64 <|
 k 0) (fun E M => (E = "java/lang/IndexOutOfBoundsException" ∧ k 1 M) ∨ (E = "java/lang/IllegalArgumentException" ∧ k 2 M))
abbrev rm_L_ofJumper : Room := { frames := 9, cells := 1, slots := 6, locals := 148 }
set_option maxHeartbeats 4000000 in
set_option maxRecDepth 100000 in
theorem ct_L_ofJumper {K : Cfg} {l : Launch} (hst : l.stackTraces = false) (a0 : Nat) (a1 : Int32) (a2 : Int32) (a3 : Nat) : mPW K l yL_ofJumper cL_ofJumper 5 (some .int) [(0, 10, 13, 23), (0, 10, 17, 13)] rm_L_ofJumper [.ref a0, .int a1, .int a2, .ref a3] (f_L_ofJumper K a0 a1 a2 a3) := by
  refine mPW.of hst (by decide +kernel) (Nat.le_of_ble_eq_true rfl) ?_
  intro M k Q hk hP p e s m below meth c X hr hlocks htab hM ls hl
  have hx := X.1.1
  have hb := X.1.2.1
  have hown := X.1.2.2.2.1
  have hts := X.1.2.2.2.2
  have X : Cx K p l s m ([.ref a0, .int a1, .int a2, .ref a3] : List Value).toArray c cL_ofJumper 5 RL := X
  have hS : va_S (mFA K) s.heap s.heap [] := va_S.rf
  have hl : lv_has ls 5 [(0, .ref a0), (1, .int a1), (2, .int a2), (3, .ref a3)] := hl
  unfold f_L_ofJumper at hP
  refine lv_aload_n hx hb dL_ofJumper_0 rfl (lv_at hl 3 rfl) ?_
  refine lv_iconst (v := 0) hx hb dL_ofJumper_1 (by decide) ?_
  refine lv_aload_n hx hb dL_ofJumper_2 rfl (lv_at hl 0 rfl) ?_
  refine lv_iload_n hx hb dL_ofJumper_3 rfl (lv_at hl 1 rfl) ?_
  refine lv_iload_n hx hb dL_ofJumper_4 rfl (lv_at hl 2 rfl) ?_
  refine rx_callVi (rest := [.int 0, .ref a3]) (T := TX5) (N := 18) X hM hS (ct_X5_ofJumper hst a0 a1 a2) hP mV_L_45 rfl rfl rfl hl.1 (Nat.le_of_ble_eq_true rfl) ⟨⟨by decide, by decide⟩, by decide, by decide⟩ dL_ofJumper_5 ?_ (fun r M H locs hM hS hP => ?_)
  · intro E ce q9 M H locs hM hS hq hce hcv hcl
    rcases hq with ⟨rfl, hP⟩ | ⟨rfl, hP⟩
    · refine vx_catch (name := "java/lang/IndexOutOfBoundsException") hown [] ⟨0, 10, 13, 23⟩ [⟨0, 10, 17, 13⟩] (htab.trans rfl) ?_ (by decide) (by decide) (hts _ lc_23) (va_Nw.use rfl (X.2.1.2.2.1.2.2.1 _ (List.mem_of_getElem? (i := 2) rfl))) hce hcv hcl ?_
      · intro z hz
        exact absurd hz List.not_mem_nil
      · refine lv_astore (lv' := [(4, .ref q9), (0, .ref a0), (1, .int a1), (2, .int a2), (3, .ref a3)]) hx hb dL_ofJumper_13 hl (by decide) rfl (fun ls hl => ?_)
        refine lv_iconst (v := 1) hx hb dL_ofJumper_15 (by decide) ?_
        exact e_iret X hM hS (hk _ _ hP) hr hlocks (by decide) (by decide) dL_ofJumper_16
    · refine vx_catch (name := "java/lang/IllegalArgumentException") hown [⟨0, 10, 13, 23⟩] ⟨0, 10, 17, 13⟩ [] (htab.trans rfl) ?_ (by decide) (by decide) (hts _ lc_13) (va_Nw.use rfl (X.2.1.2.2.1.2.2.1 _ (List.mem_of_getElem? (i := 1) rfl))) hce hcv hcl ?_
      · intro z hz
        simp only [List.mem_cons, List.not_mem_nil, or_false] at hz
        subst hz
        exact Or.inr ⟨by decide, _, hts _ lc_23, X.2.1.2.2.2.1.2.2.2.2 _ (List.mem_of_getElem? (i := 2) rfl)⟩
      · refine lv_astore (lv' := [(4, .ref q9), (0, .ref a0), (1, .int a1), (2, .int a2), (3, .ref a3)]) hx hb dL_ofJumper_17 hl (by decide) rfl (fun ls hl => ?_)
        refine lv_iconst (v := 2) hx hb dL_ofJumper_19 (by decide) ?_
        exact e_iret X hM hS (hk _ _ hP) hr hlocks (by decide) (by decide) dL_ofJumper_20
  · refine lv_i2l hx hb dL_ofJumper_8 rfl ?_
    refine r_stl X hM hS hP dL_ofJumper_9 (fun M H locs hM hS hP => ?_)
    refine lv_goto (tgt := 21) hx hb dL_ofJumper_10 (by decide) ?_
    refine lv_iconst (v := 0) hx hb dL_ofJumper_21 (by decide) ?_
    exact e_iret X hM hS (hk _ _ hP) hr hlocks (by decide) (by decide) dL_ofJumper_22
def f_L_loading (K : Cfg) (a0 : Nat) (a1 : Int32) (a2 : Nat) (k : Int32 → Mem → Prop) : Mem → Prop :=
 mRecv a0 6 <|
 f_X5_loading K a0 a1 (fun r =>
 mStD K a2 0 r <|
 k 0) (fun E M => (E = "java/lang/IndexOutOfBoundsException" ∧ k 1 M))
abbrev rm_L_loading : Room := { frames := 9, cells := 1, slots := 6, locals := 145 }
set_option maxHeartbeats 4000000 in
set_option maxRecDepth 100000 in
theorem ct_L_loading {K : Cfg} {l : Launch} (hst : l.stackTraces = false) (a0 : Nat) (a1 : Int32) (a2 : Nat) : mPW K l yL_loading cL_loading 4 (some .int) [(0, 8, 11, 23)] rm_L_loading [.ref a0, .int a1, .ref a2] (f_L_loading K a0 a1 a2) := by
  refine mPW.of hst (by decide +kernel) (Nat.le_of_ble_eq_true rfl) ?_
  intro M k Q hk hP p e s m below meth c X hr hlocks htab hM ls hl
  have hx := X.1.1
  have hb := X.1.2.1
  have hown := X.1.2.2.2.1
  have hts := X.1.2.2.2.2
  have X : Cx K p l s m ([.ref a0, .int a1, .ref a2] : List Value).toArray c cL_loading 4 RL := X
  have hS : va_S (mFA K) s.heap s.heap [] := va_S.rf
  have hl : lv_has ls 4 [(0, .ref a0), (1, .int a1), (2, .ref a2)] := hl
  unfold f_L_loading at hP
  refine lv_aload_n hx hb dL_loading_0 rfl (lv_at hl 2 rfl) ?_
  refine lv_iconst (v := 0) hx hb dL_loading_1 (by decide) ?_
  refine lv_aload_n hx hb dL_loading_2 rfl (lv_at hl 0 rfl) ?_
  refine lv_iload_n hx hb dL_loading_3 rfl (lv_at hl 1 rfl) ?_
  refine rx_callVd (rest := [.int 0, .ref a2]) (T := TX5) (N := 18) X hM hS (ct_X5_loading hst a0 a1) hP mV_L_48 rfl rfl rfl hl.1 (Nat.le_of_ble_eq_true rfl) ⟨⟨by decide, by decide⟩, by decide, by decide⟩ dL_loading_4 ?_ (fun r M H locs hM hS hP => ?_)
  · intro E ce q9 M H locs hM hS hq hce hcv hcl
    obtain ⟨rfl, hP⟩ := hq
    refine vx_catch (name := "java/lang/IndexOutOfBoundsException") hown [] ⟨0, 8, 11, 23⟩ [] (htab.trans rfl) ?_ (by decide) (by decide) (hts _ lc_23) (va_Nw.use rfl (X.2.1.2.2.1.2.2.1 _ (List.mem_of_getElem? (i := 2) rfl))) hce hcv hcl ?_
    · intro z hz
      exact absurd hz List.not_mem_nil
    · refine lv_astore_n (lv' := [(3, .ref q9), (0, .ref a0), (1, .int a1), (2, .ref a2)]) hx hb dL_loading_11 rfl hl (by decide) rfl (fun ls hl => ?_)
      refine lv_iconst (v := 1) hx hb dL_loading_12 (by decide) ?_
      exact e_iret X hM hS (hk _ _ hP) hr hlocks (by decide) (by decide) dL_loading_13
  · refine r_std X hM hS hP dL_loading_7 (fun M H locs hM hS hP => ?_)
    refine lv_goto (tgt := 14) hx hb dL_loading_8 (by decide) ?_
    refine lv_iconst (v := 0) hx hb dL_loading_14 (by decide) ?_
    exact e_iret X hM hS (hk _ _ hP) hr hlocks (by decide) (by decide) dL_loading_15
def f_L_landed (K : Cfg) (a0 : Nat) (a1 : Int32) (a2 : Int32) (a3 : Nat) (k : Int32 → Mem → Prop) : Mem → Prop :=
 mRecv a0 6 <|
 f_X5_landed K a0 a1 a2 (fun r =>
 mStD K a3 0 r <|
 k 0) (fun E M => (E = "java/lang/IndexOutOfBoundsException" ∧ k 1 M))
abbrev rm_L_landed : Room := { frames := 8, cells := 1, slots := 6, locals := 126 }
set_option maxHeartbeats 4000000 in
set_option maxRecDepth 100000 in
theorem ct_L_landed {K : Cfg} {l : Launch} (hst : l.stackTraces = false) (a0 : Nat) (a1 : Int32) (a2 : Int32) (a3 : Nat) : mPW K l yL_landed cL_landed 5 (some .int) [(0, 9, 12, 23)] rm_L_landed [.ref a0, .int a1, .int a2, .ref a3] (f_L_landed K a0 a1 a2 a3) := by
  refine mPW.of hst (by decide +kernel) (Nat.le_of_ble_eq_true rfl) ?_
  intro M k Q hk hP p e s m below meth c X hr hlocks htab hM ls hl
  have hx := X.1.1
  have hb := X.1.2.1
  have hown := X.1.2.2.2.1
  have hts := X.1.2.2.2.2
  have X : Cx K p l s m ([.ref a0, .int a1, .int a2, .ref a3] : List Value).toArray c cL_landed 5 RL := X
  have hS : va_S (mFA K) s.heap s.heap [] := va_S.rf
  have hl : lv_has ls 5 [(0, .ref a0), (1, .int a1), (2, .int a2), (3, .ref a3)] := hl
  unfold f_L_landed at hP
  refine lv_aload_n hx hb dL_landed_0 rfl (lv_at hl 3 rfl) ?_
  refine lv_iconst (v := 0) hx hb dL_landed_1 (by decide) ?_
  refine lv_aload_n hx hb dL_landed_2 rfl (lv_at hl 0 rfl) ?_
  refine lv_iload_n hx hb dL_landed_3 rfl (lv_at hl 1 rfl) ?_
  refine lv_iload_n hx hb dL_landed_4 rfl (lv_at hl 2 rfl) ?_
  refine rx_callVd (rest := [.int 0, .ref a3]) (T := TX5) (N := 18) X hM hS (ct_X5_landed hst a0 a1 a2) hP mV_L_52 rfl rfl rfl hl.1 (Nat.le_of_ble_eq_true rfl) ⟨⟨by decide, by decide⟩, by decide, by decide⟩ dL_landed_5 ?_ (fun r M H locs hM hS hP => ?_)
  · intro E ce q9 M H locs hM hS hq hce hcv hcl
    obtain ⟨rfl, hP⟩ := hq
    refine vx_catch (name := "java/lang/IndexOutOfBoundsException") hown [] ⟨0, 9, 12, 23⟩ [] (htab.trans rfl) ?_ (by decide) (by decide) (hts _ lc_23) (va_Nw.use rfl (X.2.1.2.2.1.2.2.1 _ (List.mem_of_getElem? (i := 2) rfl))) hce hcv hcl ?_
    · intro z hz
      exact absurd hz List.not_mem_nil
    · refine lv_astore (lv' := [(4, .ref q9), (0, .ref a0), (1, .int a1), (2, .int a2), (3, .ref a3)]) hx hb dL_landed_12 hl (by decide) rfl (fun ls hl => ?_)
      refine lv_iconst (v := 1) hx hb dL_landed_14 (by decide) ?_
      exact e_iret X hM hS (hk _ _ hP) hr hlocks (by decide) (by decide) dL_landed_15
  · refine r_std X hM hS hP dL_landed_8 (fun M H locs hM hS hP => ?_)
    refine lv_goto (tgt := 16) hx hb dL_landed_9 (by decide) ?_
    refine lv_iconst (v := 0) hx hb dL_landed_16 (by decide) ?_
    exact e_iret X hM hS (hk _ _ hP) hr hlocks (by decide) (by decide) dL_landed_17
def f_L_refuses (K : Cfg) (a0 : Nat) (a1 : Int32) (a2 : Nat) (k : Int32 → Mem → Prop) : Mem → Prop :=
 mRecv a0 6 <|
 f_X5_refuses K a0 a1 (fun r =>
 mStL K a2 0 r.toInt64 <|
 k 0) (fun E M => (E = "java/lang/IndexOutOfBoundsException" ∧ k 1 M))
abbrev rm_L_refuses : Room := { frames := 10, cells := 1, slots := 6, locals := 169 }
set_option maxHeartbeats 4000000 in
set_option maxRecDepth 100000 in
theorem ct_L_refuses {K : Cfg} {l : Launch} (hst : l.stackTraces = false) (a0 : Nat) (a1 : Int32) (a2 : Nat) : mPW K l yL_refuses cL_refuses 4 (some .int) [(0, 9, 12, 23)] rm_L_refuses [.ref a0, .int a1, .ref a2] (f_L_refuses K a0 a1 a2) := by
  refine mPW.of hst (by decide +kernel) (Nat.le_of_ble_eq_true rfl) ?_
  intro M k Q hk hP p e s m below meth c X hr hlocks htab hM ls hl
  have hx := X.1.1
  have hb := X.1.2.1
  have hown := X.1.2.2.2.1
  have hts := X.1.2.2.2.2
  have X : Cx K p l s m ([.ref a0, .int a1, .ref a2] : List Value).toArray c cL_refuses 4 RL := X
  have hS : va_S (mFA K) s.heap s.heap [] := va_S.rf
  have hl : lv_has ls 4 [(0, .ref a0), (1, .int a1), (2, .ref a2)] := hl
  unfold f_L_refuses at hP
  refine lv_aload_n hx hb dL_refuses_0 rfl (lv_at hl 2 rfl) ?_
  refine lv_iconst (v := 0) hx hb dL_refuses_1 (by decide) ?_
  refine lv_aload_n hx hb dL_refuses_2 rfl (lv_at hl 0 rfl) ?_
  refine lv_iload_n hx hb dL_refuses_3 rfl (lv_at hl 1 rfl) ?_
  refine rx_callVi (rest := [.int 0, .ref a2]) (T := TX5) (N := 18) X hM hS (ct_X5_refuses hst a0 a1) hP mV_L_56 rfl rfl rfl hl.1 (Nat.le_of_ble_eq_true rfl) ⟨⟨by decide, by decide⟩, by decide, by decide⟩ dL_refuses_4 ?_ (fun r M H locs hM hS hP => ?_)
  · intro E ce q9 M H locs hM hS hq hce hcv hcl
    obtain ⟨rfl, hP⟩ := hq
    refine vx_catch (name := "java/lang/IndexOutOfBoundsException") hown [] ⟨0, 9, 12, 23⟩ [] (htab.trans rfl) ?_ (by decide) (by decide) (hts _ lc_23) (va_Nw.use rfl (X.2.1.2.2.1.2.2.1 _ (List.mem_of_getElem? (i := 2) rfl))) hce hcv hcl ?_
    · intro z hz
      exact absurd hz List.not_mem_nil
    · refine lv_astore_n (lv' := [(3, .ref q9), (0, .ref a0), (1, .int a1), (2, .ref a2)]) hx hb dL_refuses_12 rfl hl (by decide) rfl (fun ls hl => ?_)
      refine lv_iconst (v := 1) hx hb dL_refuses_13 (by decide) ?_
      exact e_iret X hM hS (hk _ _ hP) hr hlocks (by decide) (by decide) dL_refuses_14
  · refine lv_i2l hx hb dL_refuses_7 rfl ?_
    refine r_stl X hM hS hP dL_refuses_8 (fun M H locs hM hS hP => ?_)
    refine lv_goto (tgt := 15) hx hb dL_refuses_9 (by decide) ?_
    refine lv_iconst (v := 0) hx hb dL_refuses_15 (by decide) ?_
    exact e_iret X hM hS (hk _ _ hP) hr hlocks (by decide) (by decide) dL_refuses_16
def f_L_ofRig (K : Cfg) (a0 : Nat) (a1 : Int32) (a2 : Int32) (a3 : Nat) (k : Int32 → Mem → Prop) : Mem → Prop :=
 mRecv a0 6 <|
 f_X5_ofRig K a0 a1 a2 (fun r =>
 mStL K a3 0 r.toInt64 <|
 k 0) (fun E M => (E = "java/lang/IndexOutOfBoundsException" ∧ k 1 M) ∨ (E = "java/lang/IllegalArgumentException" ∧ k 2 M))
abbrev rm_L_ofRig : Room := { frames := 9, cells := 1, slots := 6, locals := 148 }
set_option maxHeartbeats 4000000 in
set_option maxRecDepth 100000 in
theorem ct_L_ofRig {K : Cfg} {l : Launch} (hst : l.stackTraces = false) (a0 : Nat) (a1 : Int32) (a2 : Int32) (a3 : Nat) : mPW K l yL_ofRig cL_ofRig 5 (some .int) [(0, 10, 13, 23), (0, 10, 17, 13)] rm_L_ofRig [.ref a0, .int a1, .int a2, .ref a3] (f_L_ofRig K a0 a1 a2 a3) := by
  refine mPW.of hst (by decide +kernel) (Nat.le_of_ble_eq_true rfl) ?_
  intro M k Q hk hP p e s m below meth c X hr hlocks htab hM ls hl
  have hx := X.1.1
  have hb := X.1.2.1
  have hown := X.1.2.2.2.1
  have hts := X.1.2.2.2.2
  have X : Cx K p l s m ([.ref a0, .int a1, .int a2, .ref a3] : List Value).toArray c cL_ofRig 5 RL := X
  have hS : va_S (mFA K) s.heap s.heap [] := va_S.rf
  have hl : lv_has ls 5 [(0, .ref a0), (1, .int a1), (2, .int a2), (3, .ref a3)] := hl
  unfold f_L_ofRig at hP
  refine lv_aload_n hx hb dL_ofRig_0 rfl (lv_at hl 3 rfl) ?_
  refine lv_iconst (v := 0) hx hb dL_ofRig_1 (by decide) ?_
  refine lv_aload_n hx hb dL_ofRig_2 rfl (lv_at hl 0 rfl) ?_
  refine lv_iload_n hx hb dL_ofRig_3 rfl (lv_at hl 1 rfl) ?_
  refine lv_iload_n hx hb dL_ofRig_4 rfl (lv_at hl 2 rfl) ?_
  refine rx_callVi (rest := [.int 0, .ref a3]) (T := TX5) (N := 18) X hM hS (ct_X5_ofRig hst a0 a1 a2) hP mV_L_59 rfl rfl rfl hl.1 (Nat.le_of_ble_eq_true rfl) ⟨⟨by decide, by decide⟩, by decide, by decide⟩ dL_ofRig_5 ?_ (fun r M H locs hM hS hP => ?_)
  · intro E ce q9 M H locs hM hS hq hce hcv hcl
    rcases hq with ⟨rfl, hP⟩ | ⟨rfl, hP⟩
    · refine vx_catch (name := "java/lang/IndexOutOfBoundsException") hown [] ⟨0, 10, 13, 23⟩ [⟨0, 10, 17, 13⟩] (htab.trans rfl) ?_ (by decide) (by decide) (hts _ lc_23) (va_Nw.use rfl (X.2.1.2.2.1.2.2.1 _ (List.mem_of_getElem? (i := 2) rfl))) hce hcv hcl ?_
      · intro z hz
        exact absurd hz List.not_mem_nil
      · refine lv_astore (lv' := [(4, .ref q9), (0, .ref a0), (1, .int a1), (2, .int a2), (3, .ref a3)]) hx hb dL_ofRig_13 hl (by decide) rfl (fun ls hl => ?_)
        refine lv_iconst (v := 1) hx hb dL_ofRig_15 (by decide) ?_
        exact e_iret X hM hS (hk _ _ hP) hr hlocks (by decide) (by decide) dL_ofRig_16
    · refine vx_catch (name := "java/lang/IllegalArgumentException") hown [⟨0, 10, 13, 23⟩] ⟨0, 10, 17, 13⟩ [] (htab.trans rfl) ?_ (by decide) (by decide) (hts _ lc_13) (va_Nw.use rfl (X.2.1.2.2.1.2.2.1 _ (List.mem_of_getElem? (i := 1) rfl))) hce hcv hcl ?_
      · intro z hz
        simp only [List.mem_cons, List.not_mem_nil, or_false] at hz
        subst hz
        exact Or.inr ⟨by decide, _, hts _ lc_23, X.2.1.2.2.2.1.2.2.2.2 _ (List.mem_of_getElem? (i := 2) rfl)⟩
      · refine lv_astore (lv' := [(4, .ref q9), (0, .ref a0), (1, .int a1), (2, .int a2), (3, .ref a3)]) hx hb dL_ofRig_17 hl (by decide) rfl (fun ls hl => ?_)
        refine lv_iconst (v := 2) hx hb dL_ofRig_19 (by decide) ?_
        exact e_iret X hM hS (hk _ _ hP) hr hlocks (by decide) (by decide) dL_ofRig_20
  · refine lv_i2l hx hb dL_ofRig_8 rfl ?_
    refine r_stl X hM hS hP dL_ofRig_9 (fun M H locs hM hS hP => ?_)
    refine lv_goto (tgt := 21) hx hb dL_ofRig_10 (by decide) ?_
    refine lv_iconst (v := 0) hx hb dL_ofRig_21 (by decide) ?_
    exact e_iret X hM hS (hk _ _ hP) hr hlocks (by decide) (by decide) dL_ofRig_22
def f_L_wear (K : Cfg) (a0 : Nat) (a1 : Int32) (a2 : Nat) (k : Int32 → Mem → Prop) : Mem → Prop :=
 mRecv a0 6 <|
 f_X5_wear K a0 a1 (fun r =>
 mStD K a2 0 r <|
 k 0) (fun E M => (E = "java/lang/IndexOutOfBoundsException" ∧ k 1 M))
abbrev rm_L_wear : Room := { frames := 8, cells := 1, slots := 6, locals := 124 }
set_option maxHeartbeats 4000000 in
set_option maxRecDepth 100000 in
theorem ct_L_wear {K : Cfg} {l : Launch} (hst : l.stackTraces = false) (a0 : Nat) (a1 : Int32) (a2 : Nat) : mPW K l yL_wear cL_wear 4 (some .int) [(0, 8, 11, 23)] rm_L_wear [.ref a0, .int a1, .ref a2] (f_L_wear K a0 a1 a2) := by
  refine mPW.of hst (by decide +kernel) (Nat.le_of_ble_eq_true rfl) ?_
  intro M k Q hk hP p e s m below meth c X hr hlocks htab hM ls hl
  have hx := X.1.1
  have hb := X.1.2.1
  have hown := X.1.2.2.2.1
  have hts := X.1.2.2.2.2
  have X : Cx K p l s m ([.ref a0, .int a1, .ref a2] : List Value).toArray c cL_wear 4 RL := X
  have hS : va_S (mFA K) s.heap s.heap [] := va_S.rf
  have hl : lv_has ls 4 [(0, .ref a0), (1, .int a1), (2, .ref a2)] := hl
  unfold f_L_wear at hP
  refine lv_aload_n hx hb dL_wear_0 rfl (lv_at hl 2 rfl) ?_
  refine lv_iconst (v := 0) hx hb dL_wear_1 (by decide) ?_
  refine lv_aload_n hx hb dL_wear_2 rfl (lv_at hl 0 rfl) ?_
  refine lv_iload_n hx hb dL_wear_3 rfl (lv_at hl 1 rfl) ?_
  refine rx_callVd (rest := [.int 0, .ref a2]) (T := TX5) (N := 18) X hM hS (ct_X5_wear hst a0 a1) hP mV_L_62 rfl rfl rfl hl.1 (Nat.le_of_ble_eq_true rfl) ⟨⟨by decide, by decide⟩, by decide, by decide⟩ dL_wear_4 ?_ (fun r M H locs hM hS hP => ?_)
  · intro E ce q9 M H locs hM hS hq hce hcv hcl
    obtain ⟨rfl, hP⟩ := hq
    refine vx_catch (name := "java/lang/IndexOutOfBoundsException") hown [] ⟨0, 8, 11, 23⟩ [] (htab.trans rfl) ?_ (by decide) (by decide) (hts _ lc_23) (va_Nw.use rfl (X.2.1.2.2.1.2.2.1 _ (List.mem_of_getElem? (i := 2) rfl))) hce hcv hcl ?_
    · intro z hz
      exact absurd hz List.not_mem_nil
    · refine lv_astore_n (lv' := [(3, .ref q9), (0, .ref a0), (1, .int a1), (2, .ref a2)]) hx hb dL_wear_11 rfl hl (by decide) rfl (fun ls hl => ?_)
      refine lv_iconst (v := 1) hx hb dL_wear_12 (by decide) ?_
      exact e_iret X hM hS (hk _ _ hP) hr hlocks (by decide) (by decide) dL_wear_13
  · refine r_std X hM hS hP dL_wear_7 (fun M H locs hM hS hP => ?_)
    refine lv_goto (tgt := 14) hx hb dL_wear_8 (by decide) ?_
    refine lv_iconst (v := 0) hx hb dL_wear_14 (by decide) ?_
    exact e_iret X hM hS (hk _ _ hP) hr hlocks (by decide) (by decide) dL_wear_15
def f_L_ofWind (K : Cfg) (a0 : Nat) (a1 : Int32) (a2 : Int32) (a3 : Nat) (k : Int32 → Mem → Prop) : Mem → Prop :=
 mRecv a0 6 <|
 f_X5_ofWind K a0 a1 a2 (fun r =>
 mStL K a3 0 r.toInt64 <|
 k 0) (fun E M => (E = "java/lang/IndexOutOfBoundsException" ∧ k 1 M))
abbrev rm_L_ofWind : Room := { frames := 8, cells := 1, slots := 6, locals := 124 }
set_option maxHeartbeats 4000000 in
set_option maxRecDepth 100000 in
theorem ct_L_ofWind {K : Cfg} {l : Launch} (hst : l.stackTraces = false) (a0 : Nat) (a1 : Int32) (a2 : Int32) (a3 : Nat) : mPW K l yL_ofWind cL_ofWind 5 (some .int) [(0, 10, 13, 23)] rm_L_ofWind [.ref a0, .int a1, .int a2, .ref a3] (f_L_ofWind K a0 a1 a2 a3) := by
  refine mPW.of hst (by decide +kernel) (Nat.le_of_ble_eq_true rfl) ?_
  intro M k Q hk hP p e s m below meth c X hr hlocks htab hM ls hl
  have hx := X.1.1
  have hb := X.1.2.1
  have hown := X.1.2.2.2.1
  have hts := X.1.2.2.2.2
  have X : Cx K p l s m ([.ref a0, .int a1, .int a2, .ref a3] : List Value).toArray c cL_ofWind 5 RL := X
  have hS : va_S (mFA K) s.heap s.heap [] := va_S.rf
  have hl : lv_has ls 5 [(0, .ref a0), (1, .int a1), (2, .int a2), (3, .ref a3)] := hl
  unfold f_L_ofWind at hP
  refine lv_aload_n hx hb dL_ofWind_0 rfl (lv_at hl 3 rfl) ?_
  refine lv_iconst (v := 0) hx hb dL_ofWind_1 (by decide) ?_
  refine lv_aload_n hx hb dL_ofWind_2 rfl (lv_at hl 0 rfl) ?_
  refine lv_iload_n hx hb dL_ofWind_3 rfl (lv_at hl 1 rfl) ?_
  refine lv_iload_n hx hb dL_ofWind_4 rfl (lv_at hl 2 rfl) ?_
  refine rx_callVi (rest := [.int 0, .ref a3]) (T := TX5) (N := 18) X hM hS (ct_X5_ofWind hst a0 a1 a2) hP mV_L_65 rfl rfl rfl hl.1 (Nat.le_of_ble_eq_true rfl) ⟨⟨by decide, by decide⟩, by decide, by decide⟩ dL_ofWind_5 ?_ (fun r M H locs hM hS hP => ?_)
  · intro E ce q9 M H locs hM hS hq hce hcv hcl
    obtain ⟨rfl, hP⟩ := hq
    refine vx_catch (name := "java/lang/IndexOutOfBoundsException") hown [] ⟨0, 10, 13, 23⟩ [] (htab.trans rfl) ?_ (by decide) (by decide) (hts _ lc_23) (va_Nw.use rfl (X.2.1.2.2.1.2.2.1 _ (List.mem_of_getElem? (i := 2) rfl))) hce hcv hcl ?_
    · intro z hz
      exact absurd hz List.not_mem_nil
    · refine lv_astore (lv' := [(4, .ref q9), (0, .ref a0), (1, .int a1), (2, .int a2), (3, .ref a3)]) hx hb dL_ofWind_13 hl (by decide) rfl (fun ls hl => ?_)
      refine lv_iconst (v := 1) hx hb dL_ofWind_15 (by decide) ?_
      exact e_iret X hM hS (hk _ _ hP) hr hlocks (by decide) (by decide) dL_ofWind_16
  · refine lv_i2l hx hb dL_ofWind_8 rfl ?_
    refine r_stl X hM hS hP dL_ofWind_9 (fun M H locs hM hS hP => ?_)
    refine lv_goto (tgt := 17) hx hb dL_ofWind_10 (by decide) ?_
    refine lv_iconst (v := 0) hx hb dL_ofWind_17 (by decide) ?_
    exact e_iret X hM hS (hk _ _ hP) hr hlocks (by decide) (by decide) dL_ofWind_18
def f_L_many (K : Cfg) (a0 : Nat) (a1 : Int32) (a2 : Nat) (k : Int32 → Mem → Prop) : Mem → Prop :=
 mRecv a0 6 <|
 f_X5_many K a0 a1 (fun r =>
 mStL K a2 0 r.toInt64 <|
 k 0) (fun E M => (E = "java/lang/IllegalArgumentException" ∧ k 1 M))
abbrev rm_L_many : Room := { frames := 7, cells := 1, slots := 6, locals := 103 }
set_option maxHeartbeats 4000000 in
set_option maxRecDepth 100000 in
theorem ct_L_many {K : Cfg} {l : Launch} (hst : l.stackTraces = false) (a0 : Nat) (a1 : Int32) (a2 : Nat) : mPW K l yL_many cL_many 4 (some .int) [(0, 9, 12, 13)] rm_L_many [.ref a0, .int a1, .ref a2] (f_L_many K a0 a1 a2) := by
  refine mPW.of hst (by decide +kernel) (Nat.le_of_ble_eq_true rfl) ?_
  intro M k Q hk hP p e s m below meth c X hr hlocks htab hM ls hl
  have hx := X.1.1
  have hb := X.1.2.1
  have hown := X.1.2.2.2.1
  have hts := X.1.2.2.2.2
  have X : Cx K p l s m ([.ref a0, .int a1, .ref a2] : List Value).toArray c cL_many 4 RL := X
  have hS : va_S (mFA K) s.heap s.heap [] := va_S.rf
  have hl : lv_has ls 4 [(0, .ref a0), (1, .int a1), (2, .ref a2)] := hl
  unfold f_L_many at hP
  refine lv_aload_n hx hb dL_many_0 rfl (lv_at hl 2 rfl) ?_
  refine lv_iconst (v := 0) hx hb dL_many_1 (by decide) ?_
  refine lv_aload_n hx hb dL_many_2 rfl (lv_at hl 0 rfl) ?_
  refine lv_iload_n hx hb dL_many_3 rfl (lv_at hl 1 rfl) ?_
  refine rx_callVi (rest := [.int 0, .ref a2]) (T := TX5) (N := 18) X hM hS (ct_X5_many hst a0 a1) hP mV_L_69 rfl rfl rfl hl.1 (Nat.le_of_ble_eq_true rfl) ⟨⟨by decide, by decide⟩, by decide, by decide⟩ dL_many_4 ?_ (fun r M H locs hM hS hP => ?_)
  · intro E ce q9 M H locs hM hS hq hce hcv hcl
    obtain ⟨rfl, hP⟩ := hq
    refine vx_catch (name := "java/lang/IllegalArgumentException") hown [] ⟨0, 9, 12, 13⟩ [] (htab.trans rfl) ?_ (by decide) (by decide) (hts _ lc_13) (va_Nw.use rfl (X.2.1.2.2.1.2.2.1 _ (List.mem_of_getElem? (i := 1) rfl))) hce hcv hcl ?_
    · intro z hz
      exact absurd hz List.not_mem_nil
    · refine lv_astore_n (lv' := [(3, .ref q9), (0, .ref a0), (1, .int a1), (2, .ref a2)]) hx hb dL_many_12 rfl hl (by decide) rfl (fun ls hl => ?_)
      refine lv_iconst (v := 1) hx hb dL_many_13 (by decide) ?_
      exact e_iret X hM hS (hk _ _ hP) hr hlocks (by decide) (by decide) dL_many_14
  · refine lv_i2l hx hb dL_many_7 rfl ?_
    refine r_stl X hM hS hP dL_many_8 (fun M H locs hM hS hP => ?_)
    refine lv_goto (tgt := 15) hx hb dL_many_9 (by decide) ?_
    refine lv_iconst (v := 0) hx hb dL_many_15 (by decide) ?_
    exact e_iret X hM hS (hk _ _ hP) hr hlocks (by decide) (by decide) dL_many_16
def f_L_order (K : Cfg) (a0 : Nat) (a1 : Int32) (a2 : Nat) (k : Int32 → Mem → Prop) : Mem → Prop :=
 mRecv a0 6 <|
 f_X5_order K a0 a1 (fun r =>
 mStL K a2 0 r.toInt64 <|
 k 0) (fun E M => (E = "java/lang/IndexOutOfBoundsException" ∧ k 1 M))
abbrev rm_L_order : Room := { frames := 7, cells := 1, slots := 6, locals := 103 }
set_option maxHeartbeats 4000000 in
set_option maxRecDepth 100000 in
theorem ct_L_order {K : Cfg} {l : Launch} (hst : l.stackTraces = false) (a0 : Nat) (a1 : Int32) (a2 : Nat) : mPW K l yL_order cL_order 4 (some .int) [(0, 9, 12, 23)] rm_L_order [.ref a0, .int a1, .ref a2] (f_L_order K a0 a1 a2) := by
  refine mPW.of hst (by decide +kernel) (Nat.le_of_ble_eq_true rfl) ?_
  intro M k Q hk hP p e s m below meth c X hr hlocks htab hM ls hl
  have hx := X.1.1
  have hb := X.1.2.1
  have hown := X.1.2.2.2.1
  have hts := X.1.2.2.2.2
  have X : Cx K p l s m ([.ref a0, .int a1, .ref a2] : List Value).toArray c cL_order 4 RL := X
  have hS : va_S (mFA K) s.heap s.heap [] := va_S.rf
  have hl : lv_has ls 4 [(0, .ref a0), (1, .int a1), (2, .ref a2)] := hl
  unfold f_L_order at hP
  refine lv_aload_n hx hb dL_order_0 rfl (lv_at hl 2 rfl) ?_
  refine lv_iconst (v := 0) hx hb dL_order_1 (by decide) ?_
  refine lv_aload_n hx hb dL_order_2 rfl (lv_at hl 0 rfl) ?_
  refine lv_iload_n hx hb dL_order_3 rfl (lv_at hl 1 rfl) ?_
  refine rx_callVi (rest := [.int 0, .ref a2]) (T := TX5) (N := 18) X hM hS (ct_X5_order hst a0 a1) hP mV_L_72 rfl rfl rfl hl.1 (Nat.le_of_ble_eq_true rfl) ⟨⟨by decide, by decide⟩, by decide, by decide⟩ dL_order_4 ?_ (fun r M H locs hM hS hP => ?_)
  · intro E ce q9 M H locs hM hS hq hce hcv hcl
    obtain ⟨rfl, hP⟩ := hq
    refine vx_catch (name := "java/lang/IndexOutOfBoundsException") hown [] ⟨0, 9, 12, 23⟩ [] (htab.trans rfl) ?_ (by decide) (by decide) (hts _ lc_23) (va_Nw.use rfl (X.2.1.2.2.1.2.2.1 _ (List.mem_of_getElem? (i := 2) rfl))) hce hcv hcl ?_
    · intro z hz
      exact absurd hz List.not_mem_nil
    · refine lv_astore_n (lv' := [(3, .ref q9), (0, .ref a0), (1, .int a1), (2, .ref a2)]) hx hb dL_order_12 rfl hl (by decide) rfl (fun ls hl => ?_)
      refine lv_iconst (v := 1) hx hb dL_order_13 (by decide) ?_
      exact e_iret X hM hS (hk _ _ hP) hr hlocks (by decide) (by decide) dL_order_14
  · refine lv_i2l hx hb dL_order_7 rfl ?_
    refine r_stl X hM hS hP dL_order_8 (fun M H locs hM hS hP => ?_)
    refine lv_goto (tgt := 15) hx hb dL_order_9 (by decide) ?_
    refine lv_iconst (v := 0) hx hb dL_order_15 (by decide) ?_
    exact e_iret X hM hS (hk _ _ hP) hr hlocks (by decide) (by decide) dL_order_16
def f_L_wouldLand (K : Cfg) (a0 : Nat) (a1 : Int32) (a2 : Int32) (a3 : Int32) (a4 : Int32) (a5 : Int32) (a6 : Nat) (k : Int32 → Mem → Prop) : Mem → Prop :=
 mRecv a0 6 <|
 f_X5_wouldLand K a0 a1 a2 a3 a4 a5 (fun r =>
 mStD K a6 0 r <|
 k 0) (fun E M => (E = "java/lang/IndexOutOfBoundsException" ∧ k 1 M) ∨ (E = "java/lang/IllegalArgumentException" ∧ k 2 M) ∨ (E = "java/lang/IllegalStateException" ∧ k 3 M))
abbrev rm_L_wouldLand : Room := { frames := 10, cells := 1, slots := 6, locals := 173 }
set_option maxHeartbeats 4000000 in
set_option maxRecDepth 100000 in
theorem ct_L_wouldLand {K : Cfg} {l : Launch} (hst : l.stackTraces = false) (a0 : Nat) (a1 : Int32) (a2 : Int32) (a3 : Int32) (a4 : Int32) (a5 : Int32) (a6 : Nat) : mPW K l yL_wouldLand cL_wouldLand 8 (some .int) [(0, 15, 18, 23), (0, 15, 22, 13), (0, 15, 26, 15)] rm_L_wouldLand [.ref a0, .int a1, .int a2, .int a3, .int a4, .int a5, .ref a6] (f_L_wouldLand K a0 a1 a2 a3 a4 a5 a6) := by
  refine mPW.of hst (by decide +kernel) (Nat.le_of_ble_eq_true rfl) ?_
  intro M k Q hk hP p e s m below meth c X hr hlocks htab hM ls hl
  have hx := X.1.1
  have hb := X.1.2.1
  have hown := X.1.2.2.2.1
  have hts := X.1.2.2.2.2
  have X : Cx K p l s m ([.ref a0, .int a1, .int a2, .int a3, .int a4, .int a5, .ref a6] : List Value).toArray c cL_wouldLand 8 RL := X
  have hS : va_S (mFA K) s.heap s.heap [] := va_S.rf
  have hl : lv_has ls 8 [(0, .ref a0), (1, .int a1), (2, .int a2), (3, .int a3), (4, .int a4), (5, .int a5), (6, .ref a6)] := hl
  unfold f_L_wouldLand at hP
  refine lv_aload hx hb dL_wouldLand_0 (lv_at hl 6 rfl) ?_
  refine lv_iconst (v := 0) hx hb dL_wouldLand_2 (by decide) ?_
  refine lv_aload_n hx hb dL_wouldLand_3 rfl (lv_at hl 0 rfl) ?_
  refine lv_iload_n hx hb dL_wouldLand_4 rfl (lv_at hl 1 rfl) ?_
  refine lv_iload_n hx hb dL_wouldLand_5 rfl (lv_at hl 2 rfl) ?_
  refine lv_iload_n hx hb dL_wouldLand_6 rfl (lv_at hl 3 rfl) ?_
  refine lv_iload hx hb dL_wouldLand_7 (lv_at hl 4 rfl) ?_
  refine lv_iload hx hb dL_wouldLand_9 (lv_at hl 5 rfl) ?_
  refine rx_callVd (rest := [.int 0, .ref a6]) (T := TX5) (N := 18) X hM hS (ct_X5_wouldLand hst a0 a1 a2 a3 a4 a5) hP mV_L_75 rfl rfl rfl hl.1 (Nat.le_of_ble_eq_true rfl) ⟨⟨by decide, by decide⟩, by decide, by decide⟩ dL_wouldLand_11 ?_ (fun r M H locs hM hS hP => ?_)
  · intro E ce q9 M H locs hM hS hq hce hcv hcl
    rcases hq with ⟨rfl, hP⟩ | ⟨rfl, hP⟩ | ⟨rfl, hP⟩
    · refine vx_catch (name := "java/lang/IndexOutOfBoundsException") hown [] ⟨0, 15, 18, 23⟩ [⟨0, 15, 22, 13⟩, ⟨0, 15, 26, 15⟩] (htab.trans rfl) ?_ (by decide) (by decide) (hts _ lc_23) (va_Nw.use rfl (X.2.1.2.2.1.2.2.1 _ (List.mem_of_getElem? (i := 2) rfl))) hce hcv hcl ?_
      · intro z hz
        exact absurd hz List.not_mem_nil
      · refine lv_astore (lv' := [(7, .ref q9), (0, .ref a0), (1, .int a1), (2, .int a2), (3, .int a3), (4, .int a4), (5, .int a5), (6, .ref a6)]) hx hb dL_wouldLand_18 hl (by decide) rfl (fun ls hl => ?_)
        refine lv_iconst (v := 1) hx hb dL_wouldLand_20 (by decide) ?_
        exact e_iret X hM hS (hk _ _ hP) hr hlocks (by decide) (by decide) dL_wouldLand_21
    · refine vx_catch (name := "java/lang/IllegalArgumentException") hown [⟨0, 15, 18, 23⟩] ⟨0, 15, 22, 13⟩ [⟨0, 15, 26, 15⟩] (htab.trans rfl) ?_ (by decide) (by decide) (hts _ lc_13) (va_Nw.use rfl (X.2.1.2.2.1.2.2.1 _ (List.mem_of_getElem? (i := 1) rfl))) hce hcv hcl ?_
      · intro z hz
        simp only [List.mem_cons, List.not_mem_nil, or_false] at hz
        subst hz
        exact Or.inr ⟨by decide, _, hts _ lc_23, X.2.1.2.2.2.1.2.2.2.2 _ (List.mem_of_getElem? (i := 2) rfl)⟩
      · refine lv_astore (lv' := [(7, .ref q9), (0, .ref a0), (1, .int a1), (2, .int a2), (3, .int a3), (4, .int a4), (5, .int a5), (6, .ref a6)]) hx hb dL_wouldLand_22 hl (by decide) rfl (fun ls hl => ?_)
        refine lv_iconst (v := 2) hx hb dL_wouldLand_24 (by decide) ?_
        exact e_iret X hM hS (hk _ _ hP) hr hlocks (by decide) (by decide) dL_wouldLand_25
    · refine vx_catch (name := "java/lang/IllegalStateException") hown [⟨0, 15, 18, 23⟩, ⟨0, 15, 22, 13⟩] ⟨0, 15, 26, 15⟩ [] (htab.trans rfl) ?_ (by decide) (by decide) (hts _ lc_15) (va_Nw.use rfl (X.2.1.2.2.1.2.2.1 _ (List.mem_of_getElem? (i := 0) rfl))) hce hcv hcl ?_
      · intro z hz
        simp only [List.mem_cons, List.not_mem_nil, or_false] at hz
        rcases hz with rfl | rfl
        · exact Or.inr ⟨by decide, _, hts _ lc_23, X.2.1.2.2.2.1.2.2.2.2 _ (List.mem_of_getElem? (i := 1) rfl)⟩
        · exact Or.inr ⟨by decide, _, hts _ lc_13, X.2.1.2.2.2.1.2.2.2.2 _ (List.mem_of_getElem? (i := 0) rfl)⟩
      · refine lv_astore (lv' := [(7, .ref q9), (0, .ref a0), (1, .int a1), (2, .int a2), (3, .int a3), (4, .int a4), (5, .int a5), (6, .ref a6)]) hx hb dL_wouldLand_26 hl (by decide) rfl (fun ls hl => ?_)
        refine lv_iconst (v := 3) hx hb dL_wouldLand_28 (by decide) ?_
        exact e_iret X hM hS (hk _ _ hP) hr hlocks (by decide) (by decide) dL_wouldLand_29
  · refine r_std X hM hS hP dL_wouldLand_14 (fun M H locs hM hS hP => ?_)
    refine lv_goto (tgt := 30) hx hb dL_wouldLand_15 (by decide) ?_
    refine lv_iconst (v := 0) hx hb dL_wouldLand_30 (by decide) ?_
    exact e_iret X hM hS (hk _ _ hP) hr hlocks (by decide) (by decide) dL_wouldLand_31
def f_L_takes (K : Cfg) (a0 : Nat) (a1 : Int32) (a2 : Int32) (a3 : Int32) (a4 : Nat) (k : Int32 → Mem → Prop) : Mem → Prop :=
 mRecv a0 6 <|
 f_X5_takes K a0 a1 a2 a3 (fun r =>
 mStL K a4 0 r.toInt64 <|
 k 0) (fun E M => (E = "java/lang/IndexOutOfBoundsException" ∧ k 1 M) ∨ (E = "java/lang/IllegalArgumentException" ∧ k 2 M) ∨ (E = "java/lang/IllegalStateException" ∧ k 3 M))
abbrev rm_L_takes : Room := { frames := 10, cells := 1, slots := 6, locals := 171 }
set_option maxHeartbeats 4000000 in
set_option maxRecDepth 100000 in
theorem ct_L_takes {K : Cfg} {l : Launch} (hst : l.stackTraces = false) (a0 : Nat) (a1 : Int32) (a2 : Int32) (a3 : Int32) (a4 : Nat) : mPW K l yL_takes cL_takes 6 (some .int) [(0, 12, 15, 23), (0, 12, 19, 13), (0, 12, 23, 15)] rm_L_takes [.ref a0, .int a1, .int a2, .int a3, .ref a4] (f_L_takes K a0 a1 a2 a3 a4) := by
  refine mPW.of hst (by decide +kernel) (Nat.le_of_ble_eq_true rfl) ?_
  intro M k Q hk hP p e s m below meth c X hr hlocks htab hM ls hl
  have hx := X.1.1
  have hb := X.1.2.1
  have hown := X.1.2.2.2.1
  have hts := X.1.2.2.2.2
  have X : Cx K p l s m ([.ref a0, .int a1, .int a2, .int a3, .ref a4] : List Value).toArray c cL_takes 6 RL := X
  have hS : va_S (mFA K) s.heap s.heap [] := va_S.rf
  have hl : lv_has ls 6 [(0, .ref a0), (1, .int a1), (2, .int a2), (3, .int a3), (4, .ref a4)] := hl
  unfold f_L_takes at hP
  refine lv_aload hx hb dL_takes_0 (lv_at hl 4 rfl) ?_
  refine lv_iconst (v := 0) hx hb dL_takes_2 (by decide) ?_
  refine lv_aload_n hx hb dL_takes_3 rfl (lv_at hl 0 rfl) ?_
  refine lv_iload_n hx hb dL_takes_4 rfl (lv_at hl 1 rfl) ?_
  refine lv_iload_n hx hb dL_takes_5 rfl (lv_at hl 2 rfl) ?_
  refine lv_iload_n hx hb dL_takes_6 rfl (lv_at hl 3 rfl) ?_
  refine rx_callVi (rest := [.int 0, .ref a4]) (T := TX5) (N := 18) X hM hS (ct_X5_takes hst a0 a1 a2 a3) hP mV_L_79 rfl rfl rfl hl.1 (Nat.le_of_ble_eq_true rfl) ⟨⟨by decide, by decide⟩, by decide, by decide⟩ dL_takes_7 ?_ (fun r M H locs hM hS hP => ?_)
  · intro E ce q9 M H locs hM hS hq hce hcv hcl
    rcases hq with ⟨rfl, hP⟩ | ⟨rfl, hP⟩ | ⟨rfl, hP⟩
    · refine vx_catch (name := "java/lang/IndexOutOfBoundsException") hown [] ⟨0, 12, 15, 23⟩ [⟨0, 12, 19, 13⟩, ⟨0, 12, 23, 15⟩] (htab.trans rfl) ?_ (by decide) (by decide) (hts _ lc_23) (va_Nw.use rfl (X.2.1.2.2.1.2.2.1 _ (List.mem_of_getElem? (i := 2) rfl))) hce hcv hcl ?_
      · intro z hz
        exact absurd hz List.not_mem_nil
      · refine lv_astore (lv' := [(5, .ref q9), (0, .ref a0), (1, .int a1), (2, .int a2), (3, .int a3), (4, .ref a4)]) hx hb dL_takes_15 hl (by decide) rfl (fun ls hl => ?_)
        refine lv_iconst (v := 1) hx hb dL_takes_17 (by decide) ?_
        exact e_iret X hM hS (hk _ _ hP) hr hlocks (by decide) (by decide) dL_takes_18
    · refine vx_catch (name := "java/lang/IllegalArgumentException") hown [⟨0, 12, 15, 23⟩] ⟨0, 12, 19, 13⟩ [⟨0, 12, 23, 15⟩] (htab.trans rfl) ?_ (by decide) (by decide) (hts _ lc_13) (va_Nw.use rfl (X.2.1.2.2.1.2.2.1 _ (List.mem_of_getElem? (i := 1) rfl))) hce hcv hcl ?_
      · intro z hz
        simp only [List.mem_cons, List.not_mem_nil, or_false] at hz
        subst hz
        exact Or.inr ⟨by decide, _, hts _ lc_23, X.2.1.2.2.2.1.2.2.2.2 _ (List.mem_of_getElem? (i := 2) rfl)⟩
      · refine lv_astore (lv' := [(5, .ref q9), (0, .ref a0), (1, .int a1), (2, .int a2), (3, .int a3), (4, .ref a4)]) hx hb dL_takes_19 hl (by decide) rfl (fun ls hl => ?_)
        refine lv_iconst (v := 2) hx hb dL_takes_21 (by decide) ?_
        exact e_iret X hM hS (hk _ _ hP) hr hlocks (by decide) (by decide) dL_takes_22
    · refine vx_catch (name := "java/lang/IllegalStateException") hown [⟨0, 12, 15, 23⟩, ⟨0, 12, 19, 13⟩] ⟨0, 12, 23, 15⟩ [] (htab.trans rfl) ?_ (by decide) (by decide) (hts _ lc_15) (va_Nw.use rfl (X.2.1.2.2.1.2.2.1 _ (List.mem_of_getElem? (i := 0) rfl))) hce hcv hcl ?_
      · intro z hz
        simp only [List.mem_cons, List.not_mem_nil, or_false] at hz
        rcases hz with rfl | rfl
        · exact Or.inr ⟨by decide, _, hts _ lc_23, X.2.1.2.2.2.1.2.2.2.2 _ (List.mem_of_getElem? (i := 1) rfl)⟩
        · exact Or.inr ⟨by decide, _, hts _ lc_13, X.2.1.2.2.2.1.2.2.2.2 _ (List.mem_of_getElem? (i := 0) rfl)⟩
      · refine lv_astore (lv' := [(5, .ref q9), (0, .ref a0), (1, .int a1), (2, .int a2), (3, .int a3), (4, .ref a4)]) hx hb dL_takes_23 hl (by decide) rfl (fun ls hl => ?_)
        refine lv_iconst (v := 3) hx hb dL_takes_25 (by decide) ?_
        exact e_iret X hM hS (hk _ _ hP) hr hlocks (by decide) (by decide) dL_takes_26
  · refine lv_i2l hx hb dL_takes_10 rfl ?_
    refine r_stl X hM hS hP dL_takes_11 (fun M H locs hM hS hP => ?_)
    refine lv_goto (tgt := 27) hx hb dL_takes_12 (by decide) ?_
    refine lv_iconst (v := 0) hx hb dL_takes_27 (by decide) ?_
    exact e_iret X hM hS (hk _ _ hP) hr hlocks (by decide) (by decide) dL_takes_28
def f_L_spot (K : Cfg) (a0 : Nat) (a1 : Int32) (a2 : Nat) (k : Int32 → Mem → Prop) : Mem → Prop :=
 mRecv a0 6 <|
 f_X5_spot K a0 a1 (fun r =>
 mStL K a2 0 r.toInt64 <|
 k 0) (fun E M => (E = "java/lang/IllegalArgumentException" ∧ k 1 M))
abbrev rm_L_spot : Room := { frames := 10, cells := 1, slots := 6, locals := 171 }
set_option maxHeartbeats 4000000 in
set_option maxRecDepth 100000 in
theorem ct_L_spot {K : Cfg} {l : Launch} (hst : l.stackTraces = false) (a0 : Nat) (a1 : Int32) (a2 : Nat) : mPW K l yL_spot cL_spot 4 (some .int) [(0, 9, 12, 13)] rm_L_spot [.ref a0, .int a1, .ref a2] (f_L_spot K a0 a1 a2) := by
  refine mPW.of hst (by decide +kernel) (Nat.le_of_ble_eq_true rfl) ?_
  intro M k Q hk hP p e s m below meth c X hr hlocks htab hM ls hl
  have hx := X.1.1
  have hb := X.1.2.1
  have hown := X.1.2.2.2.1
  have hts := X.1.2.2.2.2
  have X : Cx K p l s m ([.ref a0, .int a1, .ref a2] : List Value).toArray c cL_spot 4 RL := X
  have hS : va_S (mFA K) s.heap s.heap [] := va_S.rf
  have hl : lv_has ls 4 [(0, .ref a0), (1, .int a1), (2, .ref a2)] := hl
  unfold f_L_spot at hP
  refine lv_aload_n hx hb dL_spot_0 rfl (lv_at hl 2 rfl) ?_
  refine lv_iconst (v := 0) hx hb dL_spot_1 (by decide) ?_
  refine lv_aload_n hx hb dL_spot_2 rfl (lv_at hl 0 rfl) ?_
  refine lv_iload_n hx hb dL_spot_3 rfl (lv_at hl 1 rfl) ?_
  refine rx_callVi (rest := [.int 0, .ref a2]) (T := TX5) (N := 18) X hM hS (ct_X5_spot hst a0 a1) hP mV_L_82 rfl rfl rfl hl.1 (Nat.le_of_ble_eq_true rfl) ⟨⟨by decide, by decide⟩, by decide, by decide⟩ dL_spot_4 ?_ (fun r M H locs hM hS hP => ?_)
  · intro E ce q9 M H locs hM hS hq hce hcv hcl
    obtain ⟨rfl, hP⟩ := hq
    refine vx_catch (name := "java/lang/IllegalArgumentException") hown [] ⟨0, 9, 12, 13⟩ [] (htab.trans rfl) ?_ (by decide) (by decide) (hts _ lc_13) (va_Nw.use rfl (X.2.1.2.2.1.2.2.1 _ (List.mem_of_getElem? (i := 1) rfl))) hce hcv hcl ?_
    · intro z hz
      exact absurd hz List.not_mem_nil
    · refine lv_astore_n (lv' := [(3, .ref q9), (0, .ref a0), (1, .int a1), (2, .ref a2)]) hx hb dL_spot_12 rfl hl (by decide) rfl (fun ls hl => ?_)
      refine lv_iconst (v := 1) hx hb dL_spot_13 (by decide) ?_
      exact e_iret X hM hS (hk _ _ hP) hr hlocks (by decide) (by decide) dL_spot_14
  · refine lv_i2l hx hb dL_spot_7 rfl ?_
    refine r_stl X hM hS hP dL_spot_8 (fun M H locs hM hS hP => ?_)
    refine lv_goto (tgt := 15) hx hb dL_spot_9 (by decide) ?_
    refine lv_iconst (v := 0) hx hb dL_spot_15 (by decide) ?_
    exact e_iret X hM hS (hk _ _ hP) hr hlocks (by decide) (by decide) dL_spot_16
def f_L_wouldMeet (K : Cfg) (a0 : Nat) (a1 : Int32) (a2 : Int32) (a3 : Nat) (k : Int32 → Mem → Prop) : Mem → Prop :=
 mRecv a0 6 <|
 f_X5_wouldMeet K a0 a1 a2 (fun r =>
 mStL K a3 0 r.toInt64 <|
 k 0) (fun E M => (E = "java/lang/IllegalArgumentException" ∧ k 1 M))
abbrev rm_L_wouldMeet : Room := { frames := 10, cells := 1, slots := 6, locals := 168 }
set_option maxHeartbeats 4000000 in
set_option maxRecDepth 100000 in
theorem ct_L_wouldMeet {K : Cfg} {l : Launch} (hst : l.stackTraces = false) (a0 : Nat) (a1 : Int32) (a2 : Int32) (a3 : Nat) : mPW K l yL_wouldMeet cL_wouldMeet 5 (some .int) [(0, 10, 13, 13)] rm_L_wouldMeet [.ref a0, .int a1, .int a2, .ref a3] (f_L_wouldMeet K a0 a1 a2 a3) := by
  refine mPW.of hst (by decide +kernel) (Nat.le_of_ble_eq_true rfl) ?_
  intro M k Q hk hP p e s m below meth c X hr hlocks htab hM ls hl
  have hx := X.1.1
  have hb := X.1.2.1
  have hown := X.1.2.2.2.1
  have hts := X.1.2.2.2.2
  have X : Cx K p l s m ([.ref a0, .int a1, .int a2, .ref a3] : List Value).toArray c cL_wouldMeet 5 RL := X
  have hS : va_S (mFA K) s.heap s.heap [] := va_S.rf
  have hl : lv_has ls 5 [(0, .ref a0), (1, .int a1), (2, .int a2), (3, .ref a3)] := hl
  unfold f_L_wouldMeet at hP
  refine lv_aload_n hx hb dL_wouldMeet_0 rfl (lv_at hl 3 rfl) ?_
  refine lv_iconst (v := 0) hx hb dL_wouldMeet_1 (by decide) ?_
  refine lv_aload_n hx hb dL_wouldMeet_2 rfl (lv_at hl 0 rfl) ?_
  refine lv_iload_n hx hb dL_wouldMeet_3 rfl (lv_at hl 1 rfl) ?_
  refine lv_iload_n hx hb dL_wouldMeet_4 rfl (lv_at hl 2 rfl) ?_
  refine rx_callVi (rest := [.int 0, .ref a3]) (T := TX5) (N := 18) X hM hS (ct_X5_wouldMeet hst a0 a1 a2) hP mV_L_85 rfl rfl rfl hl.1 (Nat.le_of_ble_eq_true rfl) ⟨⟨by decide, by decide⟩, by decide, by decide⟩ dL_wouldMeet_5 ?_ (fun r M H locs hM hS hP => ?_)
  · intro E ce q9 M H locs hM hS hq hce hcv hcl
    obtain ⟨rfl, hP⟩ := hq
    refine vx_catch (name := "java/lang/IllegalArgumentException") hown [] ⟨0, 10, 13, 13⟩ [] (htab.trans rfl) ?_ (by decide) (by decide) (hts _ lc_13) (va_Nw.use rfl (X.2.1.2.2.1.2.2.1 _ (List.mem_of_getElem? (i := 1) rfl))) hce hcv hcl ?_
    · intro z hz
      exact absurd hz List.not_mem_nil
    · refine lv_astore (lv' := [(4, .ref q9), (0, .ref a0), (1, .int a1), (2, .int a2), (3, .ref a3)]) hx hb dL_wouldMeet_13 hl (by decide) rfl (fun ls hl => ?_)
      refine lv_iconst (v := 1) hx hb dL_wouldMeet_15 (by decide) ?_
      exact e_iret X hM hS (hk _ _ hP) hr hlocks (by decide) (by decide) dL_wouldMeet_16
  · refine lv_i2l hx hb dL_wouldMeet_8 rfl ?_
    refine r_stl X hM hS hP dL_wouldMeet_9 (fun M H locs hM hS hP => ?_)
    refine lv_goto (tgt := 17) hx hb dL_wouldMeet_10 (by decide) ?_
    refine lv_iconst (v := 0) hx hb dL_wouldMeet_17 (by decide) ?_
    exact e_iret X hM hS (hk _ _ hP) hr hlocks (by decide) (by decide) dL_wouldMeet_18
def f_L_best (K : Cfg) (a0 : Nat) (a1 : Int32) (a2 : Nat) (k : Int32 → Mem → Prop) : Mem → Prop :=
 mRecv a0 6 <|
 f_X5_best K a0 a1 (fun r =>
 mStL K a2 0 r.toInt64 <|
 k 0) (fun E M => (E = "java/lang/IndexOutOfBoundsException" ∧ k 1 M))
abbrev rm_L_best : Room := { frames := 9, cells := 1, slots := 6, locals := 152 }
set_option maxHeartbeats 4000000 in
set_option maxRecDepth 100000 in
theorem ct_L_best {K : Cfg} {l : Launch} (hst : l.stackTraces = false) (a0 : Nat) (a1 : Int32) (a2 : Nat) : mPW K l yL_best cL_best 4 (some .int) [(0, 9, 12, 23)] rm_L_best [.ref a0, .int a1, .ref a2] (f_L_best K a0 a1 a2) := by
  refine mPW.of hst (by decide +kernel) (Nat.le_of_ble_eq_true rfl) ?_
  intro M k Q hk hP p e s m below meth c X hr hlocks htab hM ls hl
  have hx := X.1.1
  have hb := X.1.2.1
  have hown := X.1.2.2.2.1
  have hts := X.1.2.2.2.2
  have X : Cx K p l s m ([.ref a0, .int a1, .ref a2] : List Value).toArray c cL_best 4 RL := X
  have hS : va_S (mFA K) s.heap s.heap [] := va_S.rf
  have hl : lv_has ls 4 [(0, .ref a0), (1, .int a1), (2, .ref a2)] := hl
  unfold f_L_best at hP
  refine lv_aload_n hx hb dL_best_0 rfl (lv_at hl 2 rfl) ?_
  refine lv_iconst (v := 0) hx hb dL_best_1 (by decide) ?_
  refine lv_aload_n hx hb dL_best_2 rfl (lv_at hl 0 rfl) ?_
  refine lv_iload_n hx hb dL_best_3 rfl (lv_at hl 1 rfl) ?_
  refine rx_callVi (rest := [.int 0, .ref a2]) (T := TX5) (N := 18) X hM hS (ct_X5_best hst a0 a1) hP mV_L_88 rfl rfl rfl hl.1 (Nat.le_of_ble_eq_true rfl) ⟨⟨by decide, by decide⟩, by decide, by decide⟩ dL_best_4 ?_ (fun r M H locs hM hS hP => ?_)
  · intro E ce q9 M H locs hM hS hq hce hcv hcl
    obtain ⟨rfl, hP⟩ := hq
    refine vx_catch (name := "java/lang/IndexOutOfBoundsException") hown [] ⟨0, 9, 12, 23⟩ [] (htab.trans rfl) ?_ (by decide) (by decide) (hts _ lc_23) (va_Nw.use rfl (X.2.1.2.2.1.2.2.1 _ (List.mem_of_getElem? (i := 2) rfl))) hce hcv hcl ?_
    · intro z hz
      exact absurd hz List.not_mem_nil
    · refine lv_astore_n (lv' := [(3, .ref q9), (0, .ref a0), (1, .int a1), (2, .ref a2)]) hx hb dL_best_12 rfl hl (by decide) rfl (fun ls hl => ?_)
      refine lv_iconst (v := 1) hx hb dL_best_13 (by decide) ?_
      exact e_iret X hM hS (hk _ _ hP) hr hlocks (by decide) (by decide) dL_best_14
  · refine lv_i2l hx hb dL_best_7 rfl ?_
    refine r_stl X hM hS hP dL_best_8 (fun M H locs hM hS hP => ?_)
    refine lv_goto (tgt := 15) hx hb dL_best_9 (by decide) ?_
    refine lv_iconst (v := 0) hx hb dL_best_15 (by decide) ?_
    exact e_iret X hM hS (hk _ _ hP) hr hlocks (by decide) (by decide) dL_best_16
