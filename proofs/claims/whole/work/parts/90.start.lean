/-! ===== the start: what every method is given ===== -/
set_option maxHeartbeats 40000000 in
set_option maxRecDepth 100000 in
theorem gs_start {s : State} {b : Nat} (hts : ∀ w ∈ lw_tbl, w.before #[Value.ref b] s = true) (hgv : (Jvm.Cond.and given_1 narrow_1).before #[Value.ref b] s = true) : ∃ K : Cfg, GS K s ∧ K.2.2 0 = s.heap.size ∧ K.2.2 2 ≠ K.2.2 3 ∧ K.2.2 1 < s.heap.size ∧ K.2.2 2 < s.heap.size ∧ K.2.2 3 < s.heap.size := by
  have hfl := flat_of_before _ hgv
  have hts9 : ∀ w ∈ mLA, w.before #[Value.ref b] s = true := fun w h => hts w (mLA_tbl h)
  have hA : ∀ a : Nat, a < s.heap.size → ¬ (fun q : Nat => s.heap.size ≤ q) a := fun a h h2 => absurd h (Nat.not_lt.mpr h2)
  obtain ⟨c0, i0, k0⟩ := u_known (C := RJx4a65c) (T := TJx4a65c) (N := 3) (n := 3) hts9 in_Jx4a65c (hts _ (List.mem_append_right _ (List.mem_of_getElem? (i := 765) (by decide +kernel))))
  obtain ⟨c1, i1, k1⟩ := u_known (C := RX0) (T := TX0) (N := 2) (n := 2) hts9 in_X0 (hts _ (List.mem_append_right _ (List.mem_of_getElem? (i := 55) (by decide +kernel))))
  obtain ⟨c2, i2, k2⟩ := u_known (C := RX1) (T := TX1) (N := 11) (n := 11) hts9 in_X1 (hts _ (List.mem_append_right _ (List.mem_of_getElem? (i := 62) (by decide +kernel))))
  obtain ⟨c3, i3, k3⟩ := u_known (C := RX2) (T := TX2) (N := 12) (n := 12) hts9 in_X2 (hts _ (List.mem_append_right _ (List.mem_of_getElem? (i := 116) (by decide +kernel))))
  obtain ⟨c4, i4, k4⟩ := u_known (C := RX3) (T := TX3) (N := 5) (n := 5) hts9 in_X3 (hts _ (List.mem_append_right _ (List.mem_of_getElem? (i := 170) (by decide +kernel))))
  obtain ⟨c5, i5, k5⟩ := u_known (C := RX4) (T := TX4) (N := 2) (n := 2) hts9 in_X4 (hts _ (List.mem_append_right _ (List.mem_of_getElem? (i := 41) (by decide +kernel))))
  obtain ⟨c6, i6, k6⟩ := u_known (C := RX5) (T := TX5) (N := 18) (n := 18) hts9 in_X5 (hts _ (List.mem_append_right _ (List.mem_of_getElem? (i := 29) (by decide +kernel))))
  obtain ⟨c7, i7, k7⟩ := u_known (C := RX6) (T := TX6) (N := 13) (n := 13) hts9 in_X6 (hts _ (List.mem_append_right _ (List.mem_of_getElem? (i := 1111) (by decide +kernel))))
  obtain ⟨c8, i8, k8⟩ := u_known (C := RX7) (T := TX7) (N := 12) (n := 12) hts9 in_X7 (hts _ (List.mem_append_right _ (List.mem_of_getElem? (i := 861) (by decide +kernel))))
  obtain ⟨c9, i9, k9⟩ := u_known (C := RX8) (T := TX8) (N := 5) (n := 5) hts9 in_X8 (hts _ (List.mem_append_right _ (List.mem_of_getElem? (i := 978) (by decide +kernel))))
  obtain ⟨c10, i10, k10⟩ := u_known (C := RX9) (T := TX9) (N := 14) (n := 14) hts9 in_X9 (hts _ (List.mem_append_right _ (List.mem_of_getElem? (i := 759) (by decide +kernel))))
  obtain ⟨a0, kA0, co0, f01, f02, f03⟩ := Cond.arrayClass_spec (type := .int) (hts _ (List.mem_append_right _ (List.mem_of_getElem? (i := 53) (by decide +kernel))))
  obtain ⟨a1, kA1, co1, f11, f12, f13⟩ := Cond.arrayClass_spec (type := .long) (hts _ (List.mem_append_right _ (List.mem_of_getElem? (i := 1339) (by decide +kernel))))
  obtain ⟨a2, kA2, co2, f21, f22, f23⟩ := Cond.arrayClass_spec (type := .double) (hts _ (List.mem_append_right _ (List.mem_of_getElem? (i := 1340) (by decide +kernel))))
  obtain ⟨a3, kA3, co3, f31, f32, f33⟩ := Cond.arrayClass_spec (type := .boolean) (hts _ (List.mem_append_right _ (List.mem_of_getElem? (i := 1242) (by decide +kernel))))
  have ao4 : (Cond.arrayOver (.object "ChuteLoft$Jumper")).before #[Value.ref b] s = true := hts _ (List.mem_append_right _ (List.mem_of_getElem? (i := 37) (by decide +kernel)))
  obtain ⟨co4, a4, kA4, f41, -, f42, f43, f44⟩ := Cond.arrayOver_spec ao4
  have ao5 : (Cond.arrayOver (.object "ChuteLoft$Rig")).before #[Value.ref b] s = true := hts _ (List.mem_append_right _ (List.mem_of_getElem? (i := 39) (by decide +kernel)))
  obtain ⟨co5, a5, kA5, f51, -, f52, f53, f54⟩ := Cond.arrayOver_spec ao5
  have ao6 : (Cond.arrayOver (.object "ChuteLoft$Jump")).before #[Value.ref b] s = true := hts _ (List.mem_append_right _ (List.mem_of_getElem? (i := 61) (by decide +kernel)))
  obtain ⟨co6, a6, kA6, f61, -, f62, f63, f64⟩ := Cond.arrayOver_spec ao6
  have ao7 : (Cond.arrayOver (.object "java/lang/Object")).before #[Value.ref b] s = true := hts _ (List.mem_append_right _ (List.mem_of_getElem? (i := 963) (by decide +kernel)))
  obtain ⟨co7, a7, kA7, f71, -, f72, f73, f74⟩ := Cond.arrayOver_spec ao7
  have ao8 : (Cond.arrayOver (.array .boolean)).before #[Value.ref b] s = true := hts _ (List.mem_append_right _ (List.mem_of_getElem? (i := 1167) (by decide +kernel)))
  obtain ⟨co8, a8, kA8, f81, -, f82, f83, f84⟩ := va_AOA.spec (t := .boolean) ao8
  obtain ⟨tG, eG, hG⟩ : ∃ t : Nat, (Term.static RX5 "GROUND_LIMITS" "[I").eval #[Value.ref b] s none [] s = some (.ref t) ∧ va_T .int t 4 (fun j => .int (mGL j)) (fun q : Nat => s.heap.size ≤ q) s s.heap := by
    refine va_Tof (tm := .static RX5 "GROUND_LIMITS" "[I") (ty := .int) (N := 4) (f := fun j => .int (mGL j)) (A := fun q : Nat => s.heap.size ≤ q) (by decide) (hfl _ (List.mem_of_getElem? (i := 7) (by decide +kernel))) (va_eqt (hfl _ (List.mem_of_getElem? (i := 8) (by decide +kernel)))) (fun j hj => ?_) hA
    rcases (show j = 0 ∨ j = 1 ∨ j = 2 ∨ j = 3 by omega) with rfl | rfl | rfl | rfl
    · exact va_eqt (hfl _ (List.mem_of_getElem? (i := 9) (by decide +kernel)))
    · exact va_eqt (hfl _ (List.mem_of_getElem? (i := 10) (by decide +kernel)))
    · exact va_eqt (hfl _ (List.mem_of_getElem? (i := 11) (by decide +kernel)))
    · exact va_eqt (hfl _ (List.mem_of_getElem? (i := 12) (by decide +kernel)))
  obtain ⟨tL, eL, hL⟩ : ∃ t : Nat, (Term.static RX5 "LOADING_LIMITS" "[I").eval #[Value.ref b] s none [] s = some (.ref t) ∧ va_T .int t 4 (fun j => .int (mLL j)) (fun q : Nat => s.heap.size ≤ q) s s.heap := by
    refine va_Tof (tm := .static RX5 "LOADING_LIMITS" "[I") (ty := .int) (N := 4) (f := fun j => .int (mLL j)) (A := fun q : Nat => s.heap.size ≤ q) (by decide) (hfl _ (List.mem_of_getElem? (i := 14) (by decide +kernel))) (va_eqt (hfl _ (List.mem_of_getElem? (i := 15) (by decide +kernel)))) (fun j hj => ?_) hA
    rcases (show j = 0 ∨ j = 1 ∨ j = 2 ∨ j = 3 by omega) with rfl | rfl | rfl | rfl
    · exact va_eqt (hfl _ (List.mem_of_getElem? (i := 16) (by decide +kernel)))
    · exact va_eqt (hfl _ (List.mem_of_getElem? (i := 17) (by decide +kernel)))
    · exact va_eqt (hfl _ (List.mem_of_getElem? (i := 18) (by decide +kernel)))
    · exact va_eqt (hfl _ (List.mem_of_getElem? (i := 19) (by decide +kernel)))
  obtain ⟨tE, eE, hE⟩ := va_Tof (tm := .static RJx4a65c "DEFAULTCAPACITY_EMPTY_ELEMENTDATA" "[Ljava/lang/Object;") (ty := .object "java/lang/Object") (N := 0) (f := fun _ => .null) (A := fun q : Nat => s.heap.size ≤ q) (by decide) (hfl _ (List.mem_of_getElem? (i := 21) (by decide +kernel))) (va_eqt (hfl _ (List.mem_of_getElem? (i := 23) (by decide +kernel)))) (fun j hj => absurd hj (Nat.not_lt_zero j)) hA
  have hne : tG ≠ tL := fun e => by
    obtain ⟨cell, g1, -, -, -, -, g6, -⟩ := id hG
    obtain ⟨cell', l1, -, -, -, -, l6, -⟩ := id hL
    rw [e] at g1
    cases g1.symm.trans l1
    have h1 := (g6 0 (by decide)).symm.trans (l6 0 (by decide))
    simp [mGL, mLL] at h1
  let K : Cfg := ((fun k => [c0, c1, c2, c3, c4, c5, c6, c7, c8, c9, c10].getD k 0, fun k => [i0, i1, i2, i3, i4, i5, i6, i7, i8, i9, i10].getD k (fun _ => 0)), fun k => [a0, a1, a2, a3, a4, a5, a6, a7, a8].getD k 0, fun k => [s.heap.size, tE, tG, tL].getD k 0)
  have lt : ∀ {ty : FieldType} {t N : Nat} {f : Nat → Value}, va_T ty t N f (fun q : Nat => s.heap.size ≤ q) s s.heap → t < s.heap.size := fun h => by obtain ⟨cell, h1, -⟩ := h; exact (Array.getElem?_eq_some_iff.mp h1).1
  refine ⟨K, ⟨Nat.le_refl _, ⟨fun c q hq => ?_, fun k q hq => ?_⟩, ⟨?_, ?_, ?_, ?_⟩, ⟨?_, ?_, ao8, ?_, ?_⟩, ⟨?_, ?_⟩, ⟨⟨?_, hG⟩, ?_, hL⟩, ⟨?_, hE⟩, ?_⟩, rfl, hne, lt hE, lt hG, lt hL⟩
  · match c, hq with
    | 0, hq => cases hq; exact k0
    | 1, hq => cases hq; exact k1
    | 2, hq => cases hq; exact k2
    | 3, hq => cases hq; exact k3
    | 4, hq => cases hq; exact k4
    | 5, hq => cases hq; exact k5
    | 6, hq => cases hq; exact k6
    | 7, hq => cases hq; exact k7
    | 8, hq => cases hq; exact k8
    | 9, hq => cases hq; exact k9
    | 10, hq => cases hq; exact k10
    | c + 11, hq => exact absurd hq (by simp [vwCl])
  · match k, hq with
    | 0, hq => cases hq; exact ⟨fun n z => ⟨fun k h => (by cases h), kA0, f02, co0, f03⟩, f01⟩
    | 1, hq => cases hq; exact ⟨fun n z => ⟨fun k h => (by cases h), kA1, f12, co1, f13⟩, f11⟩
    | 2, hq => cases hq; exact ⟨fun n z => ⟨fun k h => (by cases h), kA2, f22, co2, f23⟩, f21⟩
    | 3, hq => cases hq; exact ⟨fun n z => ⟨fun k h => (by cases h), kA3, f32, co3, f33⟩, f31⟩
    | 4, hq => cases hq; exact ⟨fun n z => ⟨fun k h => (by cases h), kA4, f42, co4, f43⟩, kA4, co4, f42, f43, f41, f44⟩
    | 5, hq => cases hq; exact ⟨fun n z => ⟨fun k h => (by cases h), kA5, f52, co5, f53⟩, kA5, co5, f52, f53, f51, f54⟩
    | 6, hq => cases hq; exact ⟨fun n z => ⟨fun k h => (by cases h), kA6, f62, co6, f63⟩, kA6, co6, f62, f63, f61, f64⟩
    | 7, hq => cases hq; exact ⟨fun n z => ⟨fun k h => (by cases h), kA7, f72, co7, f73⟩, kA7, co7, f72, f73, f71, f74⟩
    | 8, hq => cases hq; exact ⟨fun n z => ⟨fun k h => (by cases h), kA8, f82, co8, f83⟩, f84⟩
    | k + 9, hq => exact absurd hq (by simp [mTys])
  · intro q hq
    simp only [mNwM, List.mem_cons, List.not_mem_nil, or_false] at hq
    rcases hq with rfl | rfl | rfl | rfl | rfl | rfl
    · exact va_Nw.of rfl (hts _ (List.mem_append_right _ (List.mem_of_getElem? (i := 42) (by decide +kernel))))
    · exact va_Nw.of rfl (hts _ (List.mem_append_right _ (List.mem_of_getElem? (i := 63) (by decide +kernel))))
    · exact va_Nw.of rfl (hts _ (List.mem_append_right _ (List.mem_of_getElem? (i := 115) (by decide +kernel))))
    · exact va_Nw.of rfl (hts _ (List.mem_append_right _ (List.mem_of_getElem? (i := 117) (by decide +kernel))))
    · exact va_Nw.of rfl (hts _ (List.mem_append_right _ (List.mem_of_getElem? (i := 171) (by decide +kernel))))
    · exact va_Nw.of rfl (hts _ (List.mem_append_right _ (List.mem_of_getElem? (i := 1117) (by decide +kernel))))
  · intro q hq
    simp only [mNwF, List.mem_cons, List.not_mem_nil, or_false] at hq
    rcases hq with rfl | rfl
    · exact va_Nw.of rfl (hts _ (List.mem_append_right _ (List.mem_of_getElem? (i := 794) (by decide +kernel))))
    · exact va_Nw.of rfl (hts _ (List.mem_append_right _ (List.mem_of_getElem? (i := 796) (by decide +kernel))))
  · intro q hq
    simp only [mNwC, List.mem_cons, List.not_mem_nil, or_false] at hq
    rcases hq with rfl | rfl | rfl | rfl | rfl | rfl
    · exact va_Nw.of rfl (hts _ (List.mem_append_right _ (List.mem_of_getElem? (i := 574) (by decide +kernel))))
    · exact va_Nw.of rfl (hts _ (List.mem_append_right _ (List.mem_of_getElem? (i := 282) (by decide +kernel))))
    · exact va_Nw.of rfl (hts _ (List.mem_append_right _ (List.mem_of_getElem? (i := 362) (by decide +kernel))))
    · exact va_Nw.of rfl (hts _ (List.mem_append_right _ (List.mem_of_getElem? (i := 1355) (by decide +kernel))))
    · exact va_Nw.of rfl (hts _ (List.mem_append_right _ (List.mem_of_getElem? (i := 1352) (by decide +kernel))))
    · exact va_Nw.of rfl (hts _ (List.mem_append_right _ (List.mem_of_getElem? (i := 1353) (by decide +kernel))))
  · intro q hq
    simp only [mNwD, List.mem_cons, List.not_mem_nil, or_false] at hq
    rcases hq with rfl | rfl | rfl
    · exact va_Nw.of rfl (hts _ (List.mem_append_right _ (List.mem_of_getElem? (i := 284) (by decide +kernel))))
    · exact va_Nw.of rfl (hts _ (List.mem_append_right _ (List.mem_of_getElem? (i := 286) (by decide +kernel))))
    · exact va_Nw.of rfl (hts _ (List.mem_append_right _ (List.mem_of_getElem? (i := 288) (by decide +kernel))))
  · intro q hq
    simp only [mFwl, List.mem_cons, List.not_mem_nil, or_false] at hq
    rcases hq with rfl | rfl | rfl
    · exact va_Fw.of (hts _ (List.mem_append_right _ (List.mem_of_getElem? (i := 853) (by decide +kernel)))) (hts _ (List.mem_append_right _ (List.mem_of_getElem? (i := 852) (by decide +kernel)))) (hts _ (List.mem_append_right _ (List.mem_of_getElem? (i := 858) (by decide +kernel)))) (hts _ (List.mem_append_right _ (List.mem_of_getElem? (i := 856) (by decide +kernel)))) (hts _ (List.mem_append_right _ (List.mem_of_getElem? (i := 854) (by decide +kernel))))
    · exact va_Fw.of (hts _ (List.mem_append_right _ (List.mem_of_getElem? (i := 1020) (by decide +kernel)))) (hts _ (List.mem_append_right _ (List.mem_of_getElem? (i := 1019) (by decide +kernel)))) (hts _ (List.mem_append_right _ (List.mem_of_getElem? (i := 1024) (by decide +kernel)))) (hts _ (List.mem_append_right _ (List.mem_of_getElem? (i := 1022) (by decide +kernel)))) (hts _ (List.mem_append_right _ (List.mem_of_getElem? (i := 854) (by decide +kernel))))
    · exact va_Fw.of (hts _ (List.mem_append_right _ (List.mem_of_getElem? (i := 912) (by decide +kernel)))) (hts _ (List.mem_append_right _ (List.mem_of_getElem? (i := 911) (by decide +kernel)))) (hts _ (List.mem_append_right _ (List.mem_of_getElem? (i := 916) (by decide +kernel)))) (hts _ (List.mem_append_right _ (List.mem_of_getElem? (i := 914) (by decide +kernel)))) (hts _ (List.mem_append_right _ (List.mem_of_getElem? (i := 854) (by decide +kernel))))
  · intro q hq
    simp only [mAOl, List.mem_cons, List.not_mem_nil, or_false] at hq
    rcases hq with rfl | rfl | rfl | rfl
    · exact ao4
    · exact ao5
    · exact ao6
    · exact ao7
  · intro q hq
    simp only [mStr, List.mem_cons, List.not_mem_nil, or_false] at hq
    rcases hq with rfl | rfl | rfl | rfl | rfl | rfl | rfl | rfl | rfl | rfl | rfl | rfl | rfl | rfl | rfl | rfl
    · obtain ⟨a9, _, _, _, q1, -⟩ := Cond.exactly_spec (show (Cond.exactly (.string "ChuteLoft" 238) "java/lang/String").before #[Value.ref b] s = true from hfl _ (List.mem_of_getElem? (i := 110) (by decide +kernel)))
      exact ⟨a9, vk_R.of (hts _ (List.mem_append_right _ (List.mem_of_getElem? (i := 321) (by decide +kernel)))) q1⟩
    · obtain ⟨a9, _, _, _, q1, -⟩ := Cond.exactly_spec (show (Cond.exactly (.string "ChuteLoft" 326) "java/lang/String").before #[Value.ref b] s = true from hfl _ (List.mem_of_getElem? (i := 129) (by decide +kernel)))
      exact ⟨a9, vk_R.of (hts _ (List.mem_append_right _ (List.mem_of_getElem? (i := 369) (by decide +kernel)))) q1⟩
    · obtain ⟨a9, _, _, _, q1, -⟩ := Cond.exactly_spec (show (Cond.exactly (.string "ChuteLoft" 242) "java/lang/String").before #[Value.ref b] s = true from hfl _ (List.mem_of_getElem? (i := 157) (by decide +kernel)))
      exact ⟨a9, vk_R.of (hts _ (List.mem_append_right _ (List.mem_of_getElem? (i := 384) (by decide +kernel)))) q1⟩
    · obtain ⟨a9, _, _, _, q1, -⟩ := Cond.exactly_spec (show (Cond.exactly (.string "ChuteLoft" 212) "java/lang/String").before #[Value.ref b] s = true from hfl _ (List.mem_of_getElem? (i := 185) (by decide +kernel)))
      exact ⟨a9, vk_R.of (hts _ (List.mem_append_right _ (List.mem_of_getElem? (i := 385) (by decide +kernel)))) q1⟩
    · obtain ⟨a9, _, _, _, q1, -⟩ := Cond.exactly_spec (show (Cond.exactly (.string "ChuteLoft" 328) "java/lang/String").before #[Value.ref b] s = true from hfl _ (List.mem_of_getElem? (i := 206) (by decide +kernel)))
      exact ⟨a9, vk_R.of (hts _ (List.mem_append_right _ (List.mem_of_getElem? (i := 403) (by decide +kernel)))) q1⟩
    · obtain ⟨a9, _, _, _, q1, -⟩ := Cond.exactly_spec (show (Cond.exactly (.string "ChuteLoft" 226) "java/lang/String").before #[Value.ref b] s = true from hfl _ (List.mem_of_getElem? (i := 234) (by decide +kernel)))
      exact ⟨a9, vk_R.of (hts _ (List.mem_append_right _ (List.mem_of_getElem? (i := 436) (by decide +kernel)))) q1⟩
    · obtain ⟨a9, _, _, _, q1, -⟩ := Cond.exactly_spec (show (Cond.exactly (.string "ChuteLoft" 324) "java/lang/String").before #[Value.ref b] s = true from hfl _ (List.mem_of_getElem? (i := 257) (by decide +kernel)))
      exact ⟨a9, vk_R.of (hts _ (List.mem_append_right _ (List.mem_of_getElem? (i := 449) (by decide +kernel)))) q1⟩
    · obtain ⟨a9, _, _, _, q1, -⟩ := Cond.exactly_spec (show (Cond.exactly (.string "ChuteLoft" 322) "java/lang/String").before #[Value.ref b] s = true from hfl _ (List.mem_of_getElem? (i := 284) (by decide +kernel)))
      exact ⟨a9, vk_R.of (hts _ (List.mem_append_right _ (List.mem_of_getElem? (i := 465) (by decide +kernel)))) q1⟩
    · obtain ⟨a9, _, _, _, q1, -⟩ := Cond.exactly_spec (show (Cond.exactly (.string "ChuteLoft" 92) "java/lang/String").before #[Value.ref b] s = true from hfl _ (List.mem_of_getElem? (i := 327) (by decide +kernel)))
      exact ⟨a9, vk_R.of (hts _ (List.mem_append_right _ (List.mem_of_getElem? (i := 581) (by decide +kernel)))) q1⟩
    · obtain ⟨a9, _, _, _, q1, -⟩ := Cond.exactly_spec (show (Cond.exactly (.string "ChuteLoft" 106) "java/lang/String").before #[Value.ref b] s = true from hfl _ (List.mem_of_getElem? (i := 358) (by decide +kernel)))
      exact ⟨a9, vk_R.of (hts _ (List.mem_append_right _ (List.mem_of_getElem? (i := 595) (by decide +kernel)))) q1⟩
    · obtain ⟨a9, _, _, _, q1, -⟩ := Cond.exactly_spec (show (Cond.exactly (.string "ChuteLoft" 129) "java/lang/String").before #[Value.ref b] s = true from hfl _ (List.mem_of_getElem? (i := 387) (by decide +kernel)))
      exact ⟨a9, vk_R.of (hts _ (List.mem_append_right _ (List.mem_of_getElem? (i := 604) (by decide +kernel)))) q1⟩
    · obtain ⟨a9, _, _, _, q1, -⟩ := Cond.exactly_spec (show (Cond.exactly (.string "ChuteLoft" 137) "java/lang/String").before #[Value.ref b] s = true from hfl _ (List.mem_of_getElem? (i := 440) (by decide +kernel)))
      exact ⟨a9, vk_R.of (hts _ (List.mem_append_right _ (List.mem_of_getElem? (i := 612) (by decide +kernel)))) q1⟩
    · obtain ⟨a9, _, _, _, q1, -⟩ := Cond.exactly_spec (show (Cond.exactly (.string "ChuteLoft" 151) "java/lang/String").before #[Value.ref b] s = true from hfl _ (List.mem_of_getElem? (i := 472) (by decide +kernel)))
      exact ⟨a9, vk_R.of (hts _ (List.mem_append_right _ (List.mem_of_getElem? (i := 630) (by decide +kernel)))) q1⟩
    · obtain ⟨a9, _, _, _, q1, -⟩ := Cond.exactly_spec (show (Cond.exactly (.string "ChuteLoft" 164) "java/lang/String").before #[Value.ref b] s = true from hfl _ (List.mem_of_getElem? (i := 542) (by decide +kernel)))
      exact ⟨a9, vk_R.of (hts _ (List.mem_append_right _ (List.mem_of_getElem? (i := 649) (by decide +kernel)))) q1⟩
    · obtain ⟨a9, _, _, _, q1, -⟩ := Cond.exactly_spec (show (Cond.exactly (.string "ChuteLoft" 178) "java/lang/String").before #[Value.ref b] s = true from hfl _ (List.mem_of_getElem? (i := 585) (by decide +kernel)))
      exact ⟨a9, vk_R.of (hts _ (List.mem_append_right _ (List.mem_of_getElem? (i := 669) (by decide +kernel)))) q1⟩
    · obtain ⟨a9, _, _, _, q1, -⟩ := Cond.exactly_spec (show (Cond.exactly (.string "ChuteLoft" 350) "java/lang/String").before #[Value.ref b] s = true from hfl _ (List.mem_of_getElem? (i := 630) (by decide +kernel)))
      exact ⟨a9, vk_R.of (hts _ (List.mem_append_right _ (List.mem_of_getElem? (i := 737) (by decide +kernel)))) q1⟩
  · intro q hq
    simp only [mNcl, List.mem_cons, List.not_mem_nil, or_false] at hq
    rcases hq with rfl | rfl | rfl
    · exact va_Nc.of (hfl _ (List.mem_of_getElem? (i := 33) (by decide +kernel)))
    · exact va_Nc.of (hfl _ (List.mem_of_getElem? (i := 60) (by decide +kernel)))
    · exact va_Nc.of (hfl _ (List.mem_of_getElem? (i := 59) (by decide +kernel)))
  · exact vx_Zqof (hts _ (List.mem_append_right _ (List.mem_of_getElem? (i := 307) (by decide +kernel)))) (hts _ (List.mem_append_right _ (List.mem_of_getElem? (i := 11) (by decide +kernel)))) (hfl _ (List.mem_of_getElem? (i := 4) (by decide +kernel))) hA
  · exact vx_Zqof (hts _ (List.mem_append_right _ (List.mem_of_getElem? (i := 309) (by decide +kernel)))) (hts _ (List.mem_append_right _ (List.mem_of_getElem? (i := 11) (by decide +kernel)))) (hfl _ (List.mem_of_getElem? (i := 5) (by decide +kernel))) hA
  · exact va_Zof (hts _ (List.mem_append_right _ (List.mem_of_getElem? (i := 405) (by decide +kernel)))) (hts _ (List.mem_append_right _ (List.mem_of_getElem? (i := 1) (by decide +kernel)))) eG hA
  · exact va_Zof (hts _ (List.mem_append_right _ (List.mem_of_getElem? (i := 418) (by decide +kernel)))) (hts _ (List.mem_append_right _ (List.mem_of_getElem? (i := 1) (by decide +kernel)))) eL hA
  · exact va_Zof (hts _ (List.mem_append_right _ (List.mem_of_getElem? (i := 777) (by decide +kernel)))) (hts _ (List.mem_append_right _ (List.mem_of_getElem? (i := 10) (by decide +kernel)))) eE hA
  · exact va_Zof (hts _ (List.mem_append_right _ (List.mem_of_getElem? (i := 1205) (by decide +kernel)))) (hts _ (List.mem_append_right _ (List.mem_of_getElem? (i := 18) (by decide +kernel)))) (va_eqtl (hfl _ (List.mem_of_getElem? (i := 24) (by decide +kernel)))) hA
