/-! ===== THE REFERENCE'S READERS ===== -/
section REFR
variable {K : Cfg} {r : Nat → Nat} {nJ nR : Nat} {A : CS} {T : RT} {M0 M : Mem} {i j k n : Nat} {ln : List Nat}
theorem q_size {a b n : Nat} {md : Int32} {k : Int32 → Mem → Prop} (h : M a = some (lobj md b n)) (hk : k (Int32.ofNat n) M) : f_Jx4a65c_size_8abf5 K a k M := by
  unfold f_Jx4a65c_size_8abf5
  exact s_getI h rfl hk
theorem q_get {a b n i x : Nat} {md : Int32} {f : Nat → Option Nat} {k : Nat → Mem → Prop} (h : M a = some (lobj md b n)) (hb : M b = some (oarr K f)) (hn : n ≤ 10) (hi : i < n) (hf : f i = some x) (hk : k x M) : f_Jx4a65c_get_915e3 K a (Int32.ofNat i) k M := by
  unfold f_Jx4a65c_get_915e3 f_J15_checkIndex_7cf53 f_J3_checkIndex_8e157
  refine s_getI h rfl (s_ifF (i_neg (by omega)) (s_ifT ((i_lt (by omega) (by omega)).mpr hi) (s_recv h ?_)))
  unfold f_Jx4a65c_elementData_915e3
  exact s_getR h rfl (s_ldQ hb (i_in (by omega) (by omega)) (by rw [i_nat (by omega)]; exact hf) hk)
theorem q_gJ {k : Nat → Mem → Prop} (h : picR K r nJ nR A T M0 M) (hn : n < nJ) (hk : k (r (16 + n)) M) : f_Jx4a65c_get_915e3 K (r 1) (Int32.ofNat n) k M :=
  q_get h.r1 (h.r5 (by omega)) (by have := h.1.1.1; omega) hn (by show (if n < nJ then some (r (16 + n)) else none) = _; rw [if_pos hn]) hk
theorem q_gG {k : Nat → Mem → Prop} (h : picR K r nJ nR A T M0 M) (hn : n < nR) (hk : k (r (24 + n)) M) : f_Jx4a65c_get_915e3 K (r 2) (Int32.ofNat n) k M :=
  q_get h.r2 (h.r6 (by omega)) (by have := h.1.1.2; omega) hn (by show (if n < nR then some (r (24 + n)) else none) = _; rw [if_pos hn]) hk
theorem r_J {F : Nat → Mem → Prop} (h : picR K r nJ nR A T M0 M) (hn : n < nJ) (hf : F (r (16 + n)) M) : mGetR (r 0) 10 1 (fun x1 => mRecv x1 0 (f_Jx4a65c_get_915e3 K x1 (Int32.ofNat n) (fun r2 => mRecv r2 8 (F r2)))) M :=
  s_getR h.r0 rfl (s_recv h.r1 (q_gJ h hn (s_recv (h.rj hn) hf)))
theorem r_G {F : Nat → Mem → Prop} (h : picR K r nJ nR A T M0 M) (hn : n < nR) (hf : F (r (24 + n)) M) : mGetR (r 0) 10 2 (fun x1 => mRecv x1 0 (f_Jx4a65c_get_915e3 K x1 (Int32.ofNat n) (fun r2 => mRecv r2 9 (F r2)))) M :=
  s_getR h.r0 rfl (s_recv h.r2 (q_gG h hn (s_recv (h.rg hn) hf)))
theorem r_szJ {F : Int32 → Mem → Prop} (h : picR K r nJ nR A T M0 M) (hf : F (Int32.ofNat nJ) M) : mGetR (r 0) 10 1 (fun x1 => mRecv x1 0 (f_Jx4a65c_size_8abf5 K x1 F)) M :=
  s_getR h.r0 rfl (s_recv h.r1 (q_size h.r1 hf))
theorem r_szG {F : Int32 → Mem → Prop} (h : picR K r nJ nR A T M0 M) (hf : F (Int32.ofNat nR) M) : mGetR (r 0) 10 2 (fun x1 => mRecv x1 0 (f_Jx4a65c_size_8abf5 K x1 F)) M :=
  s_getR h.r0 rfl (s_recv h.r2 (q_size h.r2 hf))
theorem x_in {a lo hi : Int32} {k : Int32 → Mem → Prop} (h1 : inB a lo hi → k 1 M) (h0 : ¬ inB a lo hi → k 0 M) : f_X9_in K a lo hi k M := by
  unfold f_X9_in f_X9_in_b14 f_X9_in_b15
  refine s_if (fun c1 => s_as (Or.inl rfl) (h0 (fun h => absurd c1 (i_nlt.mpr h.1)))) (fun c1 => s_if (fun c2 => s_as (Or.inl rfl) (h0 (fun h => absurd c2 (i_nlt.mpr h.2)))) (fun c2 => s_as (Or.inr rfl) (h1 ⟨i_nlt.mp c1, i_nlt.mp c2⟩)))
theorem in_cnt {a : Int32} {n : Nat} (hn : n ≤ 100) : inB a 0 (Int32.ofNat n - 1) ↔ ∃ m, m < n ∧ a = Int32.ofNat m := by
  have h1 : (1 : Int32).toInt = 1 := rfl
  have h2 : (Int32.ofNat n - 1).toInt = (n : Int) - 1 := by rw [i_sub (by rw [i_toInt (by omega), h1]; omega) (by rw [i_toInt (by omega), h1]; omega), i_toInt (by omega), h1]
  unfold inB
  rw [Int32.le_iff_toInt_le, Int32.le_iff_toInt_le, h2]
  constructor
  · rintro ⟨h3, h4⟩
    have h3 : 0 ≤ a.toInt := h3
    exact ⟨a.toInt.toNat, by omega, by rw [← Int32.toInt_inj, i_toInt (by omega)]; omega⟩
  · rintro ⟨m, h3, rfl⟩
    rw [i_toInt (by omega)]
    exact ⟨by show (0 : Int) ≤ m; omega, by omega⟩
theorem x_isJumper {a : Int32} {k : Int32 → Mem → Prop} (h : picR K r nJ nR A T M0 M) (h1 : ∀ m, m < nJ → a = Int32.ofNat m → k 1 M) (h0 : (∀ m, m < nJ → a ≠ Int32.ofNat m) → k 0 M) : f_X9_isJumper K (r 0) a k M := by
  have n1 := h.1.1.1
  unfold f_X9_isJumper
  refine r_szJ h (x_in (fun c1 => s_as (Or.inr rfl) ?_) (fun c1 => s_as (Or.inl rfl) (h0 (fun m m1 m2 => c1 ((in_cnt (by omega)).mpr ⟨m, m1, m2⟩)))))
  obtain ⟨m, m1, m2⟩ := (in_cnt (by omega)).mp c1
  exact h1 m m1 m2
theorem x_isRig {a : Int32} {k : Int32 → Mem → Prop} (h : picR K r nJ nR A T M0 M) (h1 : ∀ m, m < nR → a = Int32.ofNat m → k 1 M) (h0 : (∀ m, m < nR → a ≠ Int32.ofNat m) → k 0 M) : f_X9_isRig K (r 0) a k M := by
  have n1 := h.1.1.2
  unfold f_X9_isRig
  refine r_szG h (x_in (fun c1 => s_as (Or.inr rfl) ?_) (fun c1 => s_as (Or.inl rfl) (h0 (fun m m1 m2 => c1 ((in_cnt (by omega)).mpr ⟨m, m1, m2⟩)))))
  obtain ⟨m, m1, m2⟩ := (in_cnt (by omega)).mp c1
  exact h1 m m1 m2
theorem x_no {v : Int32} {k : Int32 → Mem → Prop} (h : picR K r nJ nR A T M0 M) (hk : ∀ M2, picR K r nJ nR A (setTh T v) M0 M2 → k 0 M2) : f_X9_no K (r 0) v k M := by
  unfold f_X9_no
  exact q_putM0 h hk
theorem x_holder_loop {k : Int32 → Mem → Prop} {a : Int32} (h : picR K r nJ nR A T M0 M) : ∀ d fuel v : Nat, v + d = nJ → d < fuel → k (holdF A a d v) M → f_X9_holder_b2 K k fuel (r 0) a (Int32.ofNat v) M := by
  have n1 := h.1.1.1
  intro d
  induction d with
  | zero =>
    intro fuel v hv hf hk
    obtain ⟨fuel, rfl⟩ : ∃ e, fuel = e + 1 := ⟨fuel - 1, by omega⟩
    show f_X9_holder_b2_body K k (f_X9_holder_b2 K k fuel) (r 0) a (Int32.ofNat v) M
    unfold f_X9_holder_b2_body
    refine r_szJ h (s_ifT ?_ hk)
    rw [i_le (by omega) (by omega)]; omega
  | succ d ih =>
    intro fuel v hv hf hk
    obtain ⟨fuel, rfl⟩ : ∃ e, fuel = e + 1 := ⟨fuel - 1, by omega⟩
    show f_X9_holder_b2_body K k (f_X9_holder_b2 K k fuel) (r 0) a (Int32.ofNat v) M
    unfold f_X9_holder_b2_body
    refine r_szJ h (s_ifF ?_ (r_J h (by omega) (s_getI (h.rj (by omega)) rfl ?_)))
    · rw [i_le (by omega) (by omega)]; omega
    have hk2 : k (if cJ A v 2 = a then Int32.ofNat v else holdF A a d (v + 1)) M := hk
    refine s_if (fun c1 => ?_) (fun c1 => ?_)
    · rw [if_pos c1] at hk2; exact hk2
    · rw [if_neg c1] at hk2
      rw [i_succ]
      exact ih fuel (v + 1) (by omega) (by omega) hk2
theorem x_holder {k : Int32 → Mem → Prop} {a : Int32} (h : picR K r nJ nR A T M0 M) (hk : k (holdF A a nJ 0) M) : f_X9_holder K (r 0) a k M :=
  x_holder_loop h nJ mFuel 0 (Nat.zero_add _) (by have := h.1.1.1; show nJ < 4096; omega) hk
theorem x_ground {k : Int32 → Mem → Prop} (h : picR K r nJ nR A T M0 M) (hk : k (grdF A) M) : f_X9_ground K (r 0) k M := by
  unfold f_X9_ground
  exact s_getR h.r0 rfl (s_ldI h.r3 (i_in (a := 0) (by decide) (by decide)) (p_abs (s_getR h.r0 rfl (s_ldI h.r4 (i_in (a := 0) (by decide) (by decide)) (p_abs hk)))))
theorem x_loading {k : UInt32 → Mem → Prop} {g : Nat} (h : picR K r nJ nR A T M0 M) (hj : j < nJ) (hg : g < nR) (hjo : jmpOk A nR j) (hro : rigOk A g) (hk : k (ldO (cJ A j 0) (cG A g 0)) M) : f_X9_loading K (r (16 + j)) (r (24 + g)) k M := by
  obtain ⟨⟨w1, w2⟩, -⟩ := hjo
  obtain ⟨⟨a1, a2⟩, -⟩ := hro
  obtain ⟨e1, e2⟩ := ld_ok w1 w2 a1 a2
  unfold f_X9_loading
  exact s_getI (h.rj hj) rfl (s_as e1 (s_getI (h.rg hg) rfl (s_as e2.n32 hk)))
theorem x_loading_ {k : UInt32 → Mem → Prop} (h : picR K r nJ nR A T M0 M) (hj : j < nJ) (hjo : jmpOk A nR j) (hro : ∀ r, r < nR → rigOk A r) (hk : k (ldF A j) M) : f_X9_loading_ K (r 0) (r (16 + j)) k M := by
  unfold f_X9_loading_ f_X9_loading__b32
  unfold ldF at hk
  refine s_getI (h.rj hj) rfl (s_if (fun c1 => ?_) (fun c1 => ?_))
  · rw [if_pos c1] at hk; exact hk
  · rw [if_neg c1] at hk
    obtain ⟨e1, e2⟩ := rig_of hjo c1 h.1.1.2
    refine s_getR h.r0 rfl (s_getI (h.rj hj) rfl (s_recv h.r2 ?_))
    rw [e1]
    exact q_gG h e2 (s_recv (h.rg e2) (x_loading h hj e2 hjo (hro _ e2) hk))
theorem key_lt (hi : LD (ldF A i)) (hj : LD (ldF A j)) (i8 : i < 8) (j8 : j < 8) (si : cJ A i 10 = 0 ∨ cJ A i 10 = 1) (sj : cJ A j 10 = 0 ∨ cJ A j 10 = 1) : keyF A i < keyF A j ↔ ((cJ A i 1 ≠ 0 ∧ cJ A j 1 = 0) ∨ ((cJ A i 1 = 0 ↔ cJ A j 1 = 0) ∧ ((cJ A i 10 = 0 ∧ cJ A j 10 ≠ 0) ∨ (cJ A i 10 = cJ A j 10 ∧ (((ldF A j).toNat : Int) < ((ldF A i).toNat : Int) ∨ (((ldF A i).toNat : Int) = ((ldF A j).toNat : Int) ∧ i < j)))))) := by
  obtain ⟨a1, a2⟩ := hi
  obtain ⟨b1, b2⟩ := hj
  unfold keyF
  generalize (ldF A i).toNat = Li at *
  generalize (ldF A j).toNat = Lj at *
  have z1 : ((1 : Int32) = 0) = False := eq_false (by decide)
  have z2 : ((0 : Int32) = 1) = False := eq_false (by decide)
  rcases si with s1 | s1 <;> rcases sj with s2 | s2 <;> by_cases p1 : cJ A i 1 = 0 <;> by_cases p2 : cJ A j 1 = 0 <;> simp only [s1, s2, p1, p2, if_true, if_false, not_true_eq_false, not_false_eq_true, ne_eq, true_and, false_and, and_true, and_false, or_false, false_or, true_iff, false_iff, iff_self, iff_true, iff_false, z1, z2, true_or, or_true] <;> omega
theorem lic_le {z : Int32} (h : 0 ≤ z.toInt) : z ≤ 0 ↔ z = 0 := by
  rw [Int32.le_iff_toInt_le, ← Int32.toInt_inj]
  show z.toInt ≤ 0 ↔ z.toInt = 0
  omega
def bothUp (A : CS) (T : RT) (i j : Nat) : Prop := (cJ A i 2 ≠ -1 ∧ cJ A j 2 ≠ -1) ∧ (tS T i = cJ A i 10 ∧ tS T j = cJ A j 10) ∧ (cJ A i 10 = 0 ∨ cJ A i 10 = 1) ∧ (cJ A j 10 = 0 ∨ cJ A j 10 = 1)
theorem x_isAhead {k : Int32 → Mem → Prop} (h : picR K r nJ nR A T M0 M) (hi : i < nJ) (hj : j < nJ) (hio : jmpOk A nR i) (hjo : jmpOk A nR j) (hro : ∀ r, r < nR → rigOk A r)
    (hk : ∀ b : Int32, (b = 0 ∨ b = 1) → (bothUp A T i j → b = if keyF A i < keyF A j then 1 else 0) → k b M) : f_X9_isAhead K (r 0) (Int32.ofNat i) (Int32.ofNat j) k M := by
  have n1 := h.1.1.1
  have n2 := h.1.1.2
  have key : bothUp A T i j → (keyF A i < keyF A j ↔ ((cJ A i 1 ≠ 0 ∧ cJ A j 1 = 0) ∨ ((cJ A i 1 = 0 ↔ cJ A j 1 = 0) ∧ ((tS T i = 0 ∧ tS T j ≠ 0) ∨ (tS T i = tS T j ∧ (((ldF A j).toNat : Int) < ((ldF A i).toNat : Int) ∨ (((ldF A i).toNat : Int) = ((ldF A j).toNat : Int) ∧ i < j))))))) := by
    rintro ⟨⟨u1, u2⟩, ⟨u3, u4⟩, u5, u6⟩
    rw [u3, u4]
    exact key_lt (ld_some hio n2 hro u1).2 (ld_some hjo n2 hro u2).2 (by omega) (by omega) u5 u6
  have hcmp : bothUp A T i j → FP.fcmp (ldF A i) (ldF A j) = some (compare ((ldF A i).toNat : Int) ((ldF A j).toNat : Int)) := fun hP => (ld_some hio n2 hro hP.1.1).2.cmp (ld_some hjo n2 hro hP.1.2).2
  have l0 := lic_le hio.2.1.1
  have l1 := lic_le hjo.2.1.1
  have yes : (bothUp A T i j → keyF A i < keyF A j) → k 1 M := fun hy => hk 1 (Or.inr rfl) (fun hP => by rw [if_pos (hy hP)])
  have no : (bothUp A T i j → ¬ keyF A i < keyF A j) → k 0 M := fun hy => hk 0 (Or.inl rfl) (fun hP => by rw [if_neg (hy hP)])
  have b54 : ∀ z w : Int32, z = (if cJ A i 1 = 0 then 0 else 1) → w = (if cJ A j 1 = 0 then 0 else 1) → f_X9_isAhead_b54 K k (r 0) (Int32.ofNat i) (Int32.ofNat j) (r (16 + i)) (r (16 + j)) z w M := by
    intro z w hz hw
    unfold f_X9_isAhead_b54 f_X9_isAhead_b135 f_X9_isAhead_b139 f_X9_isAhead_b140 f_X9_isAhead_b99 f_X9_isAhead_b69
    have hzw : z = w ↔ (cJ A i 1 = 0 ↔ cJ A j 1 = 0) := by
      rw [hz, hw]
      by_cases p1 : cJ A i 1 = 0 <;> by_cases p2 : cJ A j 1 = 0 <;> simp [p1, p2]
    refine s_if (fun c1 => s_getI (h.rj hi) rfl (s_getI (h.rj hj) rfl (s_if (fun c2 => ?_) (fun c2 => s_getI (h.rj hi) rfl (s_getI (h.rj hj) rfl (s_if (fun c3 => s_as (Or.inl rfl) (no (fun hP => ?_))) (fun c3 => s_as (Or.inr rfl) (yes (fun hP => ?_))))))))) (fun c1 => s_getI (h.rj hi) rfl (s_if (fun c2 => s_as (Or.inl rfl) (no (fun hP => ?_))) (fun c2 => s_as (Or.inr rfl) (yes (fun hP => ?_)))))
    · have c1 := hzw.mp c1
      have c2 : tS T i = tS T j := c2
      refine s_recv h.r0 (x_loading_ h hi hio hro (s_recv h.r0 (x_loading_ h hj hjo hro (s_if (fun c3 => s_as (Or.inr rfl) (yes (fun hP => ?_))) (fun c3 => s_recv h.r0 (x_loading_ h hi hio hro (s_recv h.r0 (x_loading_ h hj hjo hro (s_if (fun c4 => s_if (fun c5 => s_as (Or.inl rfl) (no (fun hP => ?_))) (fun c5 => s_as (Or.inr rfl) (yes (fun hP => ?_)))) (fun c4 => s_as (Or.inl rfl) (no (fun hP => ?_))))))))))))
      · rw [hcmp hP, cv_gt] at c3
        exact (key hP).mpr (Or.inr ⟨c1, Or.inr ⟨c2, Or.inl c3⟩⟩)
      · rw [hcmp hP, cv_gt] at c3
        rw [hcmp hP, cv_eq] at c4
        rw [i_le (by omega) (by omega)] at c5
        rw [key hP]
        rintro (h9 | ⟨-, h9 | ⟨-, h9 | h9⟩⟩)
        · exact h9.1 (c1.mpr h9.2)
        · exact h9.2 (c2 ▸ h9.1)
        · exact c3 h9
        · omega
      · rw [hcmp hP, cv_eq] at c4
        rw [i_le (by omega) (by omega)] at c5
        exact (key hP).mpr (Or.inr ⟨c1, Or.inr ⟨c2, Or.inr ⟨c4, by omega⟩⟩⟩)
      · rw [hcmp hP, cv_gt] at c3
        rw [hcmp hP, cv_eq] at c4
        rw [key hP]
        rintro (h9 | ⟨-, h9 | ⟨-, h9 | h9⟩⟩)
        · exact h9.1 (c1.mpr h9.2)
        · exact h9.2 (c2 ▸ h9.1)
        · exact c3 h9
        · exact c4 h9.1
    · have c1 := hzw.mp c1
      have c2 : ¬ tS T i = tS T j := c2
      have c3 : tS T j ≤ tS T i := c3
      rw [key hP]
      have u := hP.2
      rw [← u.1.1, ← u.1.2] at u
      rintro (h9 | ⟨-, h9 | h9⟩)
      · exact h9.1 (c1.mpr h9.2)
      · rw [h9.1, u.2.2.resolve_left h9.2] at c3
        exact absurd c3 (by decide)
      · exact c2 h9.1
    · have c1 := hzw.mp c1
      have c2 : ¬ tS T i = tS T j := c2
      have c3 : ¬ tS T j ≤ tS T i := c3
      have u := hP.2
      rw [← u.1.1, ← u.1.2] at u
      refine (key hP).mpr (Or.inr ⟨c1, Or.inl ?_⟩)
      rcases u.2.1 with s1 | s1
      · exact ⟨s1, fun h9 => c2 (s1.trans h9.symm)⟩
      · rcases u.2.2 with s2 | s2
        · rw [s1, s2] at c3; exact absurd (by decide) c3
        · exact absurd (s1.trans s2.symm) c2
    · have c1 : ¬ (cJ A i 1 = 0 ↔ cJ A j 1 = 0) := fun h9 => c1 (hzw.mpr h9)
      have c2 : cJ A i 1 = 0 := l0.mp c2
      rw [key hP]
      rintro (h9 | h9)
      · exact h9.1 c2
      · exact c1 h9.1
    · have c1 : ¬ (cJ A i 1 = 0 ↔ cJ A j 1 = 0) := fun h9 => c1 (hzw.mpr h9)
      have c2 : ¬ cJ A i 1 = 0 := fun h9 => c2 (l0.mpr h9)
      refine (key hP).mpr (Or.inl ⟨c2, Decidable.byContradiction fun h9 => c1 ⟨fun h8 => absurd h8 c2, fun h8 => absurd h8 h9⟩⟩)
  have b41 : ∀ z : Int32, z = (if cJ A i 1 = 0 then 0 else 1) → f_X9_isAhead_b41 K k (r 0) (Int32.ofNat i) (Int32.ofNat j) (r (16 + i)) (r (16 + j)) z M := by
    intro z hz
    unfold f_X9_isAhead_b41
    exact s_getI (h.rj hj) rfl (s_if (fun c1 => b54 _ _ hz (by rw [if_pos (l1.mp c1)])) (fun c1 => b54 _ _ hz (by rw [if_neg (fun h9 => c1 (l1.mpr h9))])))
  unfold f_X9_isAhead
  refine r_J h hi (r_J h hj (s_getI (h.rj hi) rfl (s_if (fun c1 => b41 _ (by rw [if_pos (l0.mp c1)])) (fun c1 => b41 _ (by rw [if_neg (fun h9 => c1 (l0.mpr h9))])))))
end REFR
