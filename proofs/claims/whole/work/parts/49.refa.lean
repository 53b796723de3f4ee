/-! ===== THE REFERENCE'S CALLS: why, board, empty, what is asked ===== -/
def mostF (A : CS) (k : Nat) : UInt32 := if cJ A k 1 = 0 then 1082130432 else if cS A 10 - cJ A k 3 ≤ 30 then (if cJ A k 1 = 1 then 1086324736 else if cJ A k 1 = 2 then 1091567616 else 1101004800) else 1082130432
theorem mostF_le (A : CS) (k : Nat) : (mostF A k).toNat ≤ 2139095040 := by
  unfold mostF
  split
  · decide
  · split
    · split
      · decide
      · split <;> decide
    · decide
theorem mLL_0 : FP.i2f (mLL (0 : Int32).toNatClampNeg) = 1082130432 := by decide +kernel
theorem mLL_1 : FP.i2f (mLL (1 : Int32).toNatClampNeg) = 1086324736 := by decide +kernel
theorem mLL_2 : FP.i2f (mLL (2 : Int32).toNatClampNeg) = 1091567616 := by decide +kernel
theorem mLL_3 : FP.i2f (mLL (3 : Int32).toNatClampNeg) = 1101004800 := by decide +kernel
theorem letB_most {A : CS} {nR k : Nat} {l : UInt32} (hjo : jmpOk A nR k) : letB A k l = true ↔ (l.toNat : Int) ≤ ((mostF A k).toNat : Int) := by
  have n4 : (1082130432 : UInt32).toNat = 1082130432 := rfl
  have n6 : (1086324736 : UInt32).toNat = 1086324736 := rfl
  have n9 : (1091567616 : UInt32).toNat = 1091567616 := rfl
  have n20 : (1101004800 : UInt32).toNat = 1101004800 := rfl
  have hd : cS A 10 - cJ A k 3 ≤ 30 ↔ ¬ 30 < cS A 10 - cJ A k 3 := i_nlt.symm
  unfold letB mostF
  rw [Bool.and_eq_true, Bool.or_eq_true, Bool.not_eq_true', decide_eq_true_eq, decide_eq_true_eq, decide_eq_false_iff_not]
  rcases lic_of hjo.2.1.1 hjo.2.1.2 with h | h | h | h <;> rw [h]
  · rw [mLL_0, if_pos rfl, n4]; omega
  · rw [mLL_1, if_neg (by decide), n6]
    by_cases c : cS A 10 - cJ A k 3 ≤ 30
    · rw [if_pos c, if_pos rfl, n6]; have := hd.mp c; constructor
      · exact fun h => h.1
      · exact fun h => ⟨h, Or.inr this⟩
    · rw [if_neg c, n4]; constructor
      · rintro ⟨h1, h2 | h2⟩
        · exact h2
        · exact absurd (hd.mpr h2) c
      · exact fun h => ⟨by omega, Or.inl h⟩
  · rw [mLL_2, if_neg (by decide), n9]
    by_cases c : cS A 10 - cJ A k 3 ≤ 30
    · rw [if_pos c, if_neg (by decide), if_pos rfl, n9]; have := hd.mp c; constructor
      · exact fun h => h.1
      · exact fun h => ⟨h, Or.inr this⟩
    · rw [if_neg c, n4]; constructor
      · rintro ⟨h1, h2 | h2⟩
        · exact h2
        · exact absurd (hd.mpr h2) c
      · exact fun h => ⟨by omega, Or.inl h⟩
  · rw [mLL_3, if_neg (by decide), n20]
    by_cases c : cS A 10 - cJ A k 3 ≤ 30
    · rw [if_pos c, if_neg (by decide), if_neg (by decide), n20]; have := hd.mp c; constructor
      · exact fun h => h.1
      · exact fun h => ⟨h, Or.inr this⟩
    · rw [if_neg c, n4]; constructor
      · rintro ⟨h1, h2 | h2⟩
        · exact h2
        · exact absurd (hd.mpr h2) c
      · exact fun h => ⟨by omega, Or.inl h⟩
theorem whyF_rng (A : CS) (ln : List Nat) (k : Nat) : whyF A ln k ≤ 0 ↔ whyF A ln k = 0 := by
  have h : whyF A ln k = 0 ∨ whyF A ln k = 1 ∨ whyF A ln k = 2 ∨ whyF A ln k = 3 ∨ whyF A ln k = 4 ∨ whyF A ln k = 5 ∨ whyF A ln k = 6 := by
    unfold whyF
    split
    · simp
    · split
      · simp
      · split
        · simp
        · split
          · simp
          · split
            · simp
            · split <;> simp
  rcases h with h | h | h | h | h | h | h <;> rw [h] <;> decide
section REFA
variable {K : Cfg} {r : Nat → Nat} {nJ nR : Nat} {A : CS} {T : RT} {M0 M : Mem} {ln : List Nat}
theorem x_most {k : UInt32 → Mem → Prop} {j : Nat} (h : picR K r nJ nR A T M0 M) (hj : j < nJ) (hk : k (mostF A j) M) : f_X9_most K (r 0) (r (16 + j)) k M := by
  unfold f_X9_most f_X9_most_b21 f_X9_most_b54
  unfold mostF at hk
  refine s_getI (h.rj hj) rfl (s_if (fun c1 => ?_) (fun c1 => s_getI h.r0 rfl (s_getI (h.rj hj) rfl (s_if (fun c2 => s_getI (h.rj hj) rfl (s_if (fun c3 => ?_) (fun c3 => s_getI (h.rj hj) rfl (s_if (fun c4 => ?_) (fun c4 => ?_))))) (fun c2 => ?_)))))
  · rw [if_pos c1] at hk; exact hk
  · rw [if_neg c1, if_pos c2, if_pos c3] at hk; exact hk
  · rw [if_neg c1, if_pos c2, if_neg c3, if_pos c4] at hk; exact hk
  · rw [if_neg c1, if_pos c2, if_neg c3, if_neg c4] at hk; exact hk
  · rw [if_neg c1, if_neg c2] at hk; exact hk
theorem x_why {k : Int32 → Mem → Prop} {j : Nat} (h : picR K r nJ nR A T M0 M) (hw : wfS A T nJ nR ln) (hj : j < nJ) (hk : k (whyF A ln j) M) : f_X9_why K (r 0) (r (16 + j)) k M := by
  obtain ⟨hjs, hro, hl, ha, hlk⟩ := hw
  have n1 := h.1.1.1
  have hjo := hjs j hj
  have hp := pl_iff hl ha hlk n1 hj
  unfold f_X9_why
  unfold whyF at hk
  refine s_getI (h.rj hj) rfl (s_if (fun c1 => ?_) (fun c1 => s_getR h.r0 rfl (s_getI (h.rj hj) rfl (s_recv h.r2 ?_))))
  · rw [if_pos c1] at hk; exact hk
  rw [if_neg c1] at hk
  obtain ⟨e1, e2⟩ := rig_of hjo c1 h.1.1.2
  obtain ⟨-, d2⟩ := ld_some hjo h.1.1.2 hro c1
  rw [e1]
  refine q_gG h e2 (s_recv (h.rg e2) (s_getI (h.rg e2) rfl (s_if (fun c2 => ?_) (fun c2 => s_getI (h.rg e2) rfl (s_getI h.r0 rfl (s_if (fun c3 => ?_) (fun c3 => ?_)))))))
  · rw [if_pos c2] at hk; exact hk
  · have c3 : cS A 10 ≤ cG A (rigN A j) 1 := c3
    rw [if_neg c2, if_neg (fun h9 => h9 c3)] at hk
    have b93 : ∀ lim : Int32, lim = mGL (cJ A j 1).toNatClampNeg → f_X9_why_b93 K k (r 0) (r (16 + j)) (grdF A) lim M := by
      intro lim hlim
      rw [← hlim] at hk
      unfold f_X9_why_b93 f_X9_why_b128
      refine s_if (fun c4 => s_recv h.r0 (x_loading_ h hj hjo hro (s_recv h.r0 (x_most h hj (s_if (fun c5 => ?_) (fun c5 => ?_)))))) (fun c4 => ?_)
      · rw [if_neg (fun h9 => h9 c4)] at hk
        rw [d2.cmpC (mostF_le A j), cv_le] at c5
        rw [if_neg (fun h9 => by rw [(letB_most hjo).mpr c5] at h9; cases h9)] at hk
        refine s_getI (h.rj hj) rfl (s_if (fun c6 => ?_) (fun c6 => ?_))
        · rw [if_pos (hp.mpr c6)] at hk; exact hk
        · rw [if_neg (fun h9 => c6 (hp.mp h9))] at hk; exact hk
      · rw [if_neg (fun h9 => h9 c4)] at hk
        rw [d2.cmpC (mostF_le A j), cv_le] at c5
        rw [if_pos (Bool.eq_false_iff.mpr (fun h9 => c5 ((letB_most hjo).mp h9)))] at hk
        exact hk
      · rw [if_pos c4] at hk; exact hk
    refine s_recv h.r0 (x_ground h (s_getI (h.rj hj) rfl (s_if (fun c4 => b93 8 ?_) (fun c4 => s_getI (h.rj hj) rfl (s_if (fun c5 => b93 14 ?_) (fun c5 => s_getI (h.rj hj) rfl (s_if (fun c6 => b93 20 ?_) (fun c6 => b93 30 ?_))))))))
    · have c4 : cJ A j 1 = 0 := c4
      rw [c4]; decide
    · have c5 : cJ A j 1 = 1 := c5
      rw [c5]; decide
    · have c6 : cJ A j 1 = 2 := c6
      rw [c6]; decide
    · have c4 : ¬ cJ A j 1 = 0 := c4
      have c5 : ¬ cJ A j 1 = 1 := c5
      have c6 : ¬ cJ A j 1 = 2 := c6
      have c7 : cJ A j 1 = 3 := by
        rcases lic_of hjo.2.1.1 hjo.2.1.2 with h9 | h9 | h9 | h9
        · exact absurd h9 c4
        · exact absurd h9 c5
        · exact absurd h9 c6
        · exact h9
      rw [c7]; decide
  · have c3 : ¬ cS A 10 ≤ cG A (rigN A j) 1 := c3
    rw [if_neg c2, if_pos c3] at hk; exact hk
theorem x_aboardS {k : Int32 → Mem → Prop} (h : picR K r nJ nR A T M0 M) (hk : k (Int32.ofNat (sumN (fun k => if tS T k = -1 then 0 else 1) nJ)) M) : f_X9_aboard K (r 0) k M := by
  have n1 := h.1.1.1
  have lp : ∀ d fuel v : Nat, v + d = nJ → d < fuel → f_X9_aboard_b4 K k fuel (r 0) (Int32.ofNat (sumN (fun k => if tS T k = -1 then 0 else 1) v)) (Int32.ofNat v) M := by
    intro d
    induction d with
    | zero =>
      intro fuel v hv hf
      obtain ⟨fuel, rfl⟩ : ∃ e, fuel = e + 1 := ⟨fuel - 1, by omega⟩
      have hvn : v = nJ := by omega
      subst hvn
      show f_X9_aboard_b4_body K k (f_X9_aboard_b4 K k fuel) (r 0) _ (Int32.ofNat v) M
      unfold f_X9_aboard_b4_body
      refine r_szJ h (s_ifT ?_ hk)
      rw [i_le (by omega) (by omega)]; omega
    | succ d ih =>
      intro fuel v hv hf
      obtain ⟨fuel, rfl⟩ : ∃ e, fuel = e + 1 := ⟨fuel - 1, by omega⟩
      show f_X9_aboard_b4_body K k (f_X9_aboard_b4 K k fuel) (r 0) _ (Int32.ofNat v) M
      unfold f_X9_aboard_b4_body f_X9_aboard_b43
      refine r_szJ h (s_ifF ?_ (r_J h (by omega) (s_getI (h.rj (by omega)) rfl ?_)))
      · rw [i_le (by omega) (by omega)]; omega
      have e := ih fuel (v + 1) (by omega) (by omega)
      have e2 : sumN (fun k => if tS T k = -1 then 0 else 1) (v + 1) = sumN (fun k => if tS T k = -1 then 0 else 1) v + (if tS T v = -1 then 0 else 1) := rfl
      rw [e2] at e
      refine s_if (fun c1 => ?_) (fun c1 => ?_)
      · have c1 : tS T v = -1 := c1
        rw [if_pos c1, Nat.add_zero] at e
        rw [i_add0, i_succ]; exact e
      · have c1 : ¬ tS T v = -1 := c1
        rw [if_neg c1] at e
        rw [i_succ, i_succ]; exact e
  unfold f_X9_aboard
  exact lp nJ mFuel 0 (Nat.zero_add _) (by show nJ < 4096; omega)
theorem x_board {a st op : Int32} {k : Int32 → Mem → Prop} (h : picR K r nJ nR A T M0 M) (hw : wfS A T nJ nR ln) (hi : (∀ m, m < nJ → a ≠ Int32.ofNat m) → ∀ M2, picR K r nJ nR A (setTh T 1) M0 M2 → k 0 M2)
    (hx : ∀ j, j < nJ → a = Int32.ofNat j → ¬ (inB st 0 1 ∧ inB op (if cJ A j 1 = 0 then 4 else 2) 6) → ∀ M2, picR K r nJ nR A (setTh T 2) M0 M2 → k 0 M2)
    (hs : ∀ j, j < nJ → a = Int32.ofNat j → inB st 0 1 → inB op (if cJ A j 1 = 0 then 4 else 2) 6 → (cS A 7 ≠ 0 ∨ ln.length = 6) → ∀ M2, picR K r nJ nR A (setTh T 3) M0 M2 → k 0 M2)
    (hy : ∀ j, j < nJ → a = Int32.ofNat j → inB st 0 1 → inB op (if cJ A j 1 = 0 then 4 else 2) 6 → cS A 7 = 0 → ln.length < 6 → whyF A ln j ≠ 0 → ∀ M2, picR K r nJ nR A (setTh T 0) M0 M2 → k (-(whyF A ln j)) M2)
    (hk : ∀ j, j < nJ → a = Int32.ofNat j → inB st 0 1 → inB op (if cJ A j 1 = 0 then 4 else 2) 6 → cS A 7 = 0 → ln.length < 6 → whyF A ln j = 0 → ∀ M2, picR K r nJ nR A (setOp (setSt (setTh T 0) j st) j op) M0 M2 → k (Int32.ofNat (ln.length + 1)) M2) : f_X9_board K (r 0) a st op k M := by
  obtain ⟨hjs, hro, hl, ha, hlk⟩ := id hw
  have n1 := h.1.1.1
  have l1 := hl.1
  unfold f_X9_board
  refine q_putM0 h (fun M h => s_recv h.r0 (x_isJumper h (fun j hj j2 => s_ifF (by decide) ?_) (fun hno => s_ifT rfl (s_recv h.r0 (x_no h (fun M h => hi hno M h))))))
  subst j2
  have hx := hx j hj rfl
  have hs := hs j hj rfl
  have hy := hy j hj rfl
  have hk := hk j hj rfl
  have h65 : ¬ (inB st 0 1 ∧ inB op (if cJ A j 1 = 0 then 4 else 2) 6) → f_X9_board_b65 K k (r 0) M := fun hno => by
    unfold f_X9_board_b65
    exact s_recv h.r0 (x_no h (fun M h => hx hno M h))
  have b57 : ∀ lo : Int32, lo = (if cJ A j 1 = 0 then 4 else 2) → inB st 0 1 → f_X9_board_b57 K k (r 0) st op (r (16 + j)) op lo M := by
    intro lo hlo hst
    rw [← hlo] at hx hs hy hk h65
    unfold f_X9_board_b57 f_X9_board_b87
    refine x_in (fun p2 => s_ifF (by decide) (s_getI h.r0 rfl (s_if (fun c1 => s_recv h.r0 (x_aboard h hl ha hlk (s_if (fun c2 => ?_) (fun c2 => s_recv h.r0 (x_why h hw hj ?_))))) (fun c1 => s_recv h.r0 (x_no h (fun M h => hs hst p2 (Or.inl c1) M h)))))) (fun p2 => s_ifT rfl (h65 (fun h9 => p2 h9.2)))
    · have c2 : Int32.ofNat ln.length = Int32.ofNat 6 := c2
      rw [i_eq (by omega) (by omega)] at c2
      exact s_recv h.r0 (x_no h (fun M h => hs hst p2 (Or.inr c2) M h))
    · have c2 : ¬ Int32.ofNat ln.length = Int32.ofNat 6 := c2
      rw [i_eq (by omega) (by omega)] at c2
      refine s_if (fun c3 => ?_) (fun c3 => hy hst p2 c1 (by omega) (fun h9 => c3 (by rw [h9]; decide)) M h)
      rw [whyF_rng] at c3
      obtain ⟨w1, w2⟩ := whyF_zero c3
      have hst2 : st ≠ -1 := by
        obtain ⟨m, rfl, m1, m2⟩ := i_num (lo := 0) (hi := 1) (by decide) (by decide) hst
        exact i_negone m (by omega)
      have htj : tS T j = -1 := (pl_iff hl ha hlk n1 hj).mp w2
      refine q_putJ10 h hj (fun M h => q_putJ11 h hj (fun M h => s_recv h.r0 (x_aboardS h ?_)))
      have e : sumN (fun k => if tS (setOp (setSt (setTh T 0) j st) j op) k = -1 then 0 else 1) nJ = ln.length + 1 := by
        rw [← cnt_ab hl ha hlk]
        have e2 : sumN (fun k => if tS (setOp (setSt (setTh T 0) j st) j op) k = -1 then 0 else 1) nJ = sumN (fun k => (if tS T k = -1 then 0 else 1) + (if k = j then 1 else 0)) nJ := sumN_congr nJ (fun k _ => by
          show (if up1 (tS T) j st k = -1 then 0 else 1) = _
          by_cases hkj : k = j
          · subst hkj
            rw [up1_same, if_neg hst2, if_pos htj, if_pos rfl]
          · rw [up1_ne hkj, if_neg hkj, Nat.add_zero])
        rw [e2, sumN_add, sumN_one nJ hj]
      rw [e]
      exact hk hst p2 c1 (by omega) c3 M h
  refine r_J h hj (x_in (fun p1 => s_ifF (by decide) (s_getI (h.rj hj) rfl (s_if (fun c1 => b57 4 (by rw [if_pos c1]) p1) (fun c1 => b57 2 (by rw [if_neg c1]) p1)))) (fun p1 => s_ifT rfl (h65 (fun h9 => p1 h9.1))))
theorem x_empty {k : Int32 → Mem → Prop} (h : picR K r nJ nR A T M0 M) (hl : lnOk A nJ ln) (ha : abOk A nJ nR ln) (hlk : lk A T nJ ln) (hk : ∀ T2 M2, (∀ j, j < nJ → tS T2 j = -1) → tH T2 = 0 → picR K r nJ nR A T2 M0 M2 → k (Int32.ofNat ln.length) M2) : f_X9_empty K (r 0) k M := by
  have n1 := h.1.1.1
  have lp : ∀ (d fuel v : Nat) (T2 : RT) (M : Mem), v + d = nJ → d < fuel → picR K r nJ nR A T2 M0 M → (∀ j, j < v → tS T2 j = -1) → tH T2 = 0 → f_X9_empty_b12 K k fuel (r 0) (Int32.ofNat ln.length) (Int32.ofNat v) M := by
    intro d
    induction d with
    | zero =>
      intro fuel v T2 M hv hf h h1 h2
      obtain ⟨fuel, rfl⟩ : ∃ e, fuel = e + 1 := ⟨fuel - 1, by omega⟩
      show f_X9_empty_b12_body K k (f_X9_empty_b12 K k fuel) (r 0) (Int32.ofNat ln.length) (Int32.ofNat v) M
      unfold f_X9_empty_b12_body
      refine r_szJ h (s_ifT ?_ (hk T2 M (fun j hj => h1 j (by omega)) h2 h))
      rw [i_le (by omega) (by omega)]; omega
    | succ d ih =>
      intro fuel v T2 M hv hf h h1 h2
      obtain ⟨fuel, rfl⟩ : ∃ e, fuel = e + 1 := ⟨fuel - 1, by omega⟩
      show f_X9_empty_b12_body K k (f_X9_empty_b12 K k fuel) (r 0) (Int32.ofNat ln.length) (Int32.ofNat v) M
      unfold f_X9_empty_b12_body
      refine r_szJ h (s_ifF ?_ (r_J h (by omega) (q_putJ10 h (by omega) (fun M h => ?_))))
      · rw [i_le (by omega) (by omega)]; omega
      rw [i_succ]
      refine ih fuel (v + 1) _ M (by omega) (by omega) h (fun j hj => ?_) h2
      show up1 (tS T2) v (-1) j = -1
      by_cases hjv : j = v
      · rw [hjv, up1_same]
      · rw [up1_ne hjv]; exact h1 j (by omega)
  unfold f_X9_empty
  exact q_putM0 h (fun M h => s_recv h.r0 (x_aboard h hl ha hlk (lp nJ mFuel 0 _ M (Nat.zero_add _) (by show nJ < 4096; omega) h (fun j hj => absurd hj (Nat.not_lt_zero j)) rfl)))
theorem x_order {a : Int32} {k : Int32 → Mem → Prop} (h : picR K r nJ nR A T M0 M) (hw : wfS A T nJ nR ln) (h1 : (∀ p, p < ln.length → a ≠ Int32.ofNat p) → ∀ M2, picR K r nJ nR A (setTh T 1) M0 M2 → k 0 M2)
    (hk : ∀ p, p < ln.length → a = Int32.ofNat p → ∀ M2, picR K r nJ nR A (setTh T 0) M0 M2 → k (Int32.ofNat (ln.getD p 0)) M2) : f_X9_order K (r 0) a k M := by
  obtain ⟨hjs, hro, hl, ha, hlk⟩ := id hw
  have l1 := hl.1
  unfold f_X9_order
  refine q_putM0 h (fun M h => s_recv h.r0 (x_aboard h hl ha hlk (x_in (fun p1 => s_ifF (by decide) (s_recv h.r0 ?_)) (fun p1 => s_ifT rfl (s_recv h.r0 (x_no h (fun M h => h1 (fun p p2 p3 => p1 ((in_cnt (by omega)).mpr ⟨p, p2, p3⟩)) M h)))))))
  obtain ⟨p, p2, rfl⟩ := (in_cnt (by omega)).mp p1
  exact x_at h hw p2 (hk p p2 rfl M h)
theorem x_loading__ {a : Int32} {k : UInt64 → Mem → Prop} (h : picR K r nJ nR A T M0 M) (hjs : ∀ j, j < nJ → jmpOk A nR j) (hro : ∀ g, g < nR → rigOk A g) (h1 : (∀ m, m < nJ → a ≠ Int32.ofNat m) → ∀ v M2, picR K r nJ nR A (setTh T 1) M0 M2 → k v M2)
    (hk : ∀ j, j < nJ → a = Int32.ofNat j → ∀ M2, picR K r nJ nR A (setTh T 0) M0 M2 → k (FP.f2d (ldF A j)) M2) : f_X9_loading__ K (r 0) a k M := by
  unfold f_X9_loading__
  refine q_putM0 h (fun M h => s_recv h.r0 (x_isJumper h (fun j hj j2 => s_ifF (by decide) ?_) (fun hno => s_ifT rfl (s_recv h.r0 (x_no h (fun M h => h1 hno _ M h))))))
  subst j2
  refine r_J h hj (s_recv h.r0 (x_loading_ h hj (hjs j hj) hro (s_as ?_ (hk j hj rfl M h))))
  by_cases h2 : cJ A j 2 = -1
  · unfold ldF; rw [if_pos h2]; exact f2d_n64 (by rw [FP.Core.val32_zero]; exact FP.Core.Datum.noConfusion)
  · exact f2d_n64 (ld_some (hjs j hj) h.1.1.2 hro h2).2.ne
theorem x_landed {a z : Int32} {k : UInt64 → Mem → Prop} (h : picR K r nJ nR A T M0 M) (h1 : (∀ m, m < nJ → a ≠ Int32.ofNat m) → ∀ v M2, picR K r nJ nR A (setTh T 1) M0 M2 → k v M2)
    (hk : ∀ j, j < nJ → a = Int32.ofNat j → ∀ M2, picR K r nJ nR A (setTh T 0) M0 M2 → k (em (if z = 0 then cP A j 8 else cP A j 9)) M2) : f_X9_landed K (r 0) a z k M := by
  unfold f_X9_landed f_X9_landed_b59
  refine q_putM0 h (fun M h => s_recv h.r0 (x_isJumper h (fun j hj j2 => s_ifF (by decide) ?_) (fun hno => s_ifT rfl (s_recv h.r0 (x_no h (fun M h => h1 hno _ M h))))))
  subst j2
  have hk := hk j hj rfl M h
  refine s_if (fun p => r_J h hj (s_getD (h.rj hj) rfl ?_)) (fun p => r_J h hj (s_getD (h.rj hj) rfl ?_))
  · rw [if_pos p] at hk; exact hk
  · rw [if_neg p] at hk; exact hk
theorem x_refuses {a : Int32} {k : Int32 → Mem → Prop} (h : picR K r nJ nR A T M0 M) (hw : wfS A T nJ nR ln) (h1 : (∀ m, m < nJ → a ≠ Int32.ofNat m) → ∀ M2, picR K r nJ nR A (setTh T 1) M0 M2 → k 0 M2)
    (hk : ∀ j, j < nJ → a = Int32.ofNat j → ∀ M2, picR K r nJ nR A (setTh T 0) M0 M2 → k (whyF A ln j) M2) : f_X9_refuses K (r 0) a k M := by
  unfold f_X9_refuses
  refine q_putM0 h (fun M h => s_recv h.r0 (x_isJumper h (fun j hj j2 => s_ifF (by decide) ?_) (fun hno => s_ifT rfl (s_recv h.r0 (x_no h (fun M h => h1 hno M h))))))
  subst j2
  exact r_J h hj (s_recv h.r0 (x_why h hw hj (hk j hj rfl M h)))
theorem x_wear {a : Int32} {b : Nat} {k : UInt64 → Mem → Prop} (h : picR K r nJ nR A T M0 M) (hwe : wOk b A) (hb : b ≤ 2052) (h1 : (∀ m, m < nR → a ≠ Int32.ofNat m) → ∀ v M2, picR K r nJ nR A (setTh T 1) M0 M2 → k v M2)
    (hk : ∀ g, g < nR → a = Int32.ofNat g → ∀ M2, picR K r nJ nR A (setTh T 0) M0 M2 → k (FP.f2d (cW A g)) M2) : f_X9_wear K (r 0) a k M := by
  have n2 := h.1.1.2
  unfold f_X9_wear
  refine q_putM0 h (fun M h => s_recv h.r0 (x_isRig h (fun g hg g2 => s_ifF (by decide) ?_) (fun hno => s_ifT rfl (s_recv h.r0 (x_no h (fun M h => h1 hno _ M h))))))
  subst g2
  obtain ⟨m, m1, m2⟩ := hwe g (by omega)
  obtain ⟨-, -, -, -, w5, -⟩ := wf_spec (n := m) (by omega) wf_all
  exact r_G h hg (s_getF (h.rg hg) rfl (s_as (by show vf_n64 (FP.f2d (cW A g)); rw [m2]; exact w5) (hk g hg rfl M h)))
theorem x_ofWind {a z : Int32} {k : Int32 → Mem → Prop} (h : picR K r nJ nR A T M0 M) (h1 : ¬ inB a 0 9 → ∀ M2, picR K r nJ nR A (setTh T 1) M0 M2 → k 0 M2)
    (hk : ∀ n, n < 10 → a = Int32.ofNat n → ∀ M2, picR K r nJ nR A (setTh T 0) M0 M2 → k (if z = 0 then cX A n else cY A n) M2) : f_X9_ofWind K (r 0) a z k M := by
  unfold f_X9_ofWind f_X9_ofWind_b40
  refine q_putM0 h (fun M h => x_in (fun p0 => s_ifF (by decide) ?_) (fun p0 => s_ifT rfl (s_recv h.r0 (x_no h (fun M h => h1 p0 M h)))))
  obtain ⟨n, rfl, -, n2⟩ := i_num (lo := 0) (hi := 9) (by decide) (by decide) p0
  have hk := hk n (by omega) rfl M h
  refine s_if (fun p => s_getR h.r0 rfl (s_ldI h.r3 (i_in (by omega) (by omega)) ?_)) (fun p => s_getR h.r0 rfl (s_ldI h.r4 (i_in (by omega) (by omega)) ?_))
  · rw [if_pos p] at hk
    rw [i_nat (by omega)]; exact hk
  · rw [if_neg p] at hk
    rw [i_nat (by omega)]; exact hk
end REFA
