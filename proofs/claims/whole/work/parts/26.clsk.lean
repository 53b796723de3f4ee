/-! ===== THE CLASS: ground, limits, isLet, whyNot, goesAhead ===== -/
def letB (A : CS) (k : Nat) (l : UInt32) : Bool := decide ((l.toNat : Int) ≤ ((FP.i2f (mLL (cJ A k 1).toNatClampNeg)).toNat : Int)) && (decide ((l.toNat : Int) ≤ 1082130432) || !decide (30 < cS A 10 - cJ A k 3))
def whyF (A : CS) (ln : List Nat) (k : Nat) : Int32 :=
  if cJ A k 2 = -1 then 1 else if cG A (rigN A k) 3 = 0 then 2 else if ¬ cS A 10 ≤ cG A (rigN A k) 1 then 3 else if ¬ grdF A ≤ mGL (cJ A k 1).toNatClampNeg then 4 else if letB A k (ldF A k) = false then 5 else if placeF (Int32.ofNat k) ln 0 = -1 then 0 else 6
def keyF (A : CS) (i : Nat) : Int := (if cJ A i 1 = 0 then 1125899906842624 else 0) + (if cJ A i 10 = 0 then 0 else 35184372088832) + (4294967296 - ((ldF A i).toNat : Int)) * 256 + (i : Int)
section CLSK
variable {K : Cfg} {c : Nat → Nat} {A : CS} {M0 M : Mem} {nJ nR : Nat} {ln : List Nat} {QX : String → Mem → Prop}
theorem p_abs {k : Int32 → Mem → Prop} {x : Int32} (hk : k (iabs x) M) : f_J9_abs_0f7a4 K x k M := by
  unfold f_J9_abs_0f7a4
  unfold iabs at hk
  refine s_if (fun c1 => ?_) (fun c1 => ?_)
  · rw [if_pos c1] at hk; exact hk
  · rw [if_neg c1] at hk; exact hk
theorem c_ground {k : Int32 → Mem → Prop} (h : picC K c A M0 M) (hk : k (grdF A) M) : f_X4_ground K (c 3) k M := by
  unfold f_X4_ground
  exact s_getR h.wd.1 rfl (s_ldI h.wd.2.1 (i_in (a := 0) (by decide) (by decide)) (p_abs (s_getR h.wd.1 rfl (s_ldI h.wd.2.2 (i_in (a := 0) (by decide) (by decide)) (p_abs hk)))))
theorem lic_of {z : Int32} (h1 : 0 ≤ z.toInt) (h2 : z.toInt ≤ 3) : z = 0 ∨ z = 1 ∨ z = 2 ∨ z = 3 := by
  have h : z.toInt = 0 ∨ z.toInt = 1 ∨ z.toInt = 2 ∨ z.toInt = 3 := by omega
  rcases h with h | h | h | h
  · exact Or.inl (Int32.toInt_inj.mp h)
  · exact Or.inr (Or.inl (Int32.toInt_inj.mp h))
  · exact Or.inr (Or.inr (Or.inl (Int32.toInt_inj.mp h)))
  · exact Or.inr (Or.inr (Or.inr (Int32.toInt_inj.mp h)))
theorem p_limit {k : Int32 → Mem → Prop} {a : Nat} {z : Int32} (ha : a = K.2.2 2 ∨ a = K.2.2 3) (h1 : 0 ≤ z.toInt) (h2 : z.toInt ≤ 3) (hk : k (mTab K a z.toNatClampNeg) M) : f_X5_limitOf K a z k M := by
  unfold f_X5_limitOf
  have hz : ∃ n : Nat, n < 4 ∧ z = Int32.ofNat n := by
    rcases lic_of h1 h2 with rfl | rfl | rfl | rfl
    · exact ⟨0, by decide, rfl⟩
    · exact ⟨1, by decide, rfl⟩
    · exact ⟨2, by decide, rfl⟩
    · exact ⟨3, by decide, rfl⟩
  obtain ⟨n, hn, rfl⟩ := hz
  refine s_ifF (i_neg (by omega)) ⟨ha, s_ifF ?_ ⟨ha, i_in (by omega) hn, hk⟩⟩
  show ¬ Int32.ofNat 4 ≤ _
  rw [i_le (by omega) (by omega)]; omega
theorem ld_some {j : Nat} (hjo : jmpOk A nR j) (hR : nR ≤ 8) (hro : ∀ r, r < nR → rigOk A r) (h2 : cJ A j 2 ≠ -1) : ldF A j = ldO (cJ A j 0) (cG A (rigN A j) 0) ∧ LD (ldF A j) := by
  obtain ⟨e1, e2⟩ := rig_of hjo h2 hR
  have e3 : ldF A j = ldO (cJ A j 0) (cG A (rigN A j) 0) := by unfold ldF; rw [if_neg h2]
  refine ⟨e3, ?_⟩
  rw [e3]
  exact (ld_ok hjo.1.1 hjo.1.2 (hro _ e2).1.1 (hro _ e2).1.2).2
theorem lim_le (z : Int32) : (FP.i2f (mLL z.toNatClampNeg)).toNat ≤ 2139095040 := by
  unfold mLL
  split <;> decide +kernel
theorem c_isLet {k : Int32 → Mem → Prop} {j : Nat} {l : UInt32} (hne : K.2.2 2 ≠ K.2.2 3) (h : picC K c A M0 M) (hj : j < 8) (hjo : jmpOk A nR j) (hl : LD l) (hk : k (if letB A j l = true then 1 else 0) M) : f_X5_isLet K (c 0) (c (16 + j)) l k M := by
  obtain ⟨-, ⟨l1, l2⟩, -⟩ := hjo
  unfold f_X5_isLet
  refine s_getI (h.cj hj) rfl (p_limit (Or.inr rfl) l1 l2 ?_)
  rw [show mTab K (K.2.2 3) (cJ A j 1).toNatClampNeg = mLL (cJ A j 1).toNatClampNeg by unfold mTab; rw [if_neg (fun e => hne e.symm)]]
  have q1 : Op.cmpValue (FP.fcmp l (FP.i2f (mLL (cJ A j 1).toNatClampNeg))) .l ≤ 0 ↔ (l.toNat : Int) ≤ ((FP.i2f (mLL (cJ A j 1).toNatClampNeg)).toNat : Int) := by rw [hl.cmpC (lim_le _)]; exact cv_le _ _ _
  have q2 : Op.cmpValue (FP.fcmp l 1082130432) .g ≤ 0 ↔ (l.toNat : Int) ≤ 1082130432 := by rw [hl.cmpC (show (1082130432 : UInt32).toNat ≤ 2139095040 by decide)]; exact cv_le _ _ _
  unfold letB at hk
  refine s_if (fun c1 => s_if (fun c2 => ?_) (fun c2 => s_getI h.c0 rfl (s_getI (h.cj hj) rfl (s_if (fun c3 => ?_) (fun c3 => ?_))))) (fun c1 => ?_)
  · rw [decide_eq_true (q1.mp c1), decide_eq_true (q2.mp c2), Bool.true_or, Bool.and_true, if_pos rfl] at hk
    exact s_as (Or.inr rfl) hk
  · rw [decide_eq_true (q1.mp c1), decide_eq_false (fun h9 => c2 (q2.mpr h9)), decide_eq_true c3, Bool.false_or, Bool.true_and, if_neg (by decide)] at hk
    exact s_as (Or.inl rfl) hk
  · rw [decide_eq_true (q1.mp c1), decide_eq_false (fun h9 => c2 (q2.mpr h9)), decide_eq_false c3, Bool.false_or, Bool.true_and, if_pos (by decide)] at hk
    exact s_as (Or.inr rfl) hk
  · rw [decide_eq_false (fun h9 => c1 (q1.mpr h9)), Bool.false_and, if_neg (by decide)] at hk
    exact s_as (Or.inl rfl) hk
theorem c_whyNot {k : Int32 → Mem → Prop} {j : Nat} (hne : K.2.2 2 ≠ K.2.2 3) (h : picC K c A M0 M) (hn : cntOk A nJ nR) (hl : lnOk A nJ ln) (hj : j < nJ) (hjo : jmpOk A nR j) (hro : ∀ r, r < nR → rigOk A r) (hk : k (whyF A ln j) M) : f_X5_whyNot K (c 0) (Int32.ofNat j) k QX M := by
  have n1 := hn.1
  have n2 := hn.2.1
  unfold f_X5_whyNot
  unfold whyF at hk
  refine s_recv h.c0 (c_jumperAt h hn hj (s_getI (h.cj (by omega)) rfl (s_if (fun c1 => ?_) (fun c1 => s_getI (h.cj (by omega)) rfl (s_recv h.c0 ?_)))))
  · rw [if_pos c1] at hk; exact hk
  rw [if_neg c1] at hk
  obtain ⟨e1, e2⟩ := rig_of hjo c1 n2
  obtain ⟨d1, d2⟩ := ld_some hjo n2 hro c1
  rw [e1]
  refine c_rigAt h hn e2 (s_getI (h.cg (by omega)) rfl (s_if (fun c2 => ?_) (fun c2 => s_getI (h.cg (by omega)) rfl (s_getI h.c0 rfl (s_if (fun c3 => ?_) (fun c3 => ?_))))))
  · rw [if_pos c2] at hk; exact hk
  · rw [if_neg c2, if_neg (fun h9 => h9 c3)] at hk
    refine s_getR h.c0 rfl (s_recv h.wd.1 (c_ground h (s_getI (h.cj (by omega)) rfl (p_limit (Or.inl rfl) hjo.2.1.1 hjo.2.1.2 ?_))))
    rw [show mTab K (K.2.2 2) (cJ A j 1).toNatClampNeg = mGL (cJ A j 1).toNatClampNeg by unfold mTab; rw [if_pos rfl]]
    refine s_if (fun c4 => c_loadingWith h hn hj e2 hjo (hro _ e2) (s_recv h.c0 (c_isLet (nR := nR) hne h (by omega) hjo (by rw [← d1]; exact d2) ?_))) (fun c4 => ?_)
    · rw [if_neg (fun h9 => h9 c4), d1] at hk
      cases hL : letB A j (ldO (cJ A j 0) (cG A (rigN A j) 0)) with
      | false =>
        rw [hL, if_pos rfl] at hk
        rw [if_neg (by decide)]
        exact s_ifT rfl hk
      | true =>
        rw [hL, if_neg (by decide)] at hk
        rw [if_pos rfl]
        refine s_ifF (by decide) (s_recv h.c0 (c_placeOf h hl (s_if (fun c5 => ?_) (fun c5 => ?_))))
        · rw [if_pos c5] at hk; exact hk
        · rw [if_neg c5] at hk; exact hk
    · rw [if_pos c4] at hk; exact hk
  · rw [if_neg c2, if_pos c3] at hk; exact hk
theorem c_goesAhead {k : Int32 → Mem → Prop} {i j : Nat} (h : picC K c A M0 M) (hn : cntOk A nJ nR) (hi : i < nJ) (hj : j < nJ) (hio : jmpOk A nR i) (hjo : jmpOk A nR j) (hro : ∀ r, r < nR → rigOk A r) (hi2 : cJ A i 2 ≠ -1) (hj2 : cJ A j 2 ≠ -1) (si : cJ A i 10 = 0 ∨ cJ A i 10 = 1) (sj : cJ A j 10 = 0 ∨ cJ A j 10 = 1)
    (hk : k (if keyF A i < keyF A j then 1 else 0) M) : f_X5_goesAhead K (c 0) (Int32.ofNat i) (Int32.ofNat j) k QX M := by
  have n1 := hn.1
  have n2 := hn.2.1
  obtain ⟨-, di⟩ := ld_some hio n2 hro hi2
  obtain ⟨-, dj⟩ := ld_some hjo n2 hro hj2
  have hcmp := di.cmp dj
  obtain ⟨i1, i2⟩ := id di
  obtain ⟨j1, j2⟩ := id dj
  unfold keyF at hk
  have b40 : ∀ z w : Int32, z = (if cJ A i 1 = 0 then 1 else 0) → w = (if cJ A j 1 = 0 then 1 else 0) → f_X5_goesAhead_b40 K k QX (c 0) (Int32.ofNat i) (Int32.ofNat j) (c (16 + i)) (c (16 + j)) z w M := by
    intro z w hz hw
    unfold f_X5_goesAhead_b40
    refine s_if (fun c1 => s_getI (h.cj (by omega)) rfl (s_getI (h.cj (by omega)) rfl (s_if (fun c2 => s_recv h.c0 (c_loadingOf h hn hi hio hro (s_recv h.c0 (c_loadingOf h hn hj hjo hro ?_)))) (fun c2 => s_getI (h.cj (by omega)) rfl (s_if (fun c3 => ?_) (fun c3 => ?_)))))) (fun c1 => ?_)
    · have hlic : (cJ A i 1 = 0) ↔ (cJ A j 1 = 0) := by
        rw [hz, hw] at c1
        by_cases p1 : cJ A i 1 = 0
        · rw [if_pos p1] at c1
          by_cases p2 : cJ A j 1 = 0
          · exact ⟨fun _ => p2, fun _ => p1⟩
          · rw [if_neg p2] at c1; exact absurd c1 (by decide)
        · rw [if_neg p1] at c1
          by_cases p2 : cJ A j 1 = 0
          · rw [if_pos p2] at c1; exact absurd c1 (by decide)
          · exact ⟨fun h9 => absurd h9 p1, fun h9 => absurd h9 p2⟩
      rw [hcmp]
      have c2' : cJ A i 10 = cJ A j 10 := c2
      have hki : (if cJ A i 1 = 0 then (1125899906842624 : Int) else 0) = (if cJ A j 1 = 0 then (1125899906842624 : Int) else 0) := by
        by_cases p1 : cJ A i 1 = 0
        · rw [if_pos p1, if_pos (hlic.mp p1)]
        · rw [if_neg p1, if_neg (fun h9 => p1 (hlic.mpr h9))]
      rw [hki, c2'] at hk
      generalize (if cJ A j 1 = 0 then (1125899906842624 : Int) else 0) = u at hk
      generalize (if cJ A j 10 = 0 then (0 : Int) else 35184372088832) = v at hk
      generalize ((ldF A i).toNat : Int) = Li at hk ⊢
      generalize ((ldF A j).toNat : Int) = Lj at hk ⊢
      refine s_if (fun c3 => s_if (fun c4 => ?_) (fun c4 => ?_)) (fun c3 => s_if (fun c4 => ?_) (fun c4 => ?_))
      · rw [cv_eq] at c3
        rw [i_le (by omega) (by omega)] at c4
        rw [if_neg (by omega)] at hk
        exact s_as (Or.inl rfl) hk
      · rw [cv_eq] at c3
        rw [i_le (by omega) (by omega)] at c4
        rw [if_pos (by omega)] at hk
        exact s_as (Or.inr rfl) hk
      · rw [cv_eq] at c3
        rw [cv_le] at c4
        rw [if_neg (by omega)] at hk
        exact s_as (Or.inl rfl) hk
      · rw [cv_eq] at c3
        rw [cv_le] at c4
        rw [if_pos (by omega)] at hk
        exact s_as (Or.inr rfl) hk
    · have hlic : (cJ A i 1 = 0) ↔ (cJ A j 1 = 0) := by
        rw [hz, hw] at c1
        by_cases p1 : cJ A i 1 = 0
        · rw [if_pos p1] at c1
          by_cases p2 : cJ A j 1 = 0
          · exact ⟨fun _ => p2, fun _ => p1⟩
          · rw [if_neg p2] at c1; exact absurd c1 (by decide)
        · rw [if_neg p1] at c1
          by_cases p2 : cJ A j 1 = 0
          · rw [if_pos p2] at c1; exact absurd c1 (by decide)
          · exact ⟨fun h9 => absurd h9 p1, fun h9 => absurd h9 p2⟩
      have hki : (if cJ A i 1 = 0 then (1125899906842624 : Int) else 0) = (if cJ A j 1 = 0 then (1125899906842624 : Int) else 0) := by
        by_cases p1 : cJ A i 1 = 0
        · rw [if_pos p1, if_pos (hlic.mp p1)]
        · rw [if_neg p1, if_neg (fun h9 => p1 (hlic.mpr h9))]
      have c3' : cJ A i 10 = 0 := c3
      have c2' : ¬ cJ A j 10 = 0 := fun h9 => c2 (c3'.trans h9.symm)
      rw [hki, if_pos c3', if_neg c2'] at hk
      generalize (if cJ A j 1 = 0 then (1125899906842624 : Int) else 0) = u at hk
      generalize hLi : ((ldF A i).toNat : Int) = Li at hk
      generalize hLj : ((ldF A j).toNat : Int) = Lj at hk
      rw [if_pos (by omega)] at hk
      exact s_as (Or.inr rfl) hk
    · have hlic : (cJ A i 1 = 0) ↔ (cJ A j 1 = 0) := by
        rw [hz, hw] at c1
        by_cases p1 : cJ A i 1 = 0
        · rw [if_pos p1] at c1
          by_cases p2 : cJ A j 1 = 0
          · exact ⟨fun _ => p2, fun _ => p1⟩
          · rw [if_neg p2] at c1; exact absurd c1 (by decide)
        · rw [if_neg p1] at c1
          by_cases p2 : cJ A j 1 = 0
          · rw [if_pos p2] at c1; exact absurd c1 (by decide)
          · exact ⟨fun h9 => absurd h9 p1, fun h9 => absurd h9 p2⟩
      have hki : (if cJ A i 1 = 0 then (1125899906842624 : Int) else 0) = (if cJ A j 1 = 0 then (1125899906842624 : Int) else 0) := by
        by_cases p1 : cJ A i 1 = 0
        · rw [if_pos p1, if_pos (hlic.mp p1)]
        · rw [if_neg p1, if_neg (fun h9 => p1 (hlic.mpr h9))]
      have c3' : ¬ cJ A i 10 = 0 := c3
      have si1 := si.resolve_left c3'
      have c2' : cJ A j 10 = 0 := sj.resolve_right (fun h9 => c2 (si1.trans h9.symm))
      rw [hki, if_neg c3', if_pos c2'] at hk
      generalize (if cJ A j 1 = 0 then (1125899906842624 : Int) else 0) = u at hk
      generalize hLi : ((ldF A i).toNat : Int) = Li at hk
      generalize hLj : ((ldF A j).toNat : Int) = Lj at hk
      rw [if_neg (by omega)] at hk
      exact s_as (Or.inl rfl) hk
    · have hv : ∀ q : Nat, (if cJ A q 10 = 0 then (0 : Int) else 35184372088832) = 0 ∨ (if cJ A q 10 = 0 then (0 : Int) else 35184372088832) = 35184372088832 := fun q => by
        by_cases p1 : cJ A q 10 = 0
        · exact Or.inl (if_pos p1)
        · exact Or.inr (if_neg p1)
      have hvi := hv i
      have hvj := hv j
      generalize (if cJ A i 10 = 0 then (0 : Int) else 35184372088832) = vi at hk hvi
      generalize (if cJ A j 10 = 0 then (0 : Int) else 35184372088832) = vj at hk hvj
      generalize hLi : ((ldF A i).toNat : Int) = Li at hk
      generalize hLj : ((ldF A j).toNat : Int) = Lj at hk
      by_cases p1 : cJ A i 1 = 0
      · have p2 : ¬ cJ A j 1 = 0 := fun h9 => c1 (by rw [hz, hw, if_pos p1, if_pos h9])
        rw [if_pos p1, if_neg p2, if_neg (by omega)] at hk
        rw [if_neg p2] at hw
        subst hw
        exact s_as (Or.inl rfl) hk
      · have p2 : cJ A j 1 = 0 := Decidable.byContradiction fun h9 => c1 (by rw [hz, hw, if_neg p1, if_neg h9])
        rw [if_neg p1, if_pos p2, if_pos (by omega)] at hk
        rw [if_pos p2] at hw
        subst hw
        exact s_as (Or.inr rfl) hk
  unfold f_X5_goesAhead
  refine s_recv h.c0 (c_jumperAt h hn hi (s_recv h.c0 (c_jumperAt h hn hj (s_getI (h.cj (by omega)) rfl ?_))))
  have b25 : ∀ z : Int32, z = (if cJ A i 1 = 0 then 1 else 0) → f_X5_goesAhead_b25 K k QX (c 0) (Int32.ofNat i) (Int32.ofNat j) (c (16 + i)) (c (16 + j)) z M := by
    intro z hz
    unfold f_X5_goesAhead_b25
    refine s_getI (h.cj (by omega)) rfl (s_if (fun c1 => b40 _ _ hz (by rw [if_pos c1])) (fun c1 => b40 _ _ hz (by rw [if_neg c1])))
  exact s_if (fun c1 => b25 _ (by rw [if_pos c1])) (fun c1 => b25 _ (by rw [if_neg c1]))
end CLSK
