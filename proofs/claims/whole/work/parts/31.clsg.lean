/-! ===== THE CLASS: the flight is planned; all leave ===== -/
def repQ (A : CS) (N : Int32) (Q : Nat → JQ) : CS := (cS A, cJ A, cP A, cG A, cW A, cX A, cY A, cL A, N, Q)
def opN (A : CS) (k : Nat) : Nat := (cJ A k 11).toNatClampNeg
def plC (A : CS) (k : Nat) : Nat × Nat × Nat × Int := (opN A k, faF (cJ A k 10), glN (ldF A k), fwK (cJ A k 1) (ldF A k))
/-- what holds of those who are aboard -/
def abOk (A : CS) (nJ nR : Nat) (ln : List Nat) : Prop := ∀ k ∈ ln, k < nJ ∧ jmpOk A nR k ∧ cJ A k 2 ≠ -1 ∧ (cJ A k 10 = 0 ∨ cJ A k 10 = 1) ∧ (cJ A k 11 = Int32.ofNat (opN A k) ∧ 2 ≤ opN A k ∧ opN A k ≤ 6)
theorem getD_mem {ln : List Nat} {p : Nat} (h : p < ln.length) : ln.getD p 0 ∈ ln := by
  rw [List.getD_eq_getElem?_getD, List.getElem?_eq_getElem h]
  exact List.getElem_mem h
section CLSG
variable {K : Cfg} {c : Nat → Nat} {A : CS} {M0 M : Mem} {nJ nR : Nat} {ln : List Nat} {QX : String → Mem → Prop}
theorem c_jumpAt {i : Nat} {k : Nat → Mem → Prop} (h : picC K c A M0 M) (hi : i < 6) (hk : k (c (9 + i)) M) : f_X0_jumpAt K (c 7) (Int32.ofNat i) k M := by
  unfold f_X0_jumpAt
  refine s_getR h.c7 rfl (s_ifF (i_neg (by omega)) (s_ifF ?_ (s_ldQ h.c8 (i_in (by omega) hi) (b := c (9 + i)) ?_ hk)))
  · show ¬ Int32.ofNat 6 ≤ _
    rw [i_le (by omega) (by omega)]; omega
  · rw [i_nat (by omega)]; show (if i < 6 then some (c (9 + i)) else none) = _; rw [if_pos hi]
theorem c_planFlight_loop {N : Int32} {k : Mem → Prop} (hn : cntOk A nJ nR) (hl : lnOk A nJ ln) (ha : abOk A nJ nR ln) (hro : ∀ r, r < nR → rigOk A r) : ∀ (d fuel v : Nat) (Q : Nat → JQ) (M : Mem), v + d = ln.length → d < fuel → picC K c (repQ A N Q) M0 M → (∀ j, j < v → (Q j).1 = plC A (ln.getD j 0) ∧ (Q j).2.1.1 = 0) → (∀ Q2 M2, (∀ j, j < ln.length → (Q2 j).1 = plC A (ln.getD j 0) ∧ (Q2 j).2.1.1 = 0) → picC K c (repQ A N Q2) M0 M2 → k M2) → f_X5_planFlight_b13 K k QX fuel (c 0) (Int32.ofNat v) M := by
  have l1 := hl.1
  have l2 : cS (repQ A N (cQ A)) 6 = Int32.ofNat ln.length := hl.2.1
  have n1 := hn.1
  intro d
  induction d with
  | zero =>
    intro fuel v Q M hv hf h hQ hk
    obtain ⟨fuel, rfl⟩ : ∃ e, fuel = e + 1 := ⟨fuel - 1, by omega⟩
    show f_X5_planFlight_b13_body K k QX (f_X5_planFlight_b13 K k QX fuel) (c 0) (Int32.ofNat v) M
    unfold f_X5_planFlight_b13_body
    refine s_getI h.c0 rfl (s_ifT ?_ (hk Q M (fun j hj => hQ j (by omega)) h))
    show cS A 6 ≤ _
    rw [hl.2.1, i_le (by omega) (by omega)]; omega
  | succ d ih =>
    intro fuel v Q M hv hf h hQ hk
    obtain ⟨fuel, rfl⟩ : ∃ e, fuel = e + 1 := ⟨fuel - 1, by omega⟩
    show f_X5_planFlight_b13_body K k QX (f_X5_planFlight_b13 K k QX fuel) (c 0) (Int32.ofNat v) M
    unfold f_X5_planFlight_b13_body
    have hlt : v < ln.length := by omega
    obtain ⟨a1, a2, a3, a4, a5, a6, a7⟩ := ha _ (getD_mem hlt)
    have hld := (ld_some a2 hn.2.1 hro a3).2
    refine s_getI h.c0 rfl (s_ifF ?_ (s_recv h.c0 (c_order (nJ := nJ) (ln := ln) h hl hlt (s_recv h.c0 (c_jumperAt (nJ := nJ) (nR := nR) h hn a1 (s_getR h.c0 rfl (s_recv h.c7 (c_jumpAt h (by omega) ?_))))))))
    · show ¬ cS A 6 ≤ _
      rw [hl.2.1, i_le (by omega) (by omega)]; omega
    generalize hkk : ln.getD v 0 = kk at a1 a2 a3 a4 a5 a6 a7 hld
    have hj := h.cj (k := kk) (by omega)
    refine s_getI hj rfl (s_getI hj rfl (s_getI hj rfl (s_recv h.c0 (c_loadingOf (nJ := nJ) (nR := nR) h hn a1 a2 hro (s_recv (h.cq (k := v) (by omega)) ?_)))))
    show f_X1_plan K (c (9 + v)) (cJ A kk 1) (cJ A kk 10) (cJ A kk 11) (ldF A kk) _ M
    rw [a5]
    refine c_plan (i := v) h (by omega) hld (fun M h => ?_)
    rw [i_succ]
    refine ih fuel (v + 1) _ M (by omega) (by omega) h (fun j hj => ?_) hk
    by_cases hjv : j = v
    · subst hjv
      rw [up1_same, hkk]
      exact ⟨rfl, rfl⟩
    · rw [up1_ne hjv]
      exact hQ j (by omega)
theorem c_planFlight {k : Mem → Prop} (h : picC K c A M0 M) (hn : cntOk A nJ nR) (hl : lnOk A nJ ln) (ha : abOk A nJ nR ln) (hro : ∀ r, r < nR → rigOk A r) (hk : ∀ Q2 M2, (∀ j, j < ln.length → (Q2 j).1 = plC A (ln.getD j 0) ∧ (Q2 j).2.1.1 = 0) → picC K c (repQ A (Int32.ofNat ln.length) Q2) M0 M2 → k M2) : f_X5_planFlight K (c 0) k QX M := by
  have l1 := hl.1
  unfold f_X5_planFlight
  refine s_getR h.c0 rfl (s_getI h.c0 rfl (s_putN h (fun M h => ?_)))
  rw [hl.2.1] at h
  exact c_planFlight_loop hn hl ha hro ln.length mFuel 0 (cQ A) M (by omega) (by show ln.length < 4096; omega) h (fun j hj => absurd hj (Nat.not_lt_zero j)) hk
/-- where the jump of a place begins -/
def lvX (A : CS) (sp gap : Int) (j : Nat) : Int := (sp + (j : Int) * gap * (30 - (cX A 9).toInt)) * 16777216
theorem c_leave_loop {n g9 : Nat} {sp : Int32} {k : Mem → Prop} (hn6 : n ≤ 6) (hg : g9 ≤ 9) (hsp : -200 ≤ sp.toInt ∧ sp.toInt ≤ 200) (hX : wbd (cX A)) : ∀ (d fuel v : Nat) (Q : Nat → JQ) (M : Mem) (Q0 : Nat → JQ), v + d = n → d < fuel → picC K c (repQ A (Int32.ofNat n) Q) M0 M → (∀ j, j < v → Q j = ((Q0 j).1, ((Q0 j).2.1.1, Int32.ofNat (j * g9), 0), (10, 0, lvX A sp.toInt g9 j, 0))) → (∀ j, v ≤ j → Q j = Q0 j) → (∀ Q2 M2, (∀ j, j < n → Q2 j = ((Q0 j).1, ((Q0 j).2.1.1, Int32.ofNat (j * g9), 0), (10, 0, lvX A sp.toInt g9 j, 0))) → picC K c (repQ A (Int32.ofNat n) Q2) M0 M2 → k M2) → f_X0_leave_b3 K k fuel (c 7) sp (Int32.ofNat g9) (c 3) (Int32.ofNat v) M := by
  intro d
  induction d with
  | zero =>
    intro fuel v Q M Q0 hv hf h hQ hQ0 hk
    obtain ⟨fuel, rfl⟩ : ∃ e, fuel = e + 1 := ⟨fuel - 1, by omega⟩
    show f_X0_leave_b3_body K k (f_X0_leave_b3 K k fuel) (c 7) sp (Int32.ofNat g9) (c 3) (Int32.ofNat v) M
    unfold f_X0_leave_b3_body
    refine s_getI h.c7 rfl (s_ifT ?_ (hk Q M (fun j hj => hQ j (by omega)) h))
    show Int32.ofNat n ≤ _
    rw [i_le (by omega) (by omega)]; omega
  | succ d ih =>
    intro fuel v Q M Q0 hv hf h hQ hQ0 hk
    obtain ⟨fuel, rfl⟩ : ∃ e, fuel = e + 1 := ⟨fuel - 1, by omega⟩
    show f_X0_leave_b3_body K k (f_X0_leave_b3 K k fuel) (c 7) sp (Int32.ofNat g9) (c 3) (Int32.ofNat v) M
    unfold f_X0_leave_b3_body
    refine s_getI h.c7 rfl (s_ifF ?_ (s_recv h.c7 (c_jumpAt h (by omega) (s_recv h.wd.1 ?_))))
    · show ¬ Int32.ofNat n ≤ _
      rw [i_le (by omega) (by omega)]; omega
    have e9 : (9 : Int32) = lyr 10 := by decide
    rw [e9]
    refine p_xOf h.wd (by decide) (by decide) ?_
    have hw : (cX A 9).toInt.natAbs ≤ 20 := hX 9 (by decide)
    have hvg : v * g9 ≤ 45 := Nat.le_trans (Nat.mul_le_mul (show v ≤ 5 by omega) hg) (by decide)
    have e1 : Int32.ofNat v * Int32.ofNat g9 = Int32.ofNat (v * g9) := (Int32.ofNat_mul v g9).symm
    have ew : FP.i2d (cX A 9) = em ((cX A 9).toInt * 2 ^ 24) := em_i2d (by omega)
    have es : FP.i2d sp = em (sp.toInt * 2 ^ 24) := em_i2d (by omega)
    have et : FP.i2d (Int32.ofNat (v * g9)) = em (((v * g9 : Nat) : Int) * 2 ^ 24) := by
      rw [em_i2d (by rw [i_toInt (by omega)]; omega), i_toInt (by omega)]
    have ed : FP.dsub 4629137466983448576 (FP.i2d (cX A 9)) = em ((30 - (cX A 9).toInt) * 2 ^ 24) := by
      rw [ew, em_c30, em_sub (by decide) (by omega)]; congr 1; omega
    have hpos : 0 < (30 - (cX A 9).toInt) * 2 ^ 24 := by omega
    have em1 : FP.dmul (FP.i2d (Int32.ofNat (v * g9))) (FP.dsub 4629137466983448576 (FP.i2d (cX A 9))) = em (((v * g9 : Nat) : Int) * ((30 - (cX A 9).toInt) * 2 ^ 24)) := by
      rw [ed, et, em_mul (by omega) (by omega) hpos]
    have hb : 0 ≤ ((v * g9 : Nat) : Int) * ((30 - (cX A 9).toInt) * 2 ^ 24) ∧ ((v * g9 : Nat) : Int) * ((30 - (cX A 9).toInt) * 2 ^ 24) ≤ 45 * (50 * 2 ^ 24) :=
      ⟨Int.mul_nonneg (by omega) (by omega), Int.mul_le_mul (by omega) (by omega) (by omega) (by omega)⟩
    have ea : FP.dadd (FP.i2d sp) (FP.dmul (FP.i2d (Int32.ofNat (v * g9))) (FP.dsub 4629137466983448576 (FP.i2d (cX A 9)))) = em (lvX A sp.toInt g9 v) := by
      rw [em1, es, em_add (by omega) (by omega)]
      congr 1
      unfold lvX
      rw [Int.add_mul, Int.natCast_mul, Int.mul_assoc ((v : Int) * (g9 : Int))]
      rfl
    show mAs (vf_n64 (FP.dsub 4629137466983448576 (FP.i2d (cX A 9)))) (mAs (vf_n64 (FP.dmul (FP.i2d (Int32.ofNat v * Int32.ofNat g9)) (FP.dsub 4629137466983448576 (FP.i2d (cX A 9))))) (mAs (vf_n64 (FP.dadd (FP.i2d sp) (FP.dmul (FP.i2d (Int32.ofNat v * Int32.ofNat g9)) (FP.dsub 4629137466983448576 (FP.i2d (cX A 9)))))) (mRecv (c (9 + v)) 2 (f_X1_leave K (c (9 + v)) (FP.dadd (FP.i2d sp) (FP.dmul (FP.i2d (Int32.ofNat v * Int32.ofNat g9)) (FP.dsub 4629137466983448576 (FP.i2d (cX A 9))))) (Int32.ofNat v * Int32.ofNat g9) (f_X0_leave_b3 K k fuel (c 7) sp (Int32.ofNat g9) (c 3) (Int32.ofNat v + 1)))))) M
    rw [e1, ea]
    refine s_as (by rw [ed]; exact em_nan (by omega)) (s_as (by rw [em1]; exact em_nan (by omega)) (s_as (by rw [← ea, em1, es, em_add (by omega) (by omega)]; exact em_nan (by omega)) (s_recv (h.cq (k := v) (by omega)) (c_leaveJ (i := v) h (by omega) (fun M h => ?_)))))
    rw [i_succ]
    refine ih fuel (v + 1) _ M Q0 (by omega) (by omega) h (fun j hj => ?_) (fun j hj => ?_) hk
    · by_cases hjv : j = v
      · subst hjv
        rw [up1_same]
        show ((Q j).1, ((Q j).2.1.1, _, _), _) = _
        rw [hQ0 j (Nat.le_refl _)]
      · rw [up1_ne hjv]
        exact hQ j (by omega)
    · rw [up1_ne (by omega)]
      exact hQ0 j (by omega)
end CLSG
