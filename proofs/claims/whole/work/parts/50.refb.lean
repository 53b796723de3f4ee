/-! ===== THE REFERENCE'S CALLS: by number; the best rig ===== -/
def tmpA (K : Cfg) (r : Nat → Nat) (nJ nR : Nat) (M0 M : Mem) (a n : Nat) (f : Nat → Int32) : Prop := M a = some (.inl (K.2.1 0, n, .inl f)) ∧ M0 a = none ∧ ∀ i, rv nJ nR i → r i ≠ a
section REFB
variable {K : Cfg} {r : Nat → Nat} {nJ nR : Nat} {A : CS} {T : RT} {M0 M : Mem} {ln : List Nat}
theorem t_new {n : Nat} {F : Nat → Mem → Prop} (h : picR K r nJ nR A T M0 M) (hf : ∀ a M2, picR K r nJ nR A T M0 M2 → tmpA K r nJ nR M0 M2 a n (fun _ => 0) → F a M2) : mNewA K 0 (n, .inl (fun _ => 0)) F M := by
  intro a ha
  have hM := fresh_none ha
  exact hf a _ (h.mono (mle_up hM)) ⟨mUp_same, h.nil0 hM, h.apart hM⟩
theorem t_st {a n i : Nat} {f : Nat → Int32} {v : Int32} {F : Mem → Prop} (hi : i < n) (hn : n < 100) (h : picR K r nJ nR A T M0 M) (ht : tmpA K r nJ nR M0 M a n f) (hf : ∀ M2, picR K r nJ nR A T M0 M2 → tmpA K r nJ nR M0 M2 a n (upd f i v) → F M2) : mStI K a (Int32.ofNat i) v F M := by
  obtain ⟨h1, h2, h3⟩ := ht
  refine s_stI h1 (i_in (by omega) hi) ?_
  rw [i_nat (by omega)]
  exact hf _ (h.tmp h2 h3) ⟨mUp_same, h2, h3⟩
theorem x_jumperNow {j m : Nat} {k : Int32 → Mem → Prop} (h : picR K r nJ nR A T M0 M) (hw : wfS A T nJ nR ln) (hj : j < nJ) (hm : m < 9) (hk : ∀ M2, picR K r nJ nR A T M0 M2 → k (ofJF A ln j (Int32.ofNat m)) M2) : f_X9_jumperNow K (r 0) (Int32.ofNat j) (Int32.ofNat m) k M := by
  unfold f_X9_jumperNow
  refine r_J h hj (t_new h (fun a M h t => s_getI (h.rj hj) rfl (t_st (i := 0) (by decide) (by decide) h t (fun M h t => s_getI (h.rj hj) rfl (t_st (i := 1) (by decide) (by decide) h t (fun M h t => s_getI (h.rj hj) rfl (t_st (i := 2) (by decide) (by decide) h t (fun M h t => s_getI (h.rj hj) rfl (t_st (i := 3) (by decide) (by decide) h t (fun M h t => s_getI (h.rj hj) rfl (t_st (i := 4) (by decide) (by decide) h t (fun M h t => s_getI (h.rj hj) rfl (t_st (i := 5) (by decide) (by decide) h t (fun M h t => s_getI (h.rj hj) rfl (t_st (i := 6) (by decide) (by decide) h t (fun M h t => s_recv h.r0 (x_placeOf h hw hj (t_st (i := 7) (by decide) (by decide) h t (fun M h t => s_getI (h.rj hj) rfl (t_st (i := 8) (by decide) (by decide) h t (fun M h t => s_ldI t.1 (i_in (by omega) hm) ?_)))))))))))))))))))))
  rw [i_nat (by omega)]
  have hk := hk M h
  rcases (show m = 0 ∨ m = 1 ∨ m = 2 ∨ m = 3 ∨ m = 4 ∨ m = 5 ∨ m = 6 ∨ m = 7 ∨ m = 8 by omega) with rfl | rfl | rfl | rfl | rfl | rfl | rfl | rfl | rfl
  · rw [ofJF_0] at hk; exact hk
  · rw [ofJF_1] at hk; exact hk
  · rw [ofJF_2] at hk; exact hk
  · rw [ofJF_3] at hk; exact hk
  · rw [ofJF_4] at hk; exact hk
  · rw [ofJF_5] at hk; exact hk
  · rw [ofJF_6] at hk; exact hk
  · rw [ofJF_7] at hk; exact hk
  · rw [ofJF_8] at hk; exact hk
theorem x_ofJumper {a w : Int32} {k : Int32 → Mem → Prop} (h : picR K r nJ nR A T M0 M) (hw : wfS A T nJ nR ln) (h1 : (∀ m, m < nJ → a ≠ Int32.ofNat m) → ∀ M2, picR K r nJ nR A (setTh T 1) M0 M2 → k 0 M2) (h2 : ∀ j, j < nJ → a = Int32.ofNat j → ¬ inB w 0 8 → ∀ M2, picR K r nJ nR A (setTh T 2) M0 M2 → k 0 M2)
    (hk : ∀ j m, j < nJ → a = Int32.ofNat j → m < 9 → w = Int32.ofNat m → ∀ M2, picR K r nJ nR A (setTh T 0) M0 M2 → k (ofJF A ln j (Int32.ofNat m)) M2) : f_X9_ofJumper K (r 0) a w k M := by
  unfold f_X9_ofJumper
  refine q_putM0 h (fun M h => s_recv h.r0 (x_isJumper h (fun j hj j2 => s_ifF (by decide) (x_in (fun p1 => s_ifF (by decide) (s_recv h.r0 ?_)) (fun p1 => s_ifT rfl (s_recv h.r0 (x_no h (fun M h => h2 j hj j2 p1 M h)))))) (fun hno => s_ifT rfl (s_recv h.r0 (x_no h (fun M h => h1 hno M h))))))
  subst j2
  obtain ⟨m, rfl, -, m2⟩ := i_num (lo := 0) (hi := 8) (by decide) (by decide) p1
  exact x_jumperNow (T := setTh T 0) h hw hj (by omega) (fun M2 h => hk j m hj rfl (by omega) rfl M2 h)
theorem x_rigNow {g m : Nat} {k : Int32 → Mem → Prop} (h : picR K r nJ nR A T M0 M) (hro : ∀ g, g < nR → rigOk A g) (hg : g < nR) (hm : m < 5) (hk : ∀ M2, picR K r nJ nR A T M0 M2 → k (ofRF A nJ g (Int32.ofNat m)) M2) : f_X9_rigNow K (r 0) (Int32.ofNat g) (Int32.ofNat m) k M := by
  unfold f_X9_rigNow f_X9_rigNow_b52
  refine r_G h hg (t_new h (fun a M h t => s_getI (h.rg hg) rfl (t_st (i := 0) (by decide) (by decide) h t (fun M h t => s_getI (h.rg hg) rfl (t_st (i := 1) (by decide) (by decide) h t (fun M h t => s_getI (h.rg hg) rfl (t_st (i := 2) (by decide) (by decide) h t (fun M h t => s_getI (h.rg hg) rfl ?_))))))))
  have fin : ∀ v : Int32, v = (if cG A g 3 = 0 then 0 else 1) → mStI K a 3 v (mRecv (r 0) 10 (f_X9_holder K (r 0) (Int32.ofNat g) (fun r1 => mStI K a 4 r1 (mLdI K a (Int32.ofNat m) fun x2 => k x2)))) M := by
    intro v hv
    refine t_st (i := 3) (by decide) (by decide) h t (fun M h t => s_recv h.r0 (x_holder h (t_st (i := 4) (by decide) (by decide) h t (fun M h t => s_ldI t.1 (i_in (by omega) hm) ?_))))
    rw [i_nat (by omega), hv]
    have hk := hk M h
    rcases (show m = 0 ∨ m = 1 ∨ m = 2 ∨ m = 3 ∨ m = 4 by omega) with rfl | rfl | rfl | rfl | rfl
    · rw [ofRF_0] at hk; exact hk
    · rw [ofRF_1] at hk; exact hk
    · rw [ofRF_2] at hk; exact hk
    · rw [ofRF_3] at hk; exact hk
    · rw [ofRF_4] at hk; exact hk
  refine s_if (fun c1 => fin 0 ?_) (fun c1 => fin 1 ?_)
  · have c1 : cG A g 3 = 0 := c1
    rw [if_pos c1]
  · have c1 : ¬ cG A g 3 = 0 := c1
    rw [if_neg c1]
theorem x_ofRig {a w : Int32} {k : Int32 → Mem → Prop} (h : picR K r nJ nR A T M0 M) (hro : ∀ g, g < nR → rigOk A g) (h1 : (∀ m, m < nR → a ≠ Int32.ofNat m) → ∀ M2, picR K r nJ nR A (setTh T 1) M0 M2 → k 0 M2) (h2 : ∀ j, j < nR → a = Int32.ofNat j → ¬ inB w 0 4 → ∀ M2, picR K r nJ nR A (setTh T 2) M0 M2 → k 0 M2)
    (hk : ∀ g m, g < nR → a = Int32.ofNat g → m < 5 → w = Int32.ofNat m → ∀ M2, picR K r nJ nR A (setTh T 0) M0 M2 → k (ofRF A nJ g (Int32.ofNat m)) M2) : f_X9_ofRig K (r 0) a w k M := by
  unfold f_X9_ofRig
  refine q_putM0 h (fun M h => s_recv h.r0 (x_isRig h (fun g hg g2 => s_ifF (by decide) (x_in (fun p1 => s_ifF (by decide) (s_recv h.r0 ?_)) (fun p1 => s_ifT rfl (s_recv h.r0 (x_no h (fun M h => h2 g hg g2 p1 M h)))))) (fun hno => s_ifT rfl (s_recv h.r0 (x_no h (fun M h => h1 hno M h))))))
  subst g2
  obtain ⟨m, rfl, -, m2⟩ := i_num (lo := 0) (hi := 4) (by decide) (by decide) p1
  exact x_rigNow h hro hg (by omega) (fun M2 h => hk g m hg rfl (by omega) rfl M2 h)
theorem x_manyNow {m : Nat} {k : Int32 → Mem → Prop} (h : picR K r nJ nR A T M0 M) (hl : lnOk A nJ ln) (ha : abOk A nJ nR ln) (hlk : lk A T nJ ln) (hn : cntOk A nJ nR) (hm : m < 13) (hk : ∀ M2, picR K r nJ nR A T M0 M2 → k (manyF A (Int32.ofNat m)) M2) : f_X9_manyNow K (r 0) (Int32.ofNat m) k M := by
  unfold f_X9_manyNow f_X9_manyNow_b111
  refine t_new h (fun a M h t => s_getI h.r0 rfl (t_st (i := 0) (by decide) (by decide) h t (fun M h t => r_szJ h (t_st (i := 1) (by decide) (by decide) h t (fun M h t => r_szG h (t_st (i := 2) (by decide) (by decide) h t (fun M h t => s_recv h.r0 (x_ground h (t_st (i := 3) (by decide) (by decide) h t (fun M h t => s_recv h.r0 (x_aboard h hl ha hlk (t_st (i := 4) (by decide) (by decide) h t (fun M h t => s_getI h.r0 rfl (t_st (i := 5) (by decide) (by decide) h t (fun M h t => s_getI h.r0 rfl (t_st (i := 6) (by decide) (by decide) h t (fun M h t => s_getI h.r0 rfl (t_st (i := 7) (by decide) (by decide) h t (fun M h t => s_getI h.r0 rfl (t_st (i := 8) (by decide) (by decide) h t (fun M h t => s_getI h.r0 rfl (t_st (i := 9) (by decide) (by decide) h t (fun M h t => s_getI h.r0 rfl (t_st (i := 10) (by decide) (by decide) h t (fun M h t => s_getI h.r0 rfl ?_)))))))))))))))))))))))))
  have fin : ∀ v : Int32, v = (if cS A 7 = 0 then 0 else 1) → mStI K a 11 v (mGetI (r 0) 10 13 fun x1 => mStI K a 12 x1 (mLdI K a (Int32.ofNat m) fun x2 => k x2)) M := by
    intro v hv
    refine t_st (i := 11) (by decide) (by decide) h t (fun M h t => s_getI h.r0 rfl (t_st (i := 12) (by decide) (by decide) h t (fun M h t => s_ldI t.1 (i_in (by omega) hm) ?_)))
    rw [i_nat (by omega), hv]
    have hk := hk M h
    rcases (show m = 0 ∨ m = 1 ∨ m = 2 ∨ m = 3 ∨ m = 4 ∨ m = 5 ∨ m = 6 ∨ m = 7 ∨ m = 8 ∨ m = 9 ∨ m = 10 ∨ m = 11 ∨ m = 12 by omega) with rfl | rfl | rfl | rfl | rfl | rfl | rfl | rfl | rfl | rfl | rfl | rfl | rfl
    · rw [manyF_0] at hk; exact hk
    · rw [manyF_1, hn.2.2.1] at hk; exact hk
    · rw [manyF_2, hn.2.2.2] at hk; exact hk
    · rw [manyF_3] at hk; exact hk
    · rw [manyF_4, hl.2.1] at hk; exact hk
    · rw [manyF_5] at hk; exact hk
    · rw [manyF_6] at hk; exact hk
    · rw [manyF_7] at hk; exact hk
    · rw [manyF_8] at hk; exact hk
    · rw [manyF_9] at hk; exact hk
    · rw [manyF_10] at hk; exact hk
    · rw [manyF_11] at hk; exact hk
    · rw [manyF_12] at hk; exact hk
  refine s_if (fun c1 => fin 0 ?_) (fun c1 => fin 1 ?_)
  · have c1 : cS A 7 = 0 := c1
    rw [if_pos c1]
  · have c1 : ¬ cS A 7 = 0 := c1
    rw [if_neg c1]
theorem x_many {w : Int32} {k : Int32 → Mem → Prop} (h : picR K r nJ nR A T M0 M) (hl : lnOk A nJ ln) (ha : abOk A nJ nR ln) (hlk : lk A T nJ ln) (hn : cntOk A nJ nR) (h1 : ¬ inB w 0 12 → ∀ M2, picR K r nJ nR A (setTh T 1) M0 M2 → k 0 M2)
    (hk : ∀ m, m < 13 → w = Int32.ofNat m → ∀ M2, picR K r nJ nR A (setTh T 0) M0 M2 → k (manyF A (Int32.ofNat m)) M2) : f_X9_many K (r 0) w k M := by
  unfold f_X9_many
  refine q_putM0 h (fun M h => x_in (fun p1 => s_ifF (by decide) (s_recv h.r0 ?_)) (fun p1 => s_ifT rfl (s_recv h.r0 (x_no h (fun M h => h1 p1 M h)))))
  obtain ⟨m, rfl, -, m2⟩ := i_num (lo := 0) (hi := 12) (by decide) (by decide) p1
  exact x_manyNow (T := setTh T 0) h hl ha hlk hn (by omega) (fun M2 h => hk m (by omega) rfl M2 h)
theorem x_bestNow {j : Nat} {k : Int32 → Mem → Prop} (h : picR K r nJ nR A T M0 M) (hj : j < nJ) (hjo : jmpOk A nR j) (hro : ∀ g, g < nR → rigOk A g) (hk : k (bestF A nJ (Int32.ofNat j) j nR 0 (-1) 0) M) : f_X9_bestNow K (r 0) (Int32.ofNat j) k M := by
  have n2 := h.1.1.2
  have hld : ∀ v, v < nR → LD (ldO (cJ A j 0) (cG A v 0)) := fun v hv => (ld_ok hjo.1.1 hjo.1.2 (hro v hv).1.1 (hro v hv).1.2).2
  have lp : ∀ (d fuel v : Nat) (b : Int32) (g : UInt32), v + d = nR → d < fuel → ((b = -1 ∧ g = 0) ∨ ∃ q, q < nR ∧ b = Int32.ofNat q ∧ g = ldO (cJ A j 0) (cG A q 0)) → k (bestF A nJ (Int32.ofNat j) j d v b g) M → f_X9_bestNow_b19 K k fuel (r 0) (Int32.ofNat j) (r (16 + j)) b (Int32.ofNat v) M := by
    intro d
    induction d with
    | zero =>
      intro fuel v b g hv hf hb hk
      obtain ⟨fuel, rfl⟩ : ∃ e, fuel = e + 1 := ⟨fuel - 1, by omega⟩
      show f_X9_bestNow_b19_body K k (f_X9_bestNow_b19 K k fuel) (r 0) (Int32.ofNat j) (r (16 + j)) b (Int32.ofNat v) M
      unfold f_X9_bestNow_b19_body
      refine r_szG h (s_ifT ?_ hk)
      rw [i_le (by omega) (by omega)]; omega
    | succ d ih =>
      intro fuel v b g hv hf hb hk
      obtain ⟨fuel, rfl⟩ : ∃ e, fuel = e + 1 := ⟨fuel - 1, by omega⟩
      show f_X9_bestNow_b19_body K k (f_X9_bestNow_b19 K k fuel) (r 0) (Int32.ofNat j) (r (16 + j)) b (Int32.ofNat v) M
      unfold f_X9_bestNow_b19_body
      have hlt : v < nR := by omega
      have e : bestF A nJ (Int32.ofNat j) j (d + 1) v b g = if (holdF A (Int32.ofNat v) nJ 0 = -1 ∨ holdF A (Int32.ofNat v) nJ 0 = Int32.ofNat j) ∧ letB A j (ldO (cJ A j 0) (cG A v 0)) = true ∧ (g.toNat : Int) < ((ldO (cJ A j 0) (cG A v 0)).toNat : Int) then bestF A nJ (Int32.ofNat j) j d (v + 1) (Int32.ofNat v) (ldO (cJ A j 0) (cG A v 0)) else bestF A nJ (Int32.ofNat j) j d (v + 1) b g := rfl
      rw [e] at hk
      have skip : ¬ ((holdF A (Int32.ofNat v) nJ 0 = -1 ∨ holdF A (Int32.ofNat v) nJ 0 = Int32.ofNat j) ∧ letB A j (ldO (cJ A j 0) (cG A v 0)) = true ∧ (g.toNat : Int) < ((ldO (cJ A j 0) (cG A v 0)).toNat : Int)) → f_X9_bestNow_b130 K k (f_X9_bestNow_b19 K k fuel) (r 0) (Int32.ofNat j) (r (16 + j)) b (Int32.ofNat v) M := by
        intro hno
        unfold f_X9_bestNow_b130
        rw [if_neg hno] at hk
        rw [i_succ]
        exact ih fuel (v + 1) b g (by omega) (by omega) hb hk
      have b53 : (holdF A (Int32.ofNat v) nJ 0 = -1 ∨ holdF A (Int32.ofNat v) nJ 0 = Int32.ofNat j) → f_X9_bestNow_b53 K k (f_X9_bestNow_b19 K k fuel) (r 0) (Int32.ofNat j) (r (16 + j)) b (Int32.ofNat v) M := by
        intro hh
        unfold f_X9_bestNow_b53
        have take : letB A j (ldO (cJ A j 0) (cG A v 0)) = true → (g.toNat : Int) < ((ldO (cJ A j 0) (cG A v 0)).toNat : Int) → f_X9_bestNow_b127 K k (f_X9_bestNow_b19 K k fuel) (r 0) (Int32.ofNat j) (r (16 + j)) (Int32.ofNat v) M := by
          intro t1 t2
          unfold f_X9_bestNow_b127 f_X9_bestNow_b130
          rw [if_pos ⟨hh, t1, t2⟩] at hk
          rw [i_succ]
          exact ih fuel (v + 1) _ _ (by omega) (by omega) (Or.inr ⟨v, hlt, rfl, rfl⟩) hk
        refine r_G h hlt (x_loading h hj hlt hjo (hro v hlt) (s_recv h.r0 (x_most h hj (s_if (fun c1 => s_if (fun c2 => ?_) (fun c2 => ?_)) (fun c1 => skip (fun h9 => ?_))))))
        · rw [(hld v hlt).cmpC (mostF_le A j), cv_le] at c1
          refine take ((letB_most hjo).mpr c1) ?_
          rcases hb with ⟨-, rfl⟩ | ⟨q, q1, q2, -⟩
          · have := (hld v hlt).1
            show ((0 : UInt32).toNat : Int) < _
            rw [show (0 : UInt32).toNat = 0 from rfl]; omega
          · rw [q2] at c2; exact absurd c2 (i_negone q (by omega))
        · rw [(hld v hlt).cmpC (mostF_le A j), cv_le] at c1
          obtain ⟨q, q1, q2, q3⟩ := hb.resolve_left (fun h9 => c2 h9.1)
          subst q2
          subst q3
          refine r_G h hlt (x_loading h hj hlt hjo (hro v hlt) (r_G h q1 (x_loading h hj q1 hjo (hro q q1) (s_if (fun c3 => skip (fun h9 => ?_)) (fun c3 => take ((letB_most hjo).mpr c1) ?_)))))
          · rw [(hld v hlt).cmp (hld q q1), cv_le] at c3
            have := h9.2.2; omega
          · rw [(hld v hlt).cmp (hld q q1), cv_le] at c3
            omega
        · rw [(hld v hlt).cmpC (mostF_le A j), cv_le] at c1
          exact c1 ((letB_most hjo).mp h9.2.1)
      refine r_szG h (s_ifF ?_ (s_recv h.r0 (x_holder h (s_if (fun c1 => b53 (Or.inl c1)) (fun c1 => s_recv h.r0 (x_holder h (s_if (fun c2 => b53 (Or.inr c2)) (fun c2 => skip (fun h9 => h9.1.elim c1 c2)))))))))
      rw [i_le (by omega) (by omega)]; omega
  unfold f_X9_bestNow
  exact r_J h hj (lp nR mFuel 0 (-1) 0 (Nat.zero_add _) (by show nR < 4096; omega) (Or.inl ⟨rfl, rfl⟩) hk)
theorem x_best {a : Int32} {k : Int32 → Mem → Prop} (h : picR K r nJ nR A T M0 M) (hjs : ∀ j, j < nJ → jmpOk A nR j) (hro : ∀ g, g < nR → rigOk A g) (h1 : (∀ m, m < nJ → a ≠ Int32.ofNat m) → ∀ M2, picR K r nJ nR A (setTh T 1) M0 M2 → k 0 M2)
    (hk : ∀ j, j < nJ → a = Int32.ofNat j → ∀ M2, picR K r nJ nR A (setTh T 0) M0 M2 → k (bestF A nJ (Int32.ofNat j) j nR 0 (-1) 0) M2) : f_X9_best K (r 0) a k M := by
  unfold f_X9_best
  refine q_putM0 h (fun M h => s_recv h.r0 (x_isJumper h (fun j hj j2 => s_ifF (by decide) ?_) (fun hno => s_ifT rfl (s_recv h.r0 (x_no h (fun M h => h1 hno M h))))))
  subst j2
  exact s_recv h.r0 (x_bestNow h hj (hjs j hj) hro (hk j hj rfl M h))
end REFB
