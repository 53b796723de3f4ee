/-! ===== THE REFERENCE: a jump is made; one that would jump alone ===== -/
section REFJ
variable {K : Cfg} {r : Nat → Nat} {nJ nR : Nat} {A : CS} {T : RT} {M0 M : Mem} {ln : List Nat}
abbrev nilJ : List Value := [.null, .int 0, .int 0, .float 0, .double 0, .double 0, .int 0, .int 0, .int 0, .int 0, .int 0, .int 0, .null]
theorem picR.env {j : Nat} (h : picR K r nJ nR A T M0 M) (hj : j < nJ) : envR K (r (16 + j)) (r 0) (r 3) (r 4) (cJ A j 1) (cX A) (cY A) M :=
  ⟨⟨_, h.rj hj, rfl⟩, ⟨_, h.r0, rfl, rfl⟩, h.r3, h.r4⟩
theorem x_jinit {a j oo : Nat} {st fr : Int32} {x : Int} {k : Mem → Prop} (h : picR K r nJ nR A T M0 M) (ha : M a = none) (hj : j < nJ) (hjo : jmpOk A nR j) (hro : ∀ g, g < nR → rigOk A g) (ho : oo ≤ 6) (hk : k (mUp M a (jr (r (16 + j)) (r 0) fr st (ldF A j) oo false (10, 0, x, 0)))) : f_X6_init K a (r 0) (r (16 + j)) st (Int32.ofNat oo) fr (em x) k (mUp M a (.inr (7, nilJ))) := by
  unfold f_X6_init
  have hap := h.apart ha
  refine u_put (by show 12 < 13; decide) (u_put (by show 6 < 13; decide) (u_put (by show 0 < 13; decide) (u_put (by show 2 < 13; decide) (u_put (by show 8 < 13; decide) (u_put (by show 1 < 13; decide) (u_put (by show 4 < 13; decide) (s_recv ((mUp_ne (hap 0 (rv_lo (by decide)))).trans h.r0) (x_loading_ (h.mono (mle_up ha)) hj hjo hro (u_put (by show 3 < 13; decide) ?_)))))))))
  have e : jr (r (16 + j)) (r 0) fr st (ldF A j) oo false (10, 0, x, 0) = .inr (7, [.ref (r (16 + j)), .int fr, .int st, .float (ldF A j), .double (em x), .double 0, .int 9, .int 0, .int (Int32.ofNat oo), .int 0, .int 0, .int 0, .ref (r 0)]) := by
    rw [jr_eq (op := oo) (io := 0) (ir := 0) (it := 0) (if_neg (fun h9 => absurd h9.1 (by decide))) (if_neg (by unfold opF; rw [if_neg (by decide)]; omega)) (if_neg (fun h9 => absurd h9.1 (by decide))) (if_neg (by decide))]
    unfold jq
    rw [em_zero]
    rfl
  rw [e] at hk
  exact hk
theorem x_refusal {a st op sp : Int32} {k : Int32 → Mem → Prop} (h : picR K r nJ nR A T M0 M) (h1 : (∀ m, m < nJ → a ≠ Int32.ofNat m) → k 1 M) (h2 : ∀ j, j < nJ → a = Int32.ofNat j → ¬ (inB st 0 1 ∧ inB op 2 6 ∧ inB sp (-200) 200) → k 2 M)
    (h3 : ∀ j, j < nJ → a = Int32.ofNat j → inB st 0 1 → inB op 2 6 → inB sp (-200) 200 → cJ A j 2 = -1 → k 3 M) (h0 : ∀ j, j < nJ → a = Int32.ofNat j → inB st 0 1 → inB op 2 6 → inB sp (-200) 200 → cJ A j 2 ≠ -1 → k 0 M) : f_X9_refusal K (r 0) a st op sp k M := by
  unfold f_X9_refusal f_X9_refusal_b43 f_X9_refusal_b70
  refine s_recv h.r0 (x_isJumper h (fun j hj j2 => s_ifF (by decide) (x_in (fun p1 => s_ifF (by decide) (x_in (fun p2 => s_ifF (by decide) (x_in (fun p3 => s_ifF (by decide) ?_) (fun p3 => s_ifT rfl (h2 j hj j2 (fun h9 => p3 h9.2.2))))) (fun p2 => s_ifT rfl (h2 j hj j2 (fun h9 => p2 h9.2.1))))) (fun p1 => s_ifT rfl (h2 j hj j2 (fun h9 => p1 h9.1))))) (fun hno => s_ifT rfl (h1 hno)))
  subst j2
  exact r_J h hj (s_getI (h.rj hj) rfl (s_if (fun c1 => h3 j hj rfl p1 p2 p3 c1) (fun c1 => h0 j hj rfl p1 p2 p3 c1)))
theorem x_land_loop {a j oo : Nat} {st fr z : Int32} {k : UInt64 → Mem → Prop} (h : picR K r nJ nR A T M0 M) (ha : ∀ i, rv nJ nR i → r i ≠ a) (hj : j < nJ) (hl : LD (ldF A j)) (o1 : 2 ≤ oo) (o2 : oo ≤ 6) (hX : wbd (cX A)) (hY : wbd (cY A)) :
    ∀ (d fuel N : Nat) (s : JS), good N s → pot s ≤ d → d < fuel → N + 20 * d ≤ 100000 → k (em (if z = 0 then (itr (jF st (cJ A j 1) (ldF A j) oo false (cX A) (cY A)) d s).2.2.1 else (itr (jF st (cJ A j 1) (ldF A j) oo false (cX A) (cY A)) d s).2.2.2)) (mUp M a (jr (r (16 + j)) (r 0) fr st (ldF A j) oo false (itr (jF st (cJ A j 1) (ldF A j) oo false (cX A) (cY A)) d s))) → f_X9_wouldLand_b51 K k fuel z a (mUp M a (jr (r (16 + j)) (r 0) fr st (ldF A j) oo false s)) := by
  have fin : ∀ (fuel : Nat) (s : JS), s.1 = 0 → s.1 ≤ 10 → k (em (if z = 0 then s.2.2.1 else s.2.2.2)) (mUp M a (jr (r (16 + j)) (r 0) fr st (ldF A j) oo false s)) → f_X9_wouldLand_b51 K k (fuel + 1) z a (mUp M a (jr (r (16 + j)) (r 0) fr st (ldF A j) oo false s)) := by
    intro fuel s h0 h1 hk
    show f_X9_wouldLand_b51_body K k (f_X9_wouldLand_b51 K k fuel) z a _
    unfold f_X9_wouldLand_b51_body f_X9_wouldLand_b85
    refine s_recv mUp_same (q_isDownS mUp_same h1 ?_)
    rw [if_pos h0]
    refine s_ifF (by decide) (s_if (fun p => s_getD mUp_same rfl ?_) (fun p => s_getD mUp_same rfl ?_))
    · rw [if_pos p] at hk; exact hk
    · rw [if_neg p] at hk; exact hk
  intro d
  induction d with
  | zero =>
    intro fuel N s hs hp hf hN hk
    obtain ⟨fuel, rfl⟩ : ∃ e, fuel = e + 1 := ⟨fuel - 1, by omega⟩
    exact fin fuel s ((pot_zero hs).mp (by omega)) hs.1 hk
  | succ d ih =>
    intro fuel N s hs hp hf hN hk
    obtain ⟨fuel, rfl⟩ : ∃ e, fuel = e + 1 := ⟨fuel - 1, by omega⟩
    by_cases h0 : s.1 = 0
    · rw [itr_down h0] at hk
      exact fin fuel s h0 hs.1 hk
    · show f_X9_wouldLand_b51_body K k (f_X9_wouldLand_b51 K k fuel) z a _
      unfold f_X9_wouldLand_b51_body
      refine s_recv mUp_same (q_isDownS mUp_same hs.1 ?_)
      rw [if_neg h0]
      refine s_ifT rfl (s_recv mUp_same (q_tick (N := N) hl o1 o2 (h.env hj) (ha _ (rv_j hj)) (ha 0 (rv_lo (by decide))) (ha 3 (rv_lo (by decide))) (ha 4 (rv_lo (by decide))) hX hY h0 hs (by omega) ?_))
      have hpt : pot (jF st (cJ A j 1) (ldF A j) oo false (cX A) (cY A) s) < pot s := pot_stp hs h0
      exact ih fuel (N + 20) _ (good_stp hX hY faF_le (glF_le hl) (fwF_ok hl).1 hs) (by omega) (by omega) (by omega) hk
theorem x_takes_loop {a j oo : Nat} {st fr : Int32} {k : Int32 → Mem → Prop} (h : picR K r nJ nR A T M0 M) (ha : ∀ i, rv nJ nR i → r i ≠ a) (hj : j < nJ) (hl : LD (ldF A j)) (o1 : 2 ≤ oo) (o2 : oo ≤ 6) (hX : wbd (cX A)) (hY : wbd (cY A)) :
    ∀ (d fuel N v : Nat) (s : JS), good N s → pot s ≤ d → d < fuel → N + 20 * d ≤ 100000 → k (Int32.ofNat (v + tkn (jF st (cJ A j 1) (ldF A j) oo false (cX A) (cY A)) d s)) (mUp M a (jr (r (16 + j)) (r 0) fr st (ldF A j) oo false (itr (jF st (cJ A j 1) (ldF A j) oo false (cX A) (cY A)) d s))) → f_X9_takes_b51 K k fuel a (Int32.ofNat v) (mUp M a (jr (r (16 + j)) (r 0) fr st (ldF A j) oo false s)) := by
  have fin : ∀ (fuel v : Nat) (s : JS), s.1 = 0 → s.1 ≤ 10 → k (Int32.ofNat v) (mUp M a (jr (r (16 + j)) (r 0) fr st (ldF A j) oo false s)) → f_X9_takes_b51 K k (fuel + 1) a (Int32.ofNat v) (mUp M a (jr (r (16 + j)) (r 0) fr st (ldF A j) oo false s)) := by
    intro fuel v s h0 h1 hk
    show f_X9_takes_b51_body K k (f_X9_takes_b51 K k fuel) a (Int32.ofNat v) _
    unfold f_X9_takes_b51_body
    refine s_recv mUp_same (q_isDownS mUp_same h1 ?_)
    rw [if_pos h0]
    exact s_ifF (by decide) hk
  intro d
  induction d with
  | zero =>
    intro fuel N v s hs hp hf hN hk
    obtain ⟨fuel, rfl⟩ : ∃ e, fuel = e + 1 := ⟨fuel - 1, by omega⟩
    exact fin fuel v s ((pot_zero hs).mp (by omega)) hs.1 hk
  | succ d ih =>
    intro fuel N v s hs hp hf hN hk
    obtain ⟨fuel, rfl⟩ : ∃ e, fuel = e + 1 := ⟨fuel - 1, by omega⟩
    by_cases h0 : s.1 = 0
    · rw [itr_down h0] at hk
      have h9 : tkn (jF st (cJ A j 1) (ldF A j) oo false (cX A) (cY A)) (d + 1) s = 0 := by show (if s.1 = 0 then 0 else _) = 0; rw [if_pos h0]
      rw [h9] at hk
      exact fin fuel v s h0 hs.1 hk
    · show f_X9_takes_b51_body K k (f_X9_takes_b51 K k fuel) a (Int32.ofNat v) _
      unfold f_X9_takes_b51_body
      have h9 : tkn (jF st (cJ A j 1) (ldF A j) oo false (cX A) (cY A)) (d + 1) s = 1 + tkn (jF st (cJ A j 1) (ldF A j) oo false (cX A) (cY A)) d (jF st (cJ A j 1) (ldF A j) oo false (cX A) (cY A) s) := by show (if s.1 = 0 then 0 else _) = _; rw [if_neg h0]
      rw [h9] at hk
      refine s_recv mUp_same (q_isDownS mUp_same hs.1 ?_)
      rw [if_neg h0]
      refine s_ifT rfl (s_recv mUp_same (q_tick (N := N) hl o1 o2 (h.env hj) (ha _ (rv_j hj)) (ha 0 (rv_lo (by decide))) (ha 3 (rv_lo (by decide))) (ha 4 (rv_lo (by decide))) hX hY h0 hs (by omega) ?_))
      have hpt : pot (jF st (cJ A j 1) (ldF A j) oo false (cX A) (cY A) s) < pot s := pot_stp hs h0
      rw [i_succ]
      refine ih fuel (N + 20) (v + 1) _ (good_stp hX hY faF_le (glF_le hl) (fwF_ok hl).1 hs) (by omega) (by omega) (by omega) ?_
      rw [Nat.add_assoc]; exact hk
theorem x_wouldLand {nF : Nat} {a st op sp z : Int32} {k : UInt64 → Mem → Prop} (f1 : 320 ≤ nF) (f2 : nF ≤ 900) (h : picR K r nJ nR A T M0 M) (hjs : ∀ j, j < nJ → jmpOk A nR j) (hro : ∀ g, g < nR → rigOk A g) (hX : wbd (cX A)) (hY : wbd (cY A)) (h1 : (∀ m, m < nJ → a ≠ Int32.ofNat m) → ∀ v M2, picR K r nJ nR A (setTh T 1) M0 M2 → k v M2)
    (h2 : ∀ j, j < nJ → a = Int32.ofNat j → ¬ (inB st 0 1 ∧ inB op 2 6 ∧ inB sp (-200) 200) → ∀ v M2, picR K r nJ nR A (setTh T 2) M0 M2 → k v M2)
    (h3 : ∀ j, j < nJ → a = Int32.ofNat j → inB st 0 1 → inB op 2 6 → inB sp (-200) 200 → cJ A j 2 = -1 → ∀ v M2, picR K r nJ nR A (setTh T 3) M0 M2 → k v M2)
    (hk : ∀ j, j < nJ → a = Int32.ofNat j → inB st 0 1 → inB sp (-200) 200 → ∀ o9, op = Int32.ofNat o9 → 2 ≤ o9 → o9 ≤ 6 → cJ A j 2 ≠ -1 → ∀ M2, picR K r nJ nR A (setTh T 0) M0 M2 → k (em (if z = 0 then (itr (jF st (cJ A j 1) (ldF A j) o9 false (cX A) (cY A)) nF (10, 0, sp.toInt * 16777216, 0)).2.2.1 else (itr (jF st (cJ A j 1) (ldF A j) o9 false (cX A) (cY A)) nF (10, 0, sp.toInt * 16777216, 0)).2.2.2)) M2) : f_X9_wouldLand K (r 0) a st op sp z k M := by
  unfold f_X9_wouldLand
  refine s_recv h.r0 (x_refusal h (fun hno => ?_) (fun j hj j2 hno => ?_) (fun j hj j2 p1 p2 p3 p4 => ?_) (fun j hj j2 p1 p2 p3 p4 => ?_))
  · exact q_putM0 h (fun M h => s_getI h.r0 rfl (s_ifF (by show ¬ (1 : Int32) ≤ 0; decide) (h1 hno _ M h)))
  · exact q_putM0 h (fun M h => s_getI h.r0 rfl (s_ifF (by show ¬ (2 : Int32) ≤ 0; decide) (h2 j hj j2 hno _ M h)))
  · exact q_putM0 h (fun M h => s_getI h.r0 rfl (s_ifF (by show ¬ (3 : Int32) ≤ 0; decide) (h3 j hj j2 p1 p2 p3 p4 _ M h)))
  · refine q_putM0 h (fun M h => s_getI h.r0 rfl (s_ifT (by show (0 : Int32) ≤ 0; decide) (fun x hx => ?_)))
    subst j2
    have hM := fresh_none hx
    have hM0 := h.nil0 hM
    have hap := h.apart hM
    have hsp : -200 ≤ sp.toInt ∧ sp.toInt ≤ 200 := ⟨Int32.le_iff_toInt_le.mp p3.1, Int32.le_iff_toInt_le.mp p3.2⟩
    obtain ⟨o9, rfl, o1, o2⟩ := i_num (lo := 2) (hi := 6) (by decide) (by decide) p2
    refine r_J (h.mono (mle_up hM)) hj ?_
    rw [em_i2d (show sp.toInt.natAbs < 2 ^ 29 by omega), show (2 : Int) ^ 24 = 16777216 from rfl]
    have hld := (ld_some (hjs j hj) h.1.1.2 hro p4).2
    refine x_jinit h hM hj (hjs j hj) hro o2 ?_
    refine x_land_loop h hap hj hld o1 o2 hX hY nF mFuel 200 _ ⟨Nat.le_refl 10, Nat.zero_le 31, ⟨by show -(((200 : Nat) : Int) * 16777216) ≤ sp.toInt * 16777216; omega, by show sp.toInt * 16777216 ≤ ((200 : Nat) : Int) * 16777216; omega⟩, ⟨by show -(((200 : Nat) : Int) * 16777216) ≤ 0; omega, by show 0 ≤ ((200 : Nat) : Int) * 16777216; omega⟩⟩ ?_ (by show nF < 4096; omega) (by omega) (hk j hj rfl p1 p3 o9 rfl o1 o2 p4 _ (h.tmp hM0 hap))
    show 10 * 32 - 0 ≤ nF
    omega
theorem x_takes {nF : Nat} {a st op : Int32} {k : Int32 → Mem → Prop} (f1 : 320 ≤ nF) (f2 : nF ≤ 900) (h : picR K r nJ nR A T M0 M) (hjs : ∀ j, j < nJ → jmpOk A nR j) (hro : ∀ g, g < nR → rigOk A g) (hX : wbd (cX A)) (hY : wbd (cY A)) (h1 : (∀ m, m < nJ → a ≠ Int32.ofNat m) → ∀ M2, picR K r nJ nR A (setTh T 1) M0 M2 → k 0 M2)
    (h2 : ∀ j, j < nJ → a = Int32.ofNat j → ¬ (inB st 0 1 ∧ inB op 2 6) → ∀ M2, picR K r nJ nR A (setTh T 2) M0 M2 → k 0 M2)
    (h3 : ∀ j, j < nJ → a = Int32.ofNat j → inB st 0 1 → inB op 2 6 → cJ A j 2 = -1 → ∀ M2, picR K r nJ nR A (setTh T 3) M0 M2 → k 0 M2)
    (hk : ∀ j, j < nJ → a = Int32.ofNat j → inB st 0 1 → ∀ o9, op = Int32.ofNat o9 → 2 ≤ o9 → o9 ≤ 6 → cJ A j 2 ≠ -1 → ∀ M2, picR K r nJ nR A (setTh T 0) M0 M2 → k (Int32.ofNat (tkn (jF st (cJ A j 1) (ldF A j) o9 false (cX A) (cY A)) nF (10, 0, 0, 0))) M2) : f_X9_takes K (r 0) a st op k M := by
  have i0 : inB 0 (-200) 200 := by unfold inB; decide
  unfold f_X9_takes
  refine s_recv h.r0 (x_refusal h (fun hno => ?_) (fun j hj j2 hno => ?_) (fun j hj j2 p1 p2 p3 p4 => ?_) (fun j hj j2 p1 p2 p3 p4 => ?_))
  · exact q_putM0 h (fun M h => s_getI h.r0 rfl (s_ifF (by show ¬ (1 : Int32) ≤ 0; decide) (h1 hno M h)))
  · exact q_putM0 h (fun M h => s_getI h.r0 rfl (s_ifF (by show ¬ (2 : Int32) ≤ 0; decide) (h2 j hj j2 (fun h9 => hno ⟨h9.1, h9.2, i0⟩) M h)))
  · exact q_putM0 h (fun M h => s_getI h.r0 rfl (s_ifF (by show ¬ (3 : Int32) ≤ 0; decide) (h3 j hj j2 p1 p2 p4 M h)))
  · refine q_putM0 h (fun M h => s_getI h.r0 rfl (s_ifT (by show (0 : Int32) ≤ 0; decide) (fun x hx => ?_)))
    subst j2
    have hM := fresh_none hx
    have hM0 := h.nil0 hM
    have hap := h.apart hM
    obtain ⟨o9, rfl, o1, o2⟩ := i_num (lo := 2) (hi := 6) (by decide) (by decide) p2
    refine r_J (h.mono (mle_up hM)) hj ?_
    rw [em_c0]
    have hld := (ld_some (hjs j hj) h.1.1.2 hro p4).2
    refine x_jinit h hM hj (hjs j hj) hro o2 ?_
    refine x_takes_loop h hap hj hld o1 o2 hX hY nF mFuel 0 0 _ ⟨Nat.le_refl 10, Nat.zero_le 31, ⟨Int.le_refl 0, Int.le_refl 0⟩, ⟨Int.le_refl 0, Int.le_refl 0⟩⟩ ?_ (by show nF < 4096; omega) (by omega) ?_
    · show 10 * 32 - 0 ≤ nF
      omega
    · rw [Nat.zero_add]
      exact hk j hj rfl p1 o9 rfl o1 o2 p4 _ (h.tmp hM0 hap)
end REFJ
