/-! ===== THE CLASS'S CALLS: the rest of what is asked; best; one that jumps alone ===== -/
def bestF (A : CS) (nJ : Nat) (jn : Int32) (j : Nat) : Nat → Nat → Int32 → UInt32 → Int32
  | 0 => fun _ b _ => b
  | d + 1 => fun v b g => if (holdF A (Int32.ofNat v) nJ 0 = -1 ∨ holdF A (Int32.ofNat v) nJ 0 = jn) ∧ letB A j (ldO (cJ A j 0) (cG A v 0)) = true ∧ (g.toNat : Int) < ((ldO (cJ A j 0) (cG A v 0)).toNat : Int) then bestF A nJ jn j d (v + 1) (Int32.ofNat v) (ldO (cJ A j 0) (cG A v 0)) else bestF A nJ jn j d (v + 1) b g
section CLSQ
variable {K : Cfg} {c : Nat → Nat} {A : CS} {M0 M : Mem} {nJ nR : Nat} {ln : List Nat} {QX : String → Mem → Prop}
theorem i_ne {w n : Int32} (h : ¬ w = n) : w.toInt ≠ n.toInt := fun e => h (Int32.toInt_inj.mp e)
theorem c_ofRig {r : Nat} {w : Int32} {k : Int32 → Mem → Prop} (h : picC K c A M0 M) (hn : cntOk A nJ nR) (hr : r < nR) (hx : (w.toInt < 0 ∨ 4 < w.toInt) → QX xA M) (hk : ¬ (w.toInt < 0 ∨ 4 < w.toInt) → k (ofRF A nJ r w) M) : f_X5_ofRig K (c 0) (Int32.ofNat r) w k QX M := by
  have n2 := hn.2.1
  unfold f_X5_ofRig
  refine s_recv h.c0 (c_rigAt h hn hr (s_if hx (fun c0 => ?_)))
  have hk := hk c0
  unfold ofRF at hk
  have hr8 := h.cg (show r < 8 by omega)
  refine s_if (fun q => s_getI hr8 rfl (by rw [if_pos q] at hk; exact hk)) (fun q0 => ?_); rw [if_neg q0] at hk
  refine s_if (fun q => s_getI hr8 rfl (by rw [if_pos q] at hk; exact hk)) (fun q1 => ?_); rw [if_neg q1] at hk
  refine s_if (fun q => s_getI hr8 rfl (by rw [if_pos q] at hk; exact hk)) (fun q2 => ?_); rw [if_neg q2] at hk
  refine s_if (fun q => s_getI hr8 rfl ?_) (fun q3 => ?_)
  · rw [if_pos q] at hk
    refine s_if (fun p => ?_) (fun p => ?_)
    · rw [if_pos p] at hk; exact hk
    · rw [if_neg p] at hk; exact hk
  rw [if_neg q3] at hk
  refine s_ifT ?_ (s_recv h.c0 (c_holderOf h hn hk))
  have e0 : w.toInt ≠ 0 := i_ne q0
  have e1 : w.toInt ≠ 1 := i_ne q1
  have e2 : w.toInt ≠ 2 := i_ne q2
  have e3 : w.toInt ≠ 3 := i_ne q3
  rw [← Int32.toInt_inj]; show w.toInt = 4; omega
theorem c_many {w : Int32} {k : Int32 → Mem → Prop} (h : picC K c A M0 M) (hx : (w.toInt < 0 ∨ 12 < w.toInt) → QX xA M) (hk : ¬ (w.toInt < 0 ∨ 12 < w.toInt) → k (manyF A w) M) : f_X5_many K (c 0) w k QX M := by
  unfold f_X5_many
  refine s_if hx (fun c0 => ?_)
  have hk := hk c0
  unfold manyF at hk
  refine s_if (fun q => s_getI h.c0 rfl (by rw [if_pos q] at hk; exact hk)) (fun q0 => ?_); rw [if_neg q0] at hk
  refine s_if (fun q => s_getI h.c0 rfl (by rw [if_pos q] at hk; exact hk)) (fun q1 => ?_); rw [if_neg q1] at hk
  refine s_if (fun q => s_getI h.c0 rfl (by rw [if_pos q] at hk; exact hk)) (fun q2 => ?_); rw [if_neg q2] at hk
  refine s_if (fun q => s_getR h.c0 rfl (s_recv h.wd.1 (c_ground h (by rw [if_pos q] at hk; exact hk)))) (fun q3 => ?_); rw [if_neg q3] at hk
  refine s_if (fun q => s_getI h.c0 rfl (by rw [if_pos q] at hk; exact hk)) (fun q4 => ?_); rw [if_neg q4] at hk
  refine s_if (fun q => s_getI h.c0 rfl (by rw [if_pos q] at hk; exact hk)) (fun q5 => ?_); rw [if_neg q5] at hk
  refine s_if (fun q => s_getI h.c0 rfl (by rw [if_pos q] at hk; exact hk)) (fun q6 => ?_); rw [if_neg q6] at hk
  refine s_if (fun q => s_getI h.c0 rfl (by rw [if_pos q] at hk; exact hk)) (fun q7 => ?_); rw [if_neg q7] at hk
  refine s_if (fun q => s_getI h.c0 rfl (by rw [if_pos q] at hk; exact hk)) (fun q8 => ?_); rw [if_neg q8] at hk
  refine s_if (fun q => s_getI h.c0 rfl (by rw [if_pos q] at hk; exact hk)) (fun q9 => ?_); rw [if_neg q9] at hk
  refine s_if (fun q => s_getI h.c0 rfl (by rw [if_pos q] at hk; exact hk)) (fun q10 => ?_); rw [if_neg q10] at hk
  refine s_if (fun q => s_getI h.c0 rfl ?_) (fun q11 => ?_)
  · rw [if_pos q] at hk
    refine s_if (fun p => ?_) (fun p => ?_)
    · rw [if_pos p] at hk; exact hk
    · rw [if_neg p] at hk; exact hk
  rw [if_neg q11] at hk
  refine s_ifT ?_ (s_getI h.c0 rfl hk)
  have e0 : w.toInt ≠ 0 := i_ne q0
  have e1 : w.toInt ≠ 1 := i_ne q1
  have e2 : w.toInt ≠ 2 := i_ne q2
  have e3 : w.toInt ≠ 3 := i_ne q3
  have e4 : w.toInt ≠ 4 := i_ne q4
  have e5 : w.toInt ≠ 5 := i_ne q5
  have e6 : w.toInt ≠ 6 := i_ne q6
  have e7 : w.toInt ≠ 7 := i_ne q7
  have e8 : w.toInt ≠ 8 := i_ne q8
  have e9 : w.toInt ≠ 9 := i_ne q9
  have e10 : w.toInt ≠ 10 := i_ne q10
  have e11 : w.toInt ≠ 11 := i_ne q11
  rw [← Int32.toInt_inj]; show w.toInt = 12; omega
theorem c_ofWind {a z : Int32} {k : Int32 → Mem → Prop} (h : picC K c A M0 M) (hi : (a < 0 ∨ 10 ≤ a) → QX xI M) (hk : ∀ n, n < 10 → a = Int32.ofNat n → k (if z = 0 then cX A n else cY A n) M) : f_X5_ofWind K (c 0) a z k QX M := by
  unfold f_X5_ofWind
  refine c_layer (fun hn => ?_) hi
  obtain ⟨n, hn1, rfl⟩ := hn
  have hk := hk n hn1 rfl
  rw [lyr_ofNat hn1]
  refine s_if (fun p => s_getR h.c0 rfl (s_recv h.wd.1 (p_xOf h.wd (by omega) (by omega) ?_))) (fun p => s_getR h.c0 rfl (s_recv h.wd.1 (p_yOf h.wd (by omega) (by omega) ?_)))
  · rw [if_pos p] at hk; exact hk
  · rw [if_neg p] at hk; exact hk
theorem f2d_n64 {l : UInt32} (h : FP.Core.val32 l ≠ .nan) : vf_n64 (FP.f2d l) := by
  have hnn : FP.Core.fIsNaN l = false := (FP.Core.notNaN_iff32 l).mpr h
  have hf : FP.f2d l = FP.Core.f2d l := by
    unfold FP.f2d
    rw [if_neg (by rw [hnn]; decide)]
  rw [hf]
  exact em_n64 ((FP.Core.notNaN_iff _).mp (FP.Core.f2d_out hnn))
theorem c_loading {j : Nat} {k : UInt64 → Mem → Prop} (h : picC K c A M0 M) (hn : cntOk A nJ nR) (hj : j < nJ) (hjo : jmpOk A nR j) (hro : ∀ r, r < nR → rigOk A r) (hk : k (FP.f2d (ldF A j)) M) : f_X5_loading K (c 0) (Int32.ofNat j) k QX M := by
  unfold f_X5_loading
  refine s_recv h.c0 (c_jumperAt h hn hj (s_recv h.c0 (c_loadingOf h hn hj hjo hro (s_as ?_ hk))))
  by_cases h2 : cJ A j 2 = -1
  · unfold ldF; rw [if_pos h2]; exact f2d_n64 (by rw [FP.Core.val32_zero]; exact FP.Core.Datum.noConfusion)
  · exact f2d_n64 (ld_some hjo hn.2.1 hro h2).2.ne
theorem c_landed {j : Nat} {z : Int32} {k : UInt64 → Mem → Prop} (h : picC K c A M0 M) (hn : cntOk A nJ nR) (hj : j < nJ) (hk : k (em (if z = 0 then cP A j 8 else cP A j 9)) M) : f_X5_landed K (c 0) (Int32.ofNat j) z k QX M := by
  have n1 := hn.1
  unfold f_X5_landed
  refine s_recv h.c0 (c_jumperAt h hn hj (s_if (fun p => s_getD (h.cj (by omega)) rfl ?_) (fun p => s_getD (h.cj (by omega)) rfl ?_)))
  · rw [if_pos p] at hk; exact hk
  · rw [if_neg p] at hk; exact hk
theorem c_refuses {j : Nat} {k : Int32 → Mem → Prop} (hne : K.2.2 2 ≠ K.2.2 3) (h : picC K c A M0 M) (hn : cntOk A nJ nR) (hl : lnOk A nJ ln) (hj : j < nJ) (hjo : jmpOk A nR j) (hro : ∀ r, r < nR → rigOk A r) (hk : k (whyF A ln j) M) : f_X5_refuses K (c 0) (Int32.ofNat j) k QX M := by
  unfold f_X5_refuses
  exact s_recv h.c0 (c_whyNot hne h hn hl hj hjo hro hk)
theorem c_best_loop {j : Nat} {jn : Int32} {k : Int32 → Mem → Prop} (hne : K.2.2 2 ≠ K.2.2 3) (h : picC K c A M0 M) (hn : cntOk A nJ nR) (hj : j < nJ) (hjo : jmpOk A nR j) (hro : ∀ r, r < nR → rigOk A r) : ∀ (d fuel v : Nat) (b : Int32) (g : UInt32), g.toNat ≤ 2139095040 → v + d = nR → d < fuel → k (bestF A nJ jn j d v b g) M → f_X5_best_b14 K k QX fuel (c 0) jn (c (16 + j)) b g (Int32.ofNat v) M := by
  obtain ⟨n1, n2, n3, n4⟩ := id hn
  intro d
  induction d with
  | zero =>
    intro fuel v b g hg hv hf hk
    obtain ⟨fuel, rfl⟩ : ∃ e, fuel = e + 1 := ⟨fuel - 1, by omega⟩
    show f_X5_best_b14_body K k QX (f_X5_best_b14 K k QX fuel) (c 0) jn (c (16 + j)) b g (Int32.ofNat v) M
    unfold f_X5_best_b14_body
    refine s_getI h.c0 rfl (s_ifT ?_ hk)
    rw [n4, i_le (by omega) (by omega)]; omega
  | succ d ih =>
    intro fuel v b g hg hv hf hk
    obtain ⟨fuel, rfl⟩ : ∃ e, fuel = e + 1 := ⟨fuel - 1, by omega⟩
    show f_X5_best_b14_body K k QX (f_X5_best_b14 K k QX fuel) (c 0) jn (c (16 + j)) b g (Int32.ofNat v) M
    unfold f_X5_best_b14_body
    have hlt : v < nR := by omega
    have hld : LD (ldO (cJ A j 0) (cG A v 0)) := (ld_ok hjo.1.1 hjo.1.2 (hro v hlt).1.1 (hro v hlt).1.2).2
    refine s_getI h.c0 rfl (s_ifF ?_ (s_recv h.c0 (c_holderOf h hn (s_recv h.c0 (c_rigAt h hn hlt (c_loadingWith h hn hj hlt hjo (hro v hlt) ?_))))))
    · rw [n4, i_le (by omega) (by omega)]; omega
    have e : bestF A nJ jn j (d + 1) v b g = if (holdF A (Int32.ofNat v) nJ 0 = -1 ∨ holdF A (Int32.ofNat v) nJ 0 = jn) ∧ letB A j (ldO (cJ A j 0) (cG A v 0)) = true ∧ (g.toNat : Int) < ((ldO (cJ A j 0) (cG A v 0)).toNat : Int) then bestF A nJ jn j d (v + 1) (Int32.ofNat v) (ldO (cJ A j 0) (cG A v 0)) else bestF A nJ jn j d (v + 1) b g := rfl
    rw [e] at hk
    have b80 : ¬ ((holdF A (Int32.ofNat v) nJ 0 = -1 ∨ holdF A (Int32.ofNat v) nJ 0 = jn) ∧ letB A j (ldO (cJ A j 0) (cG A v 0)) = true ∧ (g.toNat : Int) < ((ldO (cJ A j 0) (cG A v 0)).toNat : Int)) → f_X5_best_b14 K k QX fuel (c 0) jn (c (16 + j)) b g (Int32.ofNat v + 1) M := by
      intro hno
      rw [if_neg hno] at hk
      rw [i_succ]
      exact ih fuel (v + 1) b g hg (by omega) (by omega) hk
    have qc : Op.cmpValue (FP.fcmp (ldO (cJ A j 0) (cG A v 0)) g) .l ≤ 0 ↔ ((ldO (cJ A j 0) (cG A v 0)).toNat : Int) ≤ (g.toNat : Int) := by rw [hld.cmpC hg]; exact cv_le _ _ _
    have b55 : (holdF A (Int32.ofNat v) nJ 0 = -1 ∨ holdF A (Int32.ofNat v) nJ 0 = jn) → f_X5_best_b55 K k QX (f_X5_best_b14 K k QX fuel) (c 0) jn (c (16 + j)) b g (Int32.ofNat v) (ldO (cJ A j 0) (cG A v 0)) M := by
      intro hh
      unfold f_X5_best_b55
      refine s_recv h.c0 (c_isLet (nR := nR) hne h (by omega) hjo hld ?_)
      by_cases hL : letB A j (ldO (cJ A j 0) (cG A v 0)) = true
      · rw [if_pos hL]
        refine s_ifF (by decide) (s_if (fun c2 => b80 (fun h9 => ?_)) (fun c2 => ?_))
        · have := qc.mp c2; omega
        · have c3 : (g.toNat : Int) < ((ldO (cJ A j 0) (cG A v 0)).toNat : Int) := by
            rcases Int.lt_or_le (g.toNat : Int) ((ldO (cJ A j 0) (cG A v 0)).toNat : Int) with h9 | h9
            · exact h9
            · exact absurd (qc.mpr h9) c2
          rw [if_pos ⟨hh, hL, c3⟩] at hk
          show f_X5_best_b14 K k QX fuel (c 0) jn (c (16 + j)) (Int32.ofNat v) (ldO (cJ A j 0) (cG A v 0)) (Int32.ofNat v + 1) M
          rw [i_succ]
          exact ih fuel (v + 1) _ _ (by have := hld.2; omega) (by omega) (by omega) hk
      · rw [if_neg hL]
        exact s_ifT rfl (b80 (fun h9 => hL h9.2.1))
    refine s_if (fun c1 => b55 (Or.inl c1)) (fun c1 => s_if (fun c2 => b55 (Or.inr c2)) (fun c2 => b80 (fun h9 => h9.1.elim c1 c2)))
theorem c_best {j : Nat} {k : Int32 → Mem → Prop} (hne : K.2.2 2 ≠ K.2.2 3) (h : picC K c A M0 M) (hn : cntOk A nJ nR) (hj : j < nJ) (hjo : jmpOk A nR j) (hro : ∀ r, r < nR → rigOk A r) (hk : k (bestF A nJ (Int32.ofNat j) j nR 0 (-1) 0) M) : f_X5_best K (c 0) (Int32.ofNat j) k QX M := by
  unfold f_X5_best
  refine s_recv h.c0 (c_jumperAt h hn hj ?_)
  exact c_best_loop hne h hn hj hjo hro nR mFuel 0 (-1) 0 (by decide) (by omega) (by have := hn.2.1; show nR < 4096; omega) hk
end CLSQ
