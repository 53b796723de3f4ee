/-! ===== THE CLASS: who boards lines up ===== -/
def repL (A : CS) (L : Nat → Int32) : CS := (cS A, cJ A, cP A, cG A, cW A, cX A, cY A, L, cN A, cQ A)
def insAt (ln : List Nat) (p j : Nat) : List Nat := ln.take p ++ j :: ln.drop p
theorem insAt_length {ln : List Nat} {p j : Nat} (hp : p ≤ ln.length) : (insAt ln p j).length = ln.length + 1 := by
  unfold insAt
  rw [List.length_append, List.length_cons, List.length_take, List.length_drop]; omega
theorem insAt_getD {ln : List Nat} {p j q : Nat} (hp : p ≤ ln.length) : (insAt ln p j).getD q 0 = if q < p then ln.getD q 0 else if q = p then j else ln.getD (q - 1) 0 := by
  unfold insAt
  rw [List.getD_eq_getElem?_getD, List.getElem?_append, List.length_take, Nat.min_eq_left hp]
  by_cases h1 : q < p
  · rw [if_pos h1, if_pos h1, List.getElem?_take, if_pos h1, ← List.getD_eq_getElem?_getD]
  · rw [if_neg h1, if_neg h1]
    by_cases h2 : q = p
    · rw [if_pos h2, h2, Nat.sub_self]; rfl
    · rw [if_neg h2, show q - p = (q - 1 - p) + 1 by omega, List.getElem?_cons_succ, List.getElem?_drop, show p + (q - 1 - p) = q - 1 by omega, ← List.getD_eq_getElem?_getD]
section BOARD
variable {K : Cfg} {c : Nat → Nat} {A : CS} {M0 M : Mem} {nJ nR : Nat} {ln : List Nat} {QX : String → Mem → Prop}
theorem c_orderL {k : Int32 → Mem → Prop} {p n : Nat} (h : picC K c A M0 M) (h6 : cS A 6 = Int32.ofNat n) (hn : n ≤ 6) (hp : p < n) (hk : k (cL A p) M) : f_X5_order K (c 0) (Int32.ofNat p) k QX M := by
  unfold f_X5_order
  refine s_ifF (i_neg (by omega)) (s_getI h.c0 rfl (s_ifF ?_ (s_ifT ?_ (s_getR h.c0 rfl (s_ldI h.c6 (i_in (by omega) (by omega)) ?_)))))
  · rw [h6, i_le (by omega) (by omega)]; omega
  · show Int32.ofNat p < Int32.ofNat 6
    rw [i_lt (by omega) (by omega)]; omega
  · rw [i_nat (by omega)]; exact hk
theorem c_setPlace {k : Mem → Prop} {p : Nat} {v : Int32} (h : picC K c A M0 M) (hp : p < 6) (hk : ∀ M2, picC K c (setL A p v) M0 M2 → k M2) : f_X5_setPlace K (c 0) (Int32.ofNat p) v k M := by
  unfold f_X5_setPlace
  refine s_ifF (i_neg (by omega)) (s_ifF ?_ (s_getR h.c0 rfl (s_putL h hp hk)))
  show ¬ Int32.ofNat 6 ≤ _
  rw [i_le (by omega) (by omega)]; omega
theorem upd_at {f : Nat → Int32} {i : Nat} {v : Int32} : upd f i v i = v := by unfold upd; simp
theorem upd_ne {f : Nat → Int32} {i q : Nat} {v : Int32} (h : q ≠ i) : upd f i v q = f q := by unfold upd; simp [h]
theorem c_lineUp_loop {j : Nat} {k : Mem → Prop} (hn : cntOk A nJ nR) (hj : j < nJ) (hlen : ln.length < 6) (h6 : cS A 6 = Int32.ofNat ln.length) (hmem : ∀ x ∈ ln, x < nJ ∧ jmpOk A nR x ∧ cJ A x 2 ≠ -1 ∧ (cJ A x 10 = 0 ∨ cJ A x 10 = 1)) (hjo : jmpOk A nR j) (hj2 : cJ A j 2 ≠ -1) (hj10 : cJ A j 10 = 0 ∨ cJ A j 10 = 1) (hro : ∀ r, r < nR → rigOk A r)
    (hk : ∀ p L M2, p ≤ ln.length → (∀ q, p ≤ q → q < ln.length → keyF A j < keyF A (ln.getD q 0)) → (p = 0 ∨ ¬ keyF A j < keyF A (ln.getD (p - 1) 0)) → (∀ q, q < ln.length + 1 → L q = Int32.ofNat ((insAt ln p j).getD q 0)) → picC K c (setS (repL A L) 6 (Int32.ofNat (ln.length + 1))) M0 M2 → k M2) :
    ∀ (p fuel : Nat) (L : Nat → Int32) (M : Mem), p ≤ ln.length → p < fuel → picC K c (repL A L) M0 M → (∀ q, q < p → L q = Int32.ofNat (ln.getD q 0)) → (∀ q, p ≤ q → q < ln.length → L (q + 1) = Int32.ofNat (ln.getD q 0)) → (∀ q, p ≤ q → q < ln.length → keyF A j < keyF A (ln.getD q 0)) → f_X5_lineUp_b5 K k QX fuel (c 0) (Int32.ofNat j) (Int32.ofNat p) M := by
  have put : ∀ (p : Nat) (L : Nat → Int32) (M : Mem), p ≤ ln.length → picC K c (repL A L) M0 M → (∀ q, q < p → L q = Int32.ofNat (ln.getD q 0)) → (∀ q, p ≤ q → q < ln.length → L (q + 1) = Int32.ofNat (ln.getD q 0)) → (∀ q, p ≤ q → q < ln.length → keyF A j < keyF A (ln.getD q 0)) → (p = 0 ∨ ¬ keyF A j < keyF A (ln.getD (p - 1) 0)) → f_X5_lineUp_b42 K k QX (c 0) (Int32.ofNat j) (Int32.ofNat p) M := by
    intro p L M hp h h1 h2 h3 h4
    unfold f_X5_lineUp_b42
    refine s_recv h.c0 (c_setPlace h (by omega) (fun M h => s_getI h.c0 rfl ?_))
    show mPut (c 0) 6 6 (.int (cS A 6 + 1)) k M
    rw [h6, i_succ]
    refine s_putS6 h (fun M h => hk p (upd L p (Int32.ofNat j)) M hp h3 h4 (fun q hq => ?_) h)
    rw [insAt_getD hp]
    by_cases q1 : q < p
    · rw [if_pos q1, upd_ne (by omega)]; exact h1 q q1
    · rw [if_neg q1]
      by_cases q2 : q = p
      · rw [if_pos q2, q2, upd_at]
      · rw [if_neg q2, upd_ne q2]
        have := h2 (q - 1) (by omega) (by omega)
        rwa [show q - 1 + 1 = q by omega] at this
  intro p
  induction p with
  | zero =>
    intro fuel L M hp hfu h h1 h2 h3
    obtain ⟨fuel, rfl⟩ : ∃ e, fuel = e + 1 := ⟨fuel - 1, by omega⟩
    show f_X5_lineUp_b5_body K k QX (f_X5_lineUp_b5 K k QX fuel) (c 0) (Int32.ofNat j) (Int32.ofNat 0) M
    unfold f_X5_lineUp_b5_body
    exact s_ifT (by decide) (put 0 L M hp h h1 h2 h3 (Or.inl rfl))
  | succ p ih =>
    intro fuel L M hp hfu h h1 h2 h3
    obtain ⟨fuel, rfl⟩ : ∃ e, fuel = e + 1 := ⟨fuel - 1, by omega⟩
    show f_X5_lineUp_b5_body K k QX (f_X5_lineUp_b5 K k QX fuel) (c 0) (Int32.ofNat j) (Int32.ofNat (p + 1)) M
    unfold f_X5_lineUp_b5_body
    have hlt : p < ln.length := by omega
    have hLp : cL (repL A L) p = Int32.ofNat (ln.getD p 0) := h1 p (by omega)
    obtain ⟨a1, a2, a3, a4⟩ := hmem _ (getD_mem hlt)
    refine s_ifF ?_ (s_recv h.c0 ?_)
    · show ¬ _ ≤ Int32.ofNat 0
      rw [i_le (by omega) (by omega)]; omega
    rw [i_pred]
    refine c_orderL (n := ln.length) h h6 (by omega) hlt (s_recv h.c0 ?_)
    rw [hLp]
    refine c_goesAhead (nJ := nJ) (nR := nR) h hn hj a1 hjo a2 hro hj2 a3 hj10 a4 ?_
    show mIf ((if keyF A j < keyF A (ln.getD p 0) then (1 : Int32) else 0) = 0) _ _ M
    by_cases hc : keyF A j < keyF A (ln.getD p 0)
    · rw [if_pos hc]
      refine s_ifF (by decide) (s_recv h.c0 (c_orderL (n := ln.length) h h6 (by omega) hlt (s_recv h.c0 ?_)))
      rw [hLp]
      refine c_setPlace h (by omega) (fun M h => ?_)
      rw [show Int32.ofNat (p + 1) + (-1) = Int32.ofNat p by rw [← Int32.sub_eq_add_neg]; exact i_pred]
      refine ih fuel (upd L (p + 1) (Int32.ofNat (ln.getD p 0))) M (by omega) (by omega) h (fun q hq => ?_) (fun q hq1 hq2 => ?_) (fun q hq1 hq2 => ?_)
      · rw [upd_ne (by omega)]; exact h1 q (by omega)
      · by_cases hqp : q = p
        · rw [hqp, upd_at]
        · rw [upd_ne (by omega)]; exact h2 q (by omega) hq2
      · by_cases hqp : q = p
        · rw [hqp]; exact hc
        · exact h3 q (by omega) hq2
    · rw [if_neg hc]
      exact s_ifT rfl (put (p + 1) L M hp h h1 h2 h3 (Or.inr hc))
theorem placeF_none {a : Int32} : ∀ (l : List Nat) (v : Nat), v + l.length ≤ 100 → (∀ x ∈ l, x < 100) → placeF a l v = -1 → ∀ x ∈ l, Int32.ofNat x ≠ a := by
  intro l
  induction l with
  | nil => intro v _ _ _ x hx; exact absurd hx List.not_mem_nil
  | cons y l ih =>
    intro v hv hb h x hx
    rw [List.length_cons] at hv
    have h' : (if Int32.ofNat y = a then Int32.ofNat v else placeF a l (v + 1)) = -1 := h
    by_cases hy : Int32.ofNat y = a
    · rw [if_pos hy] at h'; exact absurd h' (i_negone v (by omega))
    · rw [if_neg hy] at h'
      rcases List.mem_cons.mp hx with rfl | hx
      · exact hy
      · exact ih (v + 1) (by omega) (fun x hx => hb x (List.mem_cons_of_mem _ hx)) h' x hx
theorem whyF_zero {A : CS} {k : Nat} (h : whyF A ln k = 0) : cJ A k 2 ≠ -1 ∧ placeF (Int32.ofNat k) ln 0 = -1 := by
  unfold whyF at h
  by_cases c1 : cJ A k 2 = -1
  · rw [if_pos c1] at h; exact absurd h (by decide)
  rw [if_neg c1] at h
  refine ⟨c1, ?_⟩
  by_cases c2 : cG A (rigN A k) 3 = 0
  · rw [if_pos c2] at h; exact absurd h (by decide)
  rw [if_neg c2] at h
  by_cases c3 : ¬ cS A 10 ≤ cG A (rigN A k) 1
  · rw [if_pos c3] at h; exact absurd h (by decide)
  rw [if_neg c3] at h
  by_cases c4 : ¬ grdF A ≤ mGL (cJ A k 1).toNatClampNeg
  · rw [if_pos c4] at h; exact absurd h (by decide)
  rw [if_neg c4] at h
  by_cases c5 : letB A k (ldF A k) = false
  · rw [if_pos c5] at h; exact absurd h (by decide)
  rw [if_neg c5] at h
  by_cases c6 : placeF (Int32.ofNat k) ln 0 = -1
  · exact c6
  · rw [if_neg c6] at h; exact absurd h (by decide)
/-- those behind it in the line keep what they are -/
theorem up2_ne1 {α : Type} {f : Nat → Nat → α} {i j a b : Nat} {v : α} (h : b ≠ j) : up2 f i j v a b = f a b := by
  unfold up2; rw [if_neg (fun e => h e.2)]
theorem up2_at {α : Type} {f : Nat → Nat → α} {i j : Nat} {v : α} : up2 f i j v i j = v := by
  unfold up2; rw [if_pos ⟨rfl, rfl⟩]
def stA (A : CS) (j : Nat) (st op : Int32) : CS := setJ (setJ A j 10 st) j 11 op
theorem stA_ne {A : CS} {j x i : Nat} {st op : Int32} (h : x ≠ j) : cJ (stA A j st op) x i = cJ A x i := by
  show up2 (up2 (cJ A) j 10 st) j 11 op x i = _
  rw [up2_ne h, up2_ne h]
theorem stA_lo {A : CS} {j x i : Nat} {st op : Int32} (h : i < 10) : cJ (stA A j st op) x i = cJ A x i := by
  show up2 (up2 (cJ A) j 10 st) j 11 op x i = _
  rw [up2_ne1 (by omega), up2_ne1 (by omega)]
theorem stA_10 {A : CS} {j : Nat} {st op : Int32} : cJ (stA A j st op) j 10 = st := by
  show up2 (up2 (cJ A) j 10 st) j 11 op j 10 = _
  rw [up2_ne1 (by decide), up2_at]
theorem stA_11 {A : CS} {j : Nat} {st op : Int32} : cJ (stA A j st op) j 11 = op := up2_at
theorem jmpOk_congr {A A2 : CS} {x : Nat} (h : ∀ i, i < 10 → cJ A2 x i = cJ A x i) (hp : cP A2 = cP A) (ho : jmpOk A nR x) : jmpOk A2 nR x := by
  unfold jmpOk at ho ⊢
  rw [h 0 (by decide), h 1 (by decide), h 2 (by decide), hp]
  exact ho
theorem c_board {j : Nat} {st op : Int32} {k : Int32 → Mem → Prop} (hne : K.2.2 2 ≠ K.2.2 3) (h : picC K c A M0 M) (hn : cntOk A nJ nR) (hl : lnOk A nJ ln) (ha : abOk A nJ nR ln) (hj : j < nJ) (hjo : jmpOk A nR j) (hro : ∀ r, r < nR → rigOk A r) (h7 : cS A 7 = 0 ∨ cS A 7 = 1)
    (hx : ¬ (inB st 0 1 ∧ inB op (if cJ A j 1 = 0 then 4 else 2) 6) → QX xA M) (hs : inB st 0 1 → inB op (if cJ A j 1 = 0 then 4 else 2) 6 → (cS A 7 ≠ 0 ∨ ln.length = 6) → QX xS M)
    (hw : inB st 0 1 → inB op (if cJ A j 1 = 0 then 4 else 2) 6 → cS A 7 = 0 → ln.length < 6 → whyF A ln j ≠ 0 → k (-(whyF A ln j)) M)
    (hk : inB st 0 1 → inB op (if cJ A j 1 = 0 then 4 else 2) 6 → cS A 7 = 0 → ln.length < 6 → whyF A ln j = 0 → ∀ p L M2, p ≤ ln.length → (∀ q, p ≤ q → q < ln.length → keyF (stA A j st op) j < keyF (stA A j st op) (ln.getD q 0)) → (p = 0 ∨ ¬ keyF (stA A j st op) j < keyF (stA A j st op) (ln.getD (p - 1) 0)) → (∀ q, q < ln.length + 1 → L q = Int32.ofNat ((insAt ln p j).getD q 0)) → picC K c (setS (repL (stA A j st op) L) 6 (Int32.ofNat (ln.length + 1))) M0 M2 → k (Int32.ofNat (ln.length + 1)) M2) : f_X5_board K (c 0) (Int32.ofNat j) st op k QX M := by
  have n1 := hn.1
  have l1 := hl.1
  have b27 : ∀ lo : Int32, lo = (if cJ A j 1 = 0 then 4 else 2) → inB st 0 1 → f_X5_board_b27 K k QX (c 0) (Int32.ofNat j) st op (c (16 + j)) op lo M := by
    intro lo hlo hst
    unfold f_X5_board_b27
    rw [← hlo] at hx hs hw hk
    refine c_check (fun p2 => ?_) (fun p2 => hx (fun h9 => p2 h9.2))
    refine s_getI h.c0 rfl (s_if (fun c1 => s_getI h.c0 rfl (s_if (fun c2 => ?_) (fun c2 => ?_))) (fun c1 => hs hst p2 (Or.inl c1)))
    · rw [hl.2.1] at c2
      have c2 : Int32.ofNat ln.length < Int32.ofNat 6 := c2
      rw [i_lt (by omega) (by omega)] at c2
      refine s_recv h.c0 (c_whyNot hne h hn hl hj hjo hro (s_if (fun c3 => ?_) (fun c3 => hw hst p2 c1 c2 c3)))
      have hk := hk hst p2 c1 c2 c3
      obtain ⟨w1, w2⟩ := whyF_zero c3
      have hnot : ∀ x ∈ ln, x ≠ j := fun x hx e => placeF_none ln 0 (by omega) (fun x hx => by have := hl.2.2.2 x hx; omega) w2 x hx (by rw [e])
      have hst2 : st = 0 ∨ st = 1 := by
        obtain ⟨m, rfl, m1, m2⟩ := i_num (lo := 0) (hi := 1) (by decide) (by decide) hst
        rcases (show m = 0 ∨ m = 1 by omega) with rfl | rfl
        · exact Or.inl rfl
        · exact Or.inr rfl
      refine s_putJ10 h (by omega) (fun M h => s_putJ11 h (by omega) (fun M h => s_recv h.c0 ?_))
      have h : picC K c (stA A j st op) M0 M := h
      unfold f_X5_lineUp
      refine s_getI h.c0 rfl ?_
      show f_X5_lineUp_b5 K _ QX mFuel (c 0) (Int32.ofNat j) (cS A 6) M
      rw [hl.2.1]
      refine c_lineUp_loop (A := stA A j st op) (nJ := nJ) (nR := nR) (ln := ln) hn hj (by omega) hl.2.1 (fun x hx => ?_) (jmpOk_congr (fun i hi => stA_lo hi) rfl hjo) (by rw [stA_lo (by decide)]; exact w1) (by rw [stA_10]; exact hst2) hro (fun p L M2 h1 h2 h3 h4 h5 => s_getI h5.c0 rfl (hk p L M2 h1 h2 h3 h4 h5)) ln.length mFuel (cL (stA A j st op)) M (Nat.le_refl _) (by show ln.length < 4096; omega) h (fun q hq => hl.2.2.1 q hq) (fun q hq1 hq2 => by omega) (fun q hq1 hq2 => by omega)
      obtain ⟨a1, a2, a3, a4, -⟩ := ha x hx
      have hxj := hnot x hx
      exact ⟨a1, jmpOk_congr (fun i hi => stA_lo hi) rfl a2, by rw [stA_lo (by decide)]; exact a3, by rw [stA_ne hxj]; exact a4⟩
    · rw [hl.2.1] at c2
      have c2 : ¬ Int32.ofNat ln.length < Int32.ofNat 6 := c2
      rw [i_lt (by omega) (by omega)] at c2
      exact hs hst p2 (Or.inr (by omega))
  unfold f_X5_board
  refine s_recv h.c0 (c_jumperAt h hn hj (c_check (fun p1 => ?_) (fun p1 => hx (fun h9 => p1 h9.1))))
  exact s_getI (h.cj (by omega)) rfl (s_if (fun c1 => b27 4 (by rw [if_pos c1]) p1) (fun c1 => b27 2 (by rw [if_neg c1]) p1))
end BOARD
