/-! ===== THE CLASS: one settles ===== -/
def wadd (tr : Bool) : UInt32 := if tr = true then 1048576000 else 1031798784
def offB (x y : Int) : Bool := decide (100 * 2 ^ 24 < farK x y)
def settF (A : CS) (kk r : Nat) (tr : Bool) (x y : Int) : CS :=
  (fun i => if i = 13 ∨ (i = 14 ∧ tr = true) ∨ (i = 15 ∧ offB x y = true) then cS A i + 1 else cS A i,
   fun k j => if k = kk then (if j = 3 then cS A 10 else if j = 4 then cJ A kk 4 + 1 else if j = 5 then cJ A kk 5 + ptsK x y else if j = 7 ∧ tr = true then cJ A kk 7 + 1 else cJ A kk j) else cJ A k j,
   fun k j => if k = kk then (if j = 8 then x else if j = 9 then y else cP A kk j) else cP A k j,
   fun k j => if k = r then (if j = 3 then 0 else if j = 1 ∧ tr = true then cS A 10 - 1 else cG A r j) else cG A k j,
   fun k => if k = r then FP.fadd (cW A r) (wadd tr) else cW A k,
   cX A, cY A, cL A, cN A, cQ A)
theorem setF_chain {A : CS} {kk r : Nat} {x y : Int} (tr of : Bool) (ho : offB x y = of) {A1 A2 A3 A4 A5 A6 : CS} (h1 : A1 = setW (setG A r 3 0) r (FP.fadd (cW (setG A r 3 0) r) (wadd tr)))
    (h2 : A2 = if tr = true then setS (setJ (setG A1 r 1 (cS A1 10 - 1)) kk 7 (cJ (setG A1 r 1 (cS A1 10 - 1)) kk 7 + 1)) 14 (cS (setJ (setG A1 r 1 (cS A1 10 - 1)) kk 7 (cJ (setG A1 r 1 (cS A1 10 - 1)) kk 7 + 1)) 14 + 1) else A1)
    (h3 : A3 = setP (setP (setJ A2 kk 3 (cS A2 10)) kk 8 x) kk 9 y) (h4 : A4 = setJ A3 kk 4 (cJ A3 kk 4 + 1)) (h5 : A5 = setS A4 13 (cS A4 13 + 1)) (h6 : A6 = if of = true then setS A5 15 (cS A5 15 + 1) else A5) : setJ A6 kk 5 (cJ A6 kk 5 + ptsK x y) = settF A kk r tr x y := by
  subst h6 h5 h4 h3 h2 h1
  unfold settF
  rw [ho]
  obtain ⟨S, J, P, G, W, X, Y, L, N, Q⟩ := A
  cases tr <;> cases of <;> (
    simp only [Bool.false_eq_true, if_false, if_true, and_false, and_true, or_false, setW, setG, setS, setJ, setP, cS, cJ, cP, cG, cW, cX, cY, cL, cN, cQ]
    refine Prod.ext (funext fun i => ?_) (Prod.ext (funext fun k => funext fun j => ?_) (Prod.ext (funext fun k => funext fun j => ?_) (Prod.ext (funext fun k => funext fun j => ?_) (Prod.ext (funext fun k => ?_) rfl))))
    · simp only [up1, up2]
      by_cases q13 : i = 13
      · subst q13; simp
      · by_cases q14 : i = 14
        · subst q14; simp
        · by_cases q15 : i = 15
          · subst q15; simp
          · simp [q13, q14, q15]
    · simp only [up1, up2]
      by_cases qk : k = kk
      · subst qk
        by_cases q3 : j = 3
        · subst q3; simp
        · by_cases q4 : j = 4
          · subst q4; simp
          · by_cases q5 : j = 5
            · subst q5; simp
            · by_cases q7 : j = 7
              · subst q7; simp
              · simp [q3, q4, q5, q7]
      · simp [qk]
    · simp only [up1, up2]
      by_cases qk : k = kk
      · subst qk
        by_cases q8 : j = 8
        · subst q8; simp
        · by_cases q9 : j = 9
          · subst q9; simp
          · simp [q8, q9]
      · simp [qk]
    · simp only [up1, up2]
      by_cases qk : k = r
      · subst qk
        by_cases q3 : j = 3
        · subst q3; simp
        · by_cases q1 : j = 1
          · subst q1; simp
          · simp [q3, q1]
      · simp [qk]
    · simp only [up1, up2])
section SETT
variable {K : Cfg} {c : Nat → Nat} {A : CS} {M0 M : Mem} {nJ nR : Nat} {ln : List Nat} {QX : String → Mem → Prop}
theorem c_settle {kk i N r : Nat} {tr : Bool} {k : Int32 → Mem → Prop} (h : picC K c A M0 M) (hn : cntOk A nJ nR) (hkk : kk < nJ) (hi : i < 6) (e1 : cJ A kk 2 = Int32.ofNat r) (e2 : r < nR) (htr : (cQ A i).2.1.1 = if tr = true then 1 else 0) (hs : good N (cQ A i).2.2) (hN : N ≤ 50000) (hw : vf_n32 (FP.fadd (cW A r) (wadd tr)))
    (hk : ∀ M2, picC K c (settF A kk r tr (cQ A i).2.2.2.2.1 (cQ A i).2.2.2.2.2) M0 M2 → k (ptsK (cQ A i).2.2.2.2.1 (cQ A i).2.2.2.2.2) M2) : f_X5_settle K (c 0) (c (16 + kk)) (c (9 + i)) k QX M := by
  have n1 := hn.1
  have n2 := hn.2.1
  obtain ⟨-, -, b1, b2⟩ := hs
  generalize hx : (cQ A i).2.2.2.2.1 = x at b1 hk
  generalize hy : (cQ A i).2.2.2.2.2 = y at b2 hk
  have hF : (farK x y).natAbs < 2 ^ 53 := farK_lt (by omega) (by omega)
  have jc_at : ∀ (B : CS) (M : Mem), picC K c B M0 M → cQ B = cQ A → M (c (9 + i)) = some (jcq (cQ A i)) := fun B M hB e => by rw [← e]; exact hB.cq (by omega)
  have jx : ∀ q : JQ, q.2.2.2.2.1 = x → q.2.2.2.2.2 = y → jcq q = jc q.1.1 q.1.2.1 q.1.2.2.1 q.1.2.2.2 q.2.1.1 q.2.1.2.1 q.2.2.1 q.2.2.2.1 x y q.2.1.2.2 := fun q h1 h2 => by rw [← h1, ← h2]; rfl
  have last : ∀ (B : CS) (M : Mem), picC K c B M0 M → cQ B = cQ A → (∀ M2, picC K c (setJ B kk 5 (cJ B kk 5 + ptsK x y)) M0 M2 → k (ptsK x y) M2) → f_X5_settle_b141 K k QX (c (16 + kk)) (c (9 + i)) M := by
    intro B M hB e hk
    have hc := jc_at B M hB e
    rw [jx _ hx hy] at hc
    unfold f_X5_settle_b141
    exact s_recv hc (p_points hc (by omega) (by omega) (s_getI (hB.cj (by omega)) rfl (s_putJ5 hB (by omega) (fun M h => hk M h))))
  have b76 : ∀ (B : CS) (M : Mem), picC K c B M0 M → cQ B = cQ A → (∀ A3 A4 A5 A6, A3 = setP (setP (setJ B kk 3 (cS B 10)) kk 8 x) kk 9 y → A4 = setJ A3 kk 4 (cJ A3 kk 4 + 1) → A5 = setS A4 13 (cS A4 13 + 1) → A6 = (if offB x y = true then setS A5 15 (cS A5 15 + 1) else A5) → ∀ M2, picC K c (setJ A6 kk 5 (cJ A6 kk 5 + ptsK x y)) M0 M2 → k (ptsK x y) M2) → f_X5_settle_b76 K k QX (c 0) (c (16 + kk)) (c (9 + i)) M := by
    intro B M h e hk
    unfold f_X5_settle_b76
    refine s_getI h.c0 rfl (s_putJ3 h (by omega) (fun M h => ?_))
    have hc := jc_at _ M h e
    rw [jx _ hx hy] at hc
    refine s_getD hc rfl (s_putJ8 h (by omega) (fun M h => ?_))
    have hc := jc_at _ M h e
    rw [jx _ hx hy] at hc
    refine s_getD hc rfl (s_putJ9 h (by omega) (fun M h => s_getI (h.cj (by omega)) rfl (s_putJ4 h (by omega) (fun M h => s_getI h.c0 rfl (s_putS13 h (fun M h => ?_))))))
    have hc := jc_at _ M h e
    rw [jx _ hx hy] at hc
    refine s_recv hc (p_far hc (by omega) (by omega) ?_)
    rw [em_c100, em_cmp hF (by decide)]
    have hk := hk _ _ _ _ rfl rfl rfl rfl
    refine s_if (fun c1 => ?_) (fun c1 => s_getI h.c0 rfl (s_putS15 h (fun M h => ?_)))
    · rw [cv_le] at c1
      have ho : offB x y = false := decide_eq_false (by omega)
      rw [ho, if_neg (by decide)] at hk
      exact last _ M h e hk
    · rw [cv_le] at c1
      have ho : offB x y = true := decide_eq_true (by omega)
      rw [ho, if_pos rfl] at hk
      exact last _ M h e hk
  unfold f_X5_settle
  refine s_getI (h.cj (by omega)) rfl (s_recv h.c0 ?_)
  show f_X5_rigAt K (c 0) (cJ A kk 2) _ QX M
  rw [e1]
  refine c_rigAt h hn e2 ⟨Or.inl rfl, s_putG3 h (by omega) (fun M h => s_getF (h.cg (by omega)) rfl (s_getI (h.cq (k := i) (by omega)) rfl ?_))⟩
  have b35 : ∀ t2 : UInt32, t2 = wadd tr → f_X5_settle_b35 K k QX (c 0) (c (16 + kk)) (c (9 + i)) (c (24 + r)) (c (24 + r)) (cW (setG A r 3 0) r) t2 M := by
    intro t2 ht2
    rw [ht2]
    unfold f_X5_settle_b35
    refine s_as hw (s_putG4 h (by omega) (fun M h => s_getI (h.cq (k := i) (by omega)) rfl ?_))
    show mIf ((cQ A i).2.1.1 = 0) _ _ M
    rw [htr]
    cases tr with
    | false =>
      refine s_ifT rfl (b76 _ M h rfl (fun A3 A4 A5 A6 h3 h4 h5 h6 M2 h9 => hk M2 ?_))
      rw [setF_chain false _ rfl rfl (if_neg (by decide)).symm h3 h4 h5 h6] at h9
      exact h9
    | true =>
      refine s_ifF (by decide) (s_getI h.c0 rfl (s_putG1 h (by omega) (fun M h => s_getI (h.cj (by omega)) rfl (s_putJ7 h (by omega) (fun M h => s_getI h.c0 rfl (s_putS14 h (fun M h => ?_)))))))
      refine b76 _ M h rfl (fun A3 A4 A5 A6 h3 h4 h5 h6 M2 h9 => hk M2 ?_)
      rw [setF_chain true _ rfl rfl (if_pos rfl).symm h3 h4 h5 h6] at h9
      exact h9
  show mIf ((cQ A i).2.1.1 = 0) _ _ M
  rw [htr]
  cases tr with
  | false => exact s_ifT rfl (b35 _ rfl)
  | true => exact s_ifF (by decide) (b35 _ rfl)
end SETT
