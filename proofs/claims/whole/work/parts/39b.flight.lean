/-! ===== THE CLASS: troubles are drawn; a flight ===== -/
def drawF (x : Int32) : Int32 := ((5 * x) + 3) - ((5 * x) + 3) / 32 * 32
def drI (A : CS) : Nat → Int32
  | 0 => cS A 11
  | v + 1 => drawF (drI A v)
def trB (A : CS) (ln : List Nat) (v : Nat) : Bool := !decide ((9 - cG A (rigN A (ln.getD v 0)) 2) + FP.f2i (FP.fmul (cW A (rigN A (ln.getD v 0))) FP.fconst2) ≤ drI A (v + 1))
/-- the store behind v landings -/
def flyA (A : CS) (ln : List Nat) (trs : Nat → Bool) (xy : Nat → Int × Int) : Nat → CS
  | 0 => A
  | v + 1 => settF (flyA A ln trs xy v) (ln.getD v 0) (rigN (flyA A ln trs xy v) (ln.getD v 0)) (trs v) (xy v).1 (xy v).2
def keptS (B A : CS) : Prop := (∀ i, i ≠ 13 → i ≠ 14 → i ≠ 15 → cS B i = cS A i) ∧ (∀ k j, j ≠ 3 → j ≠ 4 → j ≠ 5 → j ≠ 7 → cJ B k j = cJ A k j) ∧ (∀ k j, j ≠ 1 → j ≠ 3 → cG B k j = cG A k j) ∧ (∀ k, cG B k 3 = cG A k 3 ∨ cG B k 3 = 0) ∧ cX B = cX A ∧ cY B = cY A ∧ cL B = cL A ∧ cQ B = cQ A ∧ cN B = cN A
theorem keptS.rf (A : CS) : keptS A A := ⟨fun _ _ _ _ => rfl, fun _ _ _ _ _ _ => rfl, fun _ _ _ _ => rfl, fun _ => Or.inl rfl, rfl, rfl, rfl, rfl, rfl⟩
theorem keptS.trans {A B D : CS} (h : keptS D B) (h2 : keptS B A) : keptS D A := by
  obtain ⟨a1, a2, a3, a4, a5, a6, a7, a8, a9⟩ := h
  obtain ⟨b1, b2, b3, b4, b5, b6, b7, b8, b9⟩ := h2
  refine ⟨fun i p q r => (a1 i p q r).trans (b1 i p q r), fun k j p q r s => (a2 k j p q r s).trans (b2 k j p q r s), fun k j p q => (a3 k j p q).trans (b3 k j p q), fun k => ?_, a5.trans b5, a6.trans b6, a7.trans b7, a8.trans b8, a9.trans b9⟩
  rcases a4 k with h | h
  · rw [h]; exact b4 k
  · exact Or.inr h
theorem kept_settF (A : CS) (kk r : Nat) (tr : Bool) (x y : Int) : keptS (settF A kk r tr x y) A := by
  refine ⟨fun i p q s => ?_, fun k j p q s t => ?_, fun k j p q => ?_, fun k => ?_, rfl, rfl, rfl, rfl, rfl⟩
  · show (if i = 13 ∨ (i = 14 ∧ tr = true) ∨ (i = 15 ∧ offB x y = true) then cS A i + 1 else cS A i) = cS A i
    rw [if_neg]
    rintro (h | h | h)
    · exact p h
    · exact q h.1
    · exact s h.1
  · show (if k = kk then (if j = 3 then cS A 10 else if j = 4 then cJ A kk 4 + 1 else if j = 5 then cJ A kk 5 + ptsK x y else if j = 7 ∧ tr = true then cJ A kk 7 + 1 else cJ A kk j) else cJ A k j) = cJ A k j
    by_cases hk : k = kk
    · rw [if_pos hk, if_neg p, if_neg q, if_neg s, if_neg (fun h => t h.1), hk]
    · rw [if_neg hk]
  · show (if k = r then (if j = 3 then 0 else if j = 1 ∧ tr = true then cS A 10 - 1 else cG A r j) else cG A k j) = cG A k j
    by_cases hk : k = r
    · rw [if_pos hk, if_neg q, if_neg (fun h => p h.1), hk]
    · rw [if_neg hk]
  · show (if k = r then (if 3 = 3 then 0 else if 3 = 1 ∧ tr = true then cS A 10 - 1 else cG A r 3) else cG A k 3) = cG A k 3 ∨ (if k = r then (if 3 = 3 then 0 else if 3 = 1 ∧ tr = true then cS A 10 - 1 else cG A r 3) else cG A k 3) = 0
    by_cases hk : k = r
    · rw [if_pos hk]; exact Or.inr rfl
    · rw [if_neg hk]; exact Or.inl rfl
theorem kept_flyA (A : CS) (ln : List Nat) (trs : Nat → Bool) (xy : Nat → Int × Int) (v : Nat) : keptS (flyA A ln trs xy v) A := by
  induction v with
  | zero => exact keptS.rf A
  | succ v ih => exact (kept_settF _ _ _ _ _ _).trans ih
def wOk (b : Nat) (A : CS) : Prop := ∀ k, k < 8 → ∃ n, n ≤ b ∧ cW A k = wf n
theorem wf_spec {n : Nat} (h : n ≤ 2052) (hall : ∀ n, n ≤ 2052 → wfP n = true) : FP.fadd (wf n) 1031798784 = wf (n + 1) ∧ FP.fadd (wf n) 1048576000 = wf (n + 4) ∧ vf_n32 (wf n) ∧ vf_n32 (FP.fmul (wf n) FP.fconst2) ∧ vf_n64 (FP.f2d (wf n)) ∧ vf_n64 (FP.dmul 4634204016564240384 (FP.f2d (wf n))) ∧ vf_n32 (FP.fmul 1115684864 (wf n)) ∧ FP.d2l (FP.dmul 4634204016564240384 (FP.f2d (wf n))) = FP.f2l (FP.fmul 1115684864 (wf n)) ∧ FP.dcmp (FP.f2d (wf n)) (FP.f2d (wf n)) = some .eq := by
  have h1 := hall n h
  unfold wfP at h1
  simp only [Bool.and_eq_true, decide_eq_true_eq] at h1
  obtain ⟨⟨⟨⟨⟨⟨⟨⟨a1, a2⟩, a3⟩, a4⟩, a5⟩, a6⟩, a7⟩, a8⟩, a9⟩ := h1
  exact ⟨a1, a2, a3, a4, a5, a6, a7, a8, a9⟩
theorem wOk_settF {A : CS} {b kk r : Nat} {tr : Bool} {x y : Int} (h : wOk b A) (hb : b ≤ 2048) (hr : r < 8) : wOk (b + 4) (settF A kk r tr x y) ∧ vf_n32 (FP.fadd (cW A r) (wadd tr)) := by
  obtain ⟨n, n1, n2⟩ := h r hr
  obtain ⟨w1, w2, -⟩ := wf_spec (n := n) (by omega) wf_all
  obtain ⟨-, -, w3, -⟩ := wf_spec (n := n + 1) (by omega) wf_all
  obtain ⟨-, -, w4, -⟩ := wf_spec (n := n + 4) (by omega) wf_all
  have key : ∃ m, m ≤ b + 4 ∧ FP.fadd (cW A r) (wadd tr) = wf m := by
    rw [n2]
    cases tr with
    | false => exact ⟨n + 1, by omega, w1⟩
    | true => exact ⟨n + 4, by omega, w2⟩
  refine ⟨fun k hk => ?_, ?_⟩
  · show ∃ m, m ≤ b + 4 ∧ (if k = r then FP.fadd (cW A r) (wadd tr) else cW A k) = wf m
    by_cases hkr : k = r
    · rw [if_pos hkr]; exact key
    · rw [if_neg hkr]
      obtain ⟨m, m1, m2⟩ := h k hk
      exact ⟨m, by omega, m2⟩
  · rw [n2]
    cases tr with
    | false => show vf_n32 (FP.fadd (wf n) 1031798784); rw [w1]; exact w3
    | true => show vf_n32 (FP.fadd (wf n) 1048576000); rw [w2]; exact w4
theorem rigOk_kept {A B : CS} {r : Nat} (h : keptS B A) (ho : rigOk A r) : rigOk B r := by
  obtain ⟨h1, h2⟩ := ho
  refine ⟨by rw [h.2.2.1 r 0 (by decide) (by decide)]; exact h1, ?_⟩
  rcases h.2.2.2.1 r with h3 | h3
  · rw [h3]; exact h2
  · exact Or.inl h3
theorem jmpOk_fly {A B : CS} {nR x : Nat} (h : keptS B A) (ho : jmpOk A nR x) (hp : posOk (cP B x 8) ∧ posOk (cP B x 9)) : jmpOk B nR x := by
  unfold jmpOk at ho ⊢
  rw [h.2.1 x 0 (by decide) (by decide) (by decide) (by decide), h.2.1 x 1 (by decide) (by decide) (by decide) (by decide), h.2.1 x 2 (by decide) (by decide) (by decide) (by decide)]
  exact ⟨ho.1, ho.2.1, ho.2.2.1, hp⟩
theorem pos_settF {A : CS} {kk r : Nat} {tr : Bool} {x y : Int} (hx : posOk x) (hy : posOk y) {k : Nat} (h : posOk (cP A k 8) ∧ posOk (cP A k 9)) : posOk (cP (settF A kk r tr x y) k 8) ∧ posOk (cP (settF A kk r tr x y) k 9) := by
  show posOk (if k = kk then (if 8 = 8 then x else if 8 = 9 then y else cP A kk 8) else cP A k 8) ∧ posOk (if k = kk then (if 9 = 8 then x else if 9 = 9 then y else cP A kk 9) else cP A k 9)
  by_cases hk : k = kk
  · rw [if_pos hk, if_pos hk]; exact ⟨hx, hy⟩
  · rw [if_neg hk, if_neg hk]; exact h
theorem pos_flyA {A : CS} {ln : List Nat} {trs : Nat → Bool} {xy : Nat → Int × Int} {n : Nat} (hxy : ∀ v, v < n → posOk (xy v).1 ∧ posOk (xy v).2) {k : Nat} (h : posOk (cP A k 8) ∧ posOk (cP A k 9)) : ∀ v, v ≤ n → posOk (cP (flyA A ln trs xy v) k 8) ∧ posOk (cP (flyA A ln trs xy v) k 9) := by
  intro v
  induction v with
  | zero => intro _; exact h
  | succ v ih => intro hv; exact pos_settF (hxy v (by omega)).1 (hxy v (by omega)).2 (ih (by omega))
section FLIGHT
variable {K : Cfg} {c : Nat → Nat} {A : CS} {M0 M : Mem} {nJ nR nF : Nat} {ln : List Nat} {QX : String → Mem → Prop}
theorem c_planReserve {i o : Nat} {k : Mem → Prop} (h : picC K c A M0 M) (hi : i < 7) (ho : (cQ A i).1.1 = o + 1) (ho2 : o ≤ 10) (hk : ∀ M2, picC K c (setQ A i ((o, (cQ A i).1.2.1, 4, 3 * 2 ^ 24), (1, (cQ A i).2.1.2.1, (cQ A i).2.1.2.2), (cQ A i).2.2)) M0 M2 → k M2) : f_X1_planReserve K (c (9 + i)) k M := by
  have h9 := hk _ (c_setQ h hi)
  rw [← h.mup hi]
  have e : jcq (cQ A i) = jc (o + 1) (cQ A i).1.2.1 (cQ A i).1.2.2.1 (cQ A i).1.2.2.2 (cQ A i).2.1.1 (cQ A i).2.1.2.1 (cQ A i).2.2.1 (cQ A i).2.2.2.1 (cQ A i).2.2.2.2.1 (cQ A i).2.2.2.2.2 (cQ A i).2.1.2.2 := by rw [← ho]; rfl
  rw [e]
  exact p_planReserve (by omega) h9
theorem c_draw_loop {k : Mem → Prop} {b : Nat} (hn : cntOk A nJ nR) (hl : lnOk A nJ ln) (ha : abOk A nJ nR ln) (hw : wOk b A) (hb : b ≤ 2052)
    (hk : ∀ Q2 M2, (∀ j, j < ln.length → (Q2 j).1 = plT A (ln.getD j 0) (trB A ln j) ∧ (Q2 j).2.1.1 = if trB A ln j = true then 1 else 0) → picC K c (repQ (setS A 11 (drI A ln.length)) (Int32.ofNat ln.length) Q2) M0 M2 → k M2) :
    ∀ (d fuel v : Nat) (Q1 : Nat → JQ) (M : Mem), v + d = ln.length → d < fuel → picC K c (repQ (setS A 11 (drI A v)) (Int32.ofNat ln.length) Q1) M0 M → (∀ j, j < v → (Q1 j).1 = plT A (ln.getD j 0) (trB A ln j) ∧ (Q1 j).2.1.1 = if trB A ln j = true then 1 else 0) → (∀ j, v ≤ j → j < ln.length → (Q1 j).1 = plC A (ln.getD j 0) ∧ (Q1 j).2.1.1 = 0) → f_X5_drawTroubles_b2 K k QX fuel (c 0) (Int32.ofNat v) M := by
  have n1 := hn.1
  have n2 := hn.2.1
  have l1 := hl.1
  intro d
  induction d with
  | zero =>
    intro fuel v Q1 M hv hfu h hQ1 hQ2
    obtain ⟨fuel, rfl⟩ : ∃ e, fuel = e + 1 := ⟨fuel - 1, by omega⟩
    have hvn : v = ln.length := by omega
    subst hvn
    show f_X5_drawTroubles_b2_body K k QX (f_X5_drawTroubles_b2 K k QX fuel) (c 0) (Int32.ofNat ln.length) M
    unfold f_X5_drawTroubles_b2_body
    refine s_getI h.c0 rfl (s_ifT ?_ (hk Q1 M hQ1 h))
    show cS A 6 ≤ _
    rw [hl.2.1, i_le (by omega) (by omega)]; omega
  | succ d ih =>
    intro fuel v Q1 M hv hfu h hQ1 hQ2
    obtain ⟨fuel, rfl⟩ : ∃ e, fuel = e + 1 := ⟨fuel - 1, by omega⟩
    show f_X5_drawTroubles_b2_body K k QX (f_X5_drawTroubles_b2 K k QX fuel) (c 0) (Int32.ofNat v) M
    unfold f_X5_drawTroubles_b2_body
    have hlt : v < ln.length := by omega
    obtain ⟨a1, a2, a3, a4, a5, a6, a7⟩ := ha _ (getD_mem hlt)
    obtain ⟨e1, e2⟩ := rig_of a2 a3 n2
    obtain ⟨p1, p2⟩ := hQ2 v (Nat.le_refl _) hlt
    have htr : trB A ln v = !decide ((9 - cG A (rigN A (ln.getD v 0)) 2) + FP.f2i (FP.fmul (cW A (rigN A (ln.getD v 0))) FP.fconst2) ≤ drI A (v + 1)) := rfl
    have hpl1 : plT A (ln.getD v 0) true = (opN A (ln.getD v 0) - 1, faF (cJ A (ln.getD v 0) 10), 4, 3 * 2 ^ 24) := rfl
    have hpl0 : plT A (ln.getD v 0) false = plC A (ln.getD v 0) := rfl
    have hpc : plC A (ln.getD v 0) = (opN A (ln.getD v 0), faF (cJ A (ln.getD v 0) 10), glN (ldF A (ln.getD v 0)), fwK (cJ A (ln.getD v 0) 1) (ldF A (ln.getD v 0))) := rfl
    generalize hkk : ln.getD v 0 = kk at *
    generalize hrr : rigN A kk = r at *
    obtain ⟨m, m1, m2⟩ := hw r (by omega)
    obtain ⟨-, -, -, w4, -⟩ := wf_spec (n := m) (by omega) wf_all
    refine s_getI h.c0 rfl (s_ifF ?_ (s_recv h.c0 (c_order (nJ := nJ) (ln := ln) h hl hlt (s_recv h.c0 ?_))))
    · show ¬ cS A 6 ≤ _
      rw [hl.2.1, i_le (by omega) (by omega)]; omega
    rw [hkk]
    refine c_jumperAt (nJ := nJ) (nR := nR) h hn a1 (s_getI (h.cj (by omega)) rfl (s_recv h.c0 ?_))
    show f_X5_rigAt K (c 0) (cJ A kk 2) _ QX M
    rw [e1]
    refine c_rigAt (nJ := nJ) (nR := nR) h hn e2 (s_getI h.c0 rfl (s_as (by decide) ?_))
    refine s_putS11 h (fun M h => s_getI h.c0 rfl (s_getI (h.cg (by omega)) rfl (s_getF (h.cg (by omega)) rfl (s_as ?_ ?_))))
    · show vf_n32 (FP.fmul (cW A r) FP.fconst2)
      rw [m2]; exact w4
    have h : picC K c (repQ (setS A 11 (drI A (v + 1))) (Int32.ofNat ln.length) Q1) M0 M := by
      have e : setS (repQ (setS A 11 (drI A v)) (Int32.ofNat ln.length) Q1) 11 (drI A (v + 1)) = repQ (setS A 11 (drI A (v + 1))) (Int32.ofNat ln.length) Q1 := by
        show (up1 (up1 (cS A) 11 (drI A v)) 11 (drI A (v + 1)), _) = _
        rw [up1_up1]; rfl
      rw [← e]; exact h
    show mIf ((9 - cG A r 2) + FP.f2i (FP.fmul (cW A r) FP.fconst2) ≤ drI A (v + 1)) (f_X5_drawTroubles_b75 K k QX (f_X5_drawTroubles_b2 K k QX fuel) (c 0) (Int32.ofNat v)) _ M
    refine s_if (fun c1 => ?_) (fun c1 => s_getR h.c0 rfl (s_recv h.c7 (c_jumpAt h (by omega) (s_recv (h.cq (k := v) (by omega)) (c_planReserve (i := v) (o := opN A kk - 1) h (by omega) ?_ (by omega) (fun M h => ?_))))))
    · unfold f_X5_drawTroubles_b75
      rw [i_succ]
      refine ih fuel (v + 1) Q1 M (by omega) (by omega) h (fun j hj => ?_) (fun j h1 h2 => hQ2 j (by omega) h2)
      by_cases hjv : j = v
      · subst hjv
        have ht : trB A ln j = false := by rw [htr, decide_eq_true c1]; rfl
        rw [ht, hkk]
        exact ⟨p1, p2⟩
      · exact hQ1 j (by omega)
    · show (Q1 v).1.1 = _
      rw [p1, hpc]; show opN A kk = opN A kk - 1 + 1; omega
    · unfold f_X5_drawTroubles_b75
      rw [i_succ]
      refine ih fuel (v + 1) _ M (by omega) (by omega) h (fun j hj => ?_) (fun j h1 h2 => by rw [up1_ne (by omega)]; exact hQ2 j (by omega) h2)
      by_cases hjv : j = v
      · subst hjv
        have ht : trB A ln j = true := by rw [htr, decide_eq_false c1]; rfl
        rw [ht, hkk, up1_same, hpl1]
        refine ⟨?_, rfl⟩
        show (opN A kk - 1, (Q1 j).1.2.1, 4, 3 * 2 ^ 24) = _
        rw [p1, hpc]
      · rw [up1_ne hjv]; exact hQ1 j (by omega)
theorem c_settle_loop {k : Int32 → Mem → Prop} {b : Nat} {trs : Nat → Bool} {xy : Nat → Int × Int} (hn : cntOk A nJ nR) (hl : lnOk A nJ ln) (ha : abOk A nJ nR ln) (hw : wOk b A) (hb : b + 4 * ln.length ≤ 2048) (hq : ∀ j, j < ln.length → (cQ A j).2.1.1 = (if trs j = true then 1 else 0) ∧ good 9000 (cQ A j).2.2 ∧ (cQ A j).2.2.2.2.1 = (xy j).1 ∧ (cQ A j).2.2.2.2.2 = (xy j).2)
    (hk : ∀ M2, picC K c (setS (setS (flyA A ln trs xy ln.length) 6 0) 12 (cS (flyA A ln trs xy ln.length) 12 + 1)) M0 M2 → k (Int32.ofNat (sumN (fun j => ptN (xy j).1 (xy j).2) ln.length)) M2) :
    ∀ (d fuel v : Nat) (M : Mem), v + d = ln.length → d < fuel → picC K c (flyA A ln trs xy v) M0 M → wOk (b + 4 * v) (flyA A ln trs xy v) → f_X5_fly_b87 K k QX fuel (c 0) (Int32.ofNat (sumN (fun j => ptN (xy j).1 (xy j).2) v)) (Int32.ofNat v) M := by
  have n1 := hn.1
  have n2 := hn.2.1
  have l1 := hl.1
  intro d
  induction d with
  | zero =>
    intro fuel v M hv hfu h hwv
    obtain ⟨fuel, rfl⟩ : ∃ e, fuel = e + 1 := ⟨fuel - 1, by omega⟩
    have hvn : v = ln.length := by omega
    subst hvn
    have kp := kept_flyA A ln trs xy ln.length
    show f_X5_fly_b87_body K k QX (f_X5_fly_b87 K k QX fuel) (c 0) _ (Int32.ofNat ln.length) M
    unfold f_X5_fly_b87_body
    refine s_getI h.c0 rfl (s_ifT ?_ (s_putS6 h (fun M h => s_getI h.c0 rfl (s_putS12 h (fun M h => hk M h)))))
    rw [kp.1 6 (by decide) (by decide) (by decide), hl.2.1, i_le (by omega) (by omega)]; omega
  | succ d ih =>
    intro fuel v M hv hfu h hwv
    obtain ⟨fuel, rfl⟩ : ∃ e, fuel = e + 1 := ⟨fuel - 1, by omega⟩
    have kp := kept_flyA A ln trs xy v
    have hlt : v < ln.length := by omega
    obtain ⟨a1, a2, a3, -⟩ := ha _ (getD_mem hlt)
    obtain ⟨q1, q2, q3, q4⟩ := hq v hlt
    show f_X5_fly_b87_body K k QX (f_X5_fly_b87 K k QX fuel) (c 0) _ (Int32.ofNat v) M
    unfold f_X5_fly_b87_body
    have hnB : cntOk (flyA A ln trs xy v) nJ nR := ⟨n1, n2, by rw [kp.1 1 (by decide) (by decide) (by decide)]; exact hn.2.2.1, by rw [kp.1 3 (by decide) (by decide) (by decide)]; exact hn.2.2.2⟩
    have hlB : lnOk (flyA A ln trs xy v) nJ ln := ⟨l1, by rw [kp.1 6 (by decide) (by decide) (by decide)]; exact hl.2.1, fun p hp => by rw [kp.2.2.2.2.2.2.1]; exact hl.2.2.1 p hp, hl.2.2.2⟩
    have hlen : cS (flyA A ln trs xy v) 6 = Int32.ofNat ln.length := hlB.2.1
    have hJ2 : cJ (flyA A ln trs xy v) (ln.getD v 0) 2 = cJ A (ln.getD v 0) 2 := kp.2.1 _ 2 (by decide) (by decide) (by decide) (by decide)
    have hjo : (cJ (flyA A ln trs xy v) (ln.getD v 0) 2 = -1 ∨ ∃ r, r < nR ∧ cJ (flyA A ln trs xy v) (ln.getD v 0) 2 = Int32.ofNat r) := by rw [hJ2]; exact a2.2.2.1
    have hQ : cQ (flyA A ln trs xy v) = cQ A := kp.2.2.2.2.2.2.2.1
    obtain ⟨r, r1, r2⟩ := hjo.resolve_left (by rw [hJ2]; exact a3)
    have hrN : rigN (flyA A ln trs xy v) (ln.getD v 0) = r := by unfold rigN; rw [r2, i_nat (by omega)]
    have e1 : cJ (flyA A ln trs xy v) (ln.getD v 0) 2 = Int32.ofNat (rigN (flyA A ln trs xy v) (ln.getD v 0)) := by rw [hrN]; exact r2
    have e2 : rigN (flyA A ln trs xy v) (ln.getD v 0) < nR := by rw [hrN]; exact r1
    obtain ⟨wk1, wk2⟩ := wOk_settF (kk := ln.getD v 0) (r := rigN (flyA A ln trs xy v) (ln.getD v 0)) (tr := trs v) (x := (xy v).1) (y := (xy v).2) hwv (by omega) (by rw [hrN]; omega)
    have hstep : flyA A ln trs xy (v + 1) = settF (flyA A ln trs xy v) (ln.getD v 0) (rigN (flyA A ln trs xy v) (ln.getD v 0)) (trs v) (xy v).1 (xy v).2 := rfl
    refine s_getI h.c0 rfl (s_ifF ?_ (s_recv h.c0 (c_order h hlB hlt (s_recv h.c0 (c_jumperAt h hnB a1 (s_getR h.c0 rfl (s_recv h.c7 (c_jumpAt h (by omega) (s_recv h.c0 ?_)))))))))
    · rw [hlen, i_le (by omega) (by omega)]; omega
    refine c_settle (r := rigN (flyA A ln trs xy v) (ln.getD v 0)) (i := v) (N := 9000) (tr := trs v) h hnB a1 (by omega) e1 e2 (by rw [hQ]; exact q1) (by rw [hQ]; exact q2) (by decide) wk2 (fun M h => ?_)
    rw [hQ, q3, q4, ← hstep] at h
    rw [hQ, q3, q4, ptsK_N, ← Int32.ofNat_add, i_succ]
    exact ih fuel (v + 1) M (by omega) (by omega) h (by rw [hstep]; exact wk1)
theorem psQ_xy {A A2 : CS} (hX : cX A2 = cX A) (hY : cY A2 = cY A) (Q : Nat → JQ) : ∀ t, psQ A2 Q t = psQ A Q t := by
  intro t
  induction t with
  | zero => rfl
  | succ t ih =>
    funext j
    show tkQ A2 t (psQ A2 Q t j) = tkQ A t (psQ A Q t j)
    rw [ih]
    unfold tkQ qF
    rw [hX, hY]
theorem btQ_xy {A A2 : CS} (hX : cX A2 = cX A) (hY : cY A2 = cY A) (Q : Nat → JQ) (n : Nat) : ∀ t, btQ A2 Q n t = btQ A Q n t := by
  intro t
  induction t with
  | zero => rfl
  | succ t ih =>
    show newM (psQ A2 Q (t + 1)) (btQ A2 Q n t) n = newM (psQ A Q (t + 1)) (btQ A Q n t) n
    rw [ih, psQ_xy hX hY]
theorem ttQ_xy {A A2 : CS} (hX : cX A2 = cX A) (hY : cY A2 = cY A) (Q : Nat → JQ) (n : Nat) : ∀ t, ttQ A2 Q n t = ttQ A Q n t := by
  intro t
  induction t with
  | zero => rfl
  | succ t ih =>
    show ttQ A2 Q n t + newC (psQ A2 Q (t + 1)) (btQ A2 Q n t) n n 0 = ttQ A Q n t + newC (psQ A Q (t + 1)) (btQ A Q n t) n n 0
    rw [ih, psQ_xy hX hY, btQ_xy hX hY]
/-- where each one has landed -/
def xyQ (A : CS) (Q : Nat → JQ) (nF : Nat) (j : Nat) : Int × Int := ((psQ A Q nF j).2.2.2.2.1, (psQ A Q nF j).2.2.2.2.2)
theorem ps_last {Q : Nat → JQ} {n N j : Nat} (f1 : 365 ≤ nF) (f2 : nF ≤ 900) (hX : wbd (cX A)) (hY : wbd (cY A)) (hf : flOk n N Q) (hj : j < n) : (psQ A Q nF j).2.2 = endJ A Q nF j ∧ good (N + 20 * 320) (psQ A Q nF j).2.2 := by
  obtain ⟨ok, gd, -, l, hl, hl2⟩ := hf j hj
  have e0 := itr_end (o := (Q j).1.1) (n := 320) hX hY ok.2.1 ok.2.2.1 ok.2.2.2.1 gd (pot_le gd)
  have e1 : (psQ A Q nF j).2.2 = itr (qF A (Q j)) 320 (Q j).2.2 := by
    rw [ps_itr hl hl2 (by omega)]
    exact itr_stay e0 (by omega)
  constructor
  · rw [e1]; exact (itr_stay e0 (by omega)).symm
  · rw [e1]; exact good_itr hX hY ok.2.1 ok.2.2.1 ok.2.2.2.1 gd
/-- the store behind a flight -/
def flyB (A : CS) (N : Int32) (Q : Nat → JQ) (ln : List Nat) (m : Int32) (xy : Nat → Int × Int) : CS := flyA (setS (setS (repQ A N Q) 11 (drI A ln.length)) 16 m) ln (trB A ln) xy ln.length
theorem c_fly {gp sp : Int32} {k : Int32 → Mem → Prop} {b : Nat} (f1 : 365 ≤ nF) (f2 : nF ≤ 900) (h : picC K c A M0 M) (hn : cntOk A nJ nR) (hl : lnOk A nJ ln) (ha : abOk A nJ nR ln) (hro : ∀ r, r < nR → rigOk A r) (hX : wbd (cX A)) (hY : wbd (cY A)) (hw : wOk b A) (hb : b + 4 * ln.length ≤ 2048) (hx : ¬ (inB sp (-200) 200 ∧ inB gp 1 9) → QX xA M) (hs : inB sp (-200) 200 → inB gp 1 9 → (cS A 7 ≠ 0 ∨ ln.length = 0) → QX xS M)
    (hk : inB sp (-200) 200 → ∀ g9, gp = Int32.ofNat g9 → 1 ≤ g9 → g9 ≤ 9 → cS A 7 = 0 → 0 < ln.length → ∀ N Q5 M2 xy, xy = xyQ A (flQ A ln (trB A ln) sp.toInt g9) nF → ∀ B, B = flyB A N Q5 ln (cS A 16 + Int32.ofNat (ttQ A (flQ A ln (trB A ln) sp.toInt g9) ln.length nF)) xy → picC K c (setS (setS B 6 0) 12 (cS B 12 + 1)) M0 M2 → k (Int32.ofNat (sumN (fun j => ptN (xy j).1 (xy j).2) ln.length)) M2) : f_X5_fly K (c 0) sp gp k QX M := by
  have l1 := hl.1
  unfold f_X5_fly
  refine c_check (fun p1 => c_check (fun p2 => ?_) (fun p2 => hx (fun h9 => p2 h9.2))) (fun p1 => hx (fun h9 => p1 h9.1))
  refine s_getI h.c0 rfl (s_if (fun c7 => s_getI h.c0 rfl (s_if (fun c6 => ?_) (fun c6 => ?_))) (fun c7 => hs p1 p2 (Or.inl c7)))
  · rw [hl.2.1] at c6
    refine hs p1 p2 (Or.inr ?_)
    have c6 : Int32.ofNat ln.length = Int32.ofNat 0 := c6
    rwa [i_eq (by omega) (by omega)] at c6
  have hpos : 0 < ln.length := Nat.pos_of_ne_zero (fun e => c6 (by rw [hl.2.1, e]; rfl))
  obtain ⟨g9, rfl, g1, g2⟩ := i_num (lo := 1) (hi := 9) (by decide) (by decide) p2
  have hsp : -200 ≤ sp.toInt ∧ sp.toInt ≤ 200 := ⟨Int32.le_iff_toInt_le.mp p1.1, Int32.le_iff_toInt_le.mp p1.2⟩
  have hk := hk p1 g9 rfl g1 g2 c7 hpos
  refine s_recv h.c0 (c_planFlight h hn hl ha hro (fun Q2 M2 h1 h2 => s_recv h2.c0 ?_))
  unfold f_X5_drawTroubles
  have h2' : picC K c (repQ (setS A 11 (drI A 0)) (Int32.ofNat ln.length) Q2) M0 M2 := by
    have e : repQ (setS A 11 (drI A 0)) (Int32.ofNat ln.length) Q2 = repQ A (Int32.ofNat ln.length) Q2 := by
      show (up1 (cS A) 11 (cS A 11), _) = (cS A, _)
      have e2 : up1 (cS A) 11 (cS A 11) = cS A := by
        funext i; unfold up1; split
        · rename_i hi; rw [hi]
        · rfl
      rw [e2]; rfl
    rw [e]; exact h2
  refine c_draw_loop (nJ := nJ) (nR := nR) hn hl ha hw (by omega) (fun Q3 M3 h3 h4 => ?_) ln.length mFuel 0 Q2 M2 (Nat.zero_add _) (by show ln.length < 4096; omega) h2' (fun j hj => absurd hj (Nat.not_lt_zero j)) (fun j _ hj => h1 j hj)
  generalize hA1 : setS A 11 (drI A ln.length) = A1 at h4
  have eX : cX A1 = cX A := by rw [← hA1]; rfl
  have eY : cY A1 = cY A := by rw [← hA1]; rfl
  have efl : flQ A1 ln (trB A ln) sp.toInt g9 = flQ A ln (trB A ln) sp.toInt g9 := by rw [← hA1]; rfl
  refine s_getR h4.c0 rfl (s_getR h4.c0 rfl (s_recv h4.c7 (c_leave (A := A1) (trs := trB A ln) h4 l1 g2 hsp (by rw [eX]; exact hX) (fun j hj => by rw [← hA1]; exact h3 j hj) (fun Q4 M4 h5 h6 => s_getI h6.c0 rfl (s_getR h6.c0 rfl (s_getR h6.c0 rfl (s_recv h6.c7 ?_)))))))
  have hf := flQ_ok hn hl ha hro hX g2 hsp (trB A ln)
  rw [efl] at h5
  refine c_run (A := A1) f1 f2 l1 (by rw [eX]; exact hX) (by rw [eY]; exact hY) (by decide) hf h6 h5 (fun Q5 M5 h7 h8 => ?_)
  rw [ttQ_xy eX eY]
  refine s_putS16 h8 (fun M h9 => ?_)
  have hk := hk (Int32.ofNat ln.length) Q5
  generalize hxy : xyQ A (flQ A ln (trB A ln) sp.toInt g9) nF = xy at hk
  have e16 : cS (repQ A1 (Int32.ofNat ln.length) Q4) 16 = cS A 16 := by rw [← hA1]; rfl
  rw [e16] at h9
  have h10 : picC K c (setS (setS (repQ A (Int32.ofNat ln.length) Q5) 11 (drI A ln.length)) 16 (cS A 16 + Int32.ofNat (ttQ A (flQ A ln (trB A ln) sp.toInt g9) ln.length nF))) M0 M := by
    rw [← hA1] at h9; exact h9
  refine c_settle_loop (A := setS (setS (repQ A (Int32.ofNat ln.length) Q5) 11 (drI A ln.length)) 16 (cS A 16 + Int32.ofNat (ttQ A (flQ A ln (trB A ln) sp.toInt g9) ln.length nF))) (nJ := nJ) (nR := nR) (trs := trB A ln) (xy := xy) (b := b) hn hl ha hw hb (fun j hj => ?_) (fun M2 h11 => hk M2 xy rfl _ rfl h11) ln.length mFuel 0 M (Nat.zero_add _) (by show ln.length < 4096; omega) h10 hw
  obtain ⟨m, hm⟩ := h7 j hj
  obtain ⟨z1, z2⟩ := ps_last f1 f2 hX hY hf hj
  rw [psQ_xy eX eY] at hm
  show (Q5 j).2.1.1 = _ ∧ good 9000 (Q5 j).2.2 ∧ (Q5 j).2.2.2.2.1 = _ ∧ (Q5 j).2.2.2.2.2 = _
  rw [hm, ← hxy]
  refine ⟨?_, good_mono z2 (by decide), rfl, rfl⟩
  show (psQ A (flQ A ln (trB A ln) sp.toInt g9) nF j).2.1.1 = _
  rw [ps_form]
  rfl
theorem c_wear {r b : Nat} {k : UInt64 → Mem → Prop} (h : picC K c A M0 M) (hn : cntOk A nJ nR) (hr : r < nR) (hw : wOk b A) (hb : b ≤ 2052) (hk : k (FP.f2d (cW A r)) M) : f_X5_wear K (c 0) (Int32.ofNat r) k QX M := by
  have n2 := hn.2.1
  obtain ⟨m, m1, m2⟩ := hw r (by omega)
  obtain ⟨-, -, -, -, w5, -⟩ := wf_spec (n := m) (by omega) wf_all
  unfold f_X5_wear
  exact s_recv h.c0 (c_rigAt h hn hr (s_getF (h.cg (by omega)) rfl (s_as (by rw [m2]; exact w5) hk)))
end FLIGHT
