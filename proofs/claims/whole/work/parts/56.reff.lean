/-! ===== THE REFERENCE: a flight, with troubles, and who landed ===== -/
theorem landF_chain {B : CS} {kk rr : Nat} {x y : Int} (tr of : Bool) (ho : offB x y = of) {C2 C3 C4 C5 C6 C7 C8 C9 C10 : CS} (h2 : C2 = setW (setG B rr 3 0) rr (FP.fadd (cW (setG B rr 3 0) rr) (wadd tr))) (h3 : C3 = setG C2 rr 1 (if tr = true then cS C2 10 - 1 else cG C2 rr 1)) (h4 : C4 = setJ C3 kk 7 (cJ C3 kk 7 + (if tr = true then 1 else 0))) (h5 : C5 = setS C4 14 (cS C4 14 + (if tr = true then 1 else 0))) (h6 : C6 = setS C5 15 (cS C5 15 + (if of = true then 1 else 0))) (h7 : C7 = setJ C6 kk 3 (cS C6 10)) (h8 : C8 = setJ C7 kk 4 (cJ C7 kk 4 + 1)) (h9 : C9 = setS C8 13 (cS C8 13 + 1)) (h10 : C10 = setJ C9 kk 5 (cJ C9 kk 5 + ptsK x y)) : setP (setP C10 kk 8 x) kk 9 y = settF B kk rr tr x y := by
  subst h10 h9 h8 h7 h6 h5 h4 h3 h2
  unfold settF
  rw [ho]
  obtain ⟨S, J, P, G, W, X, Y, L, N, Q⟩ := B
  cases tr <;> cases of <;> (
    simp only [Bool.false_eq_true, if_false, if_true, and_false, and_true, or_false, setW, setG, setS, setJ, setP, cS, cJ, cP, cG, cW, cX, cY, cL, cN, cQ]
    refine Prod.ext (funext fun i => ?_) (Prod.ext (funext fun k => funext fun j => ?_) (Prod.ext (funext fun k => funext fun j => ?_) (Prod.ext (funext fun k => funext fun j => ?_) (Prod.ext (funext fun k => ?_) rfl))))
    · simp only [up1, up2]
      by_cases q13 : i = 13
      · subst q13; simp
      · by_cases q14 : i = 14
        · subst q14; simp
        · by_cases q15 : i = 15
          · subst q15; simp
          · simp [q13, q14, q15]
    · simp only [up1, up2]
      by_cases qk : k = kk
      · subst qk
        by_cases q3 : j = 3
        · subst q3; simp
        · by_cases q4 : j = 4
          · subst q4; simp
          · by_cases q5 : j = 5
            · subst q5; simp
            · by_cases q7 : j = 7
              · subst q7; simp
              · simp [q3, q4, q5, q7]
      · simp [qk]
    · simp only [up1, up2]
      by_cases qk : k = kk
      · subst qk
        by_cases q8 : j = 8
        · subst q8; simp
        · by_cases q9 : j = 9
          · subst q9; simp
          · simp [q8, q9]
      · simp [qk]
    · simp only [up1, up2]
      by_cases qk : k = rr
      · subst qk
        by_cases q3 : j = 3
        · subst q3; simp
        · by_cases q1 : j = 1
          · subst q1; simp
          · simp [q3, q1]
      · simp [qk]
    · simp only [up1, up2])
/-- the styles behind v landings -/
def tlF (T : RT) (ln : List Nat) : Nat → RT
  | 0 => T
  | v + 1 => setSt (tlF T ln v) (ln.getD v 0) (-1)
theorem tlF_st {T : RT} {ln : List Nat} {j : Nat} : ∀ v, (tS T j = -1 → tS (tlF T ln v) j = -1) ∧ ((∃ p, p < v ∧ ln.getD p 0 = j) → tS (tlF T ln v) j = -1) := by
  intro v
  induction v with
  | zero => exact ⟨fun h => h, fun ⟨p, hp, _⟩ => absurd hp (Nat.not_lt_zero p)⟩
  | succ v ih =>
    have e : tS (tlF T ln (v + 1)) j = up1 (tS (tlF T ln v)) (ln.getD v 0) (-1) j := rfl
    rw [e]
    by_cases h : j = ln.getD v 0
    · rw [h, up1_same]; exact ⟨fun _ => rfl, fun _ => rfl⟩
    · rw [up1_ne h]
      refine ⟨ih.1, fun ⟨p, hp, he⟩ => ih.2 ⟨p, ?_, he⟩⟩
      by_cases hpv : p = v
      · rw [hpv] at he; exact absurd he.symm h
      · omega
theorem tlF_th {T : RT} {ln : List Nat} : ∀ v, tH (tlF T ln v) = tH T := by
  intro v
  induction v with
  | zero => rfl
  | succ v ih => exact ih
section REFF
variable {K : Cfg} {r : Nat → Nat} {nJ nR nF : Nat} {A B : CS} {T : RT} {M0 M : Mem} {ln : List Nat} {la lb : Nat} {g : Nat → Nat}
theorem picR.re (h : picR K r nJ nR A T M0 M) : picR K r nJ nR A T M M := ⟨h.1, h.2.1, h.2.2.1, fun _ _ hq _ => hq⟩
theorem picR.comp {M2 : Mem} {A2 : CS} {T2 : RT} (h : picR K r nJ nR A T M0 M) (h2 : picR K r nJ nR A2 T2 M M2) : picR K r nJ nR A2 T2 M0 M2 := ⟨h2.1, h2.2.1, h2.2.2.1, fun q e hq hq2 => h2.2.2.2 q e (h.2.2.2 q e hq hq2) hq2⟩
theorem picR.keep {a : Nat} {e : va_E} (h : picR K r nJ nR A T M0 M) (ha : ∀ i, rv nJ nR i → r i ≠ a) (hc : M0 a = some e) : M a = some e := h.2.2.2 a e hc (fun i hi e9 => ha i hi e9.symm)
theorem picT.keep {n : Nat} {S : Nat → va_E} {M2 : Mem} {A2 : CS} {T2 : RT} (ht : picT K r nJ nR M0 la lb g n S M) (h : picR K r nJ nR A2 T2 M M2) : picT K r nJ nR M0 la lb g n S M2 := by
  obtain ⟨⟨t1, md, t2⟩, t3, t4, t5, t6⟩ := ht
  exact ⟨⟨t1, md, h.keep t1.2 t2⟩, t3, fun h0 => ⟨(t4 h0).1, (t4 h0).2.1, h.keep (t4 h0).2.1.2 (t4 h0).2.2⟩, fun j hj => ⟨(t5 j hj).1, h.keep (t5 j hj).1.2 (t5 j hj).2⟩, t6⟩
theorem picT.cg {n : Nat} {S S2 : Nat → va_E} (ht : picT K r nJ nR M0 la lb g n S M) (he : ∀ j, j < n → S2 j = S j) : picT K r nJ nR M0 la lb g n S2 M := by
  obtain ⟨t1, t3, t4, t5, t6⟩ := ht
  exact ⟨t1, t3, t4, fun j hj => ⟨(t5 j hj).1, by rw [he j hj]; exact (t5 j hj).2⟩, t6⟩
theorem jr_10 {its mo oo : Nat} {fr st : Int32} {l : UInt32} {x : Int} (tr : Bool) (o1 : 2 ≤ oo) (o2 : oo ≤ 6) : jr its mo fr st l oo tr (10, 0, x, 0) = .inr (7, [.ref its, .int fr, .int st, .float l, .double (em x), .double (em 0), .int (lyr 10), .int (Int32.ofNat 0), .int (Int32.ofNat oo), .int 0, .int 0, .int (if tr = true then 1 else 0), .ref mo]) := by
  rw [jr_eq (op := oo) (io := 0) (ir := 0) (it := if tr = true then 1 else 0) (if_neg (fun h9 => by omega)) (if_neg (by unfold opF; split <;> omega)) (if_neg (fun h9 => by omega)) rfl]
  rfl
theorem x_land {a kk rr N oo : Nat} {fr st : Int32} {l : UInt32} {tr : Bool} {s : JS} {k : Mem → Prop} (h : picR K r nJ nR B T M M) (ha : ∀ i, rv nJ nR i → r i ≠ a) (hc : M a = some (jr (r (16 + kk)) (r 0) fr st l oo tr s)) (hkk : kk < nJ) (e1 : cJ B kk 2 = Int32.ofNat rr) (e2 : rr < nR) (hs : good N s) (hN : N ≤ 50000) (hwa : vf_n32 (FP.fadd (cW B rr) (wadd tr)))
    (hk : ∀ M2, picR K r nJ nR (settF B kk rr tr s.2.2.1 s.2.2.2) (setSt T kk (-1)) M M2 → k M2) : f_X9_land K (r 0) a k M := by
  obtain ⟨-, -, b1, b2⟩ := hs
  have hF : (farK s.2.2.1 s.2.2.2).natAbs < 2 ^ 53 := farK_lt (by omega) (by omega)
  have kc : ∀ {A2 : CS} {T2 : RT} {M2 : Mem}, picR K r nJ nR A2 T2 M M2 → M2 a = some (jr (r (16 + kk)) (r 0) fr st l oo tr s) := fun h2 => h2.keep ha hc
  have b137 : ∀ (C6 : CS) (M2 : Mem) (t1 t2 : Int32) (of : Bool) (C5 : CS), picR K r nJ nR C5 T M M2 → t1 = cS C5 15 → t2 = (if of = true then 1 else 0) → C6 = setS C5 15 (cS C5 15 + (if of = true then 1 else 0)) → (∀ C7 C8 C9 C10, C7 = setJ C6 kk 3 (cS C6 10) → C8 = setJ C7 kk 4 (cJ C7 kk 4 + 1) → C9 = setS C8 13 (cS C8 13 + 1) → C10 = setJ C9 kk 5 (cJ C9 kk 5 + ptsK s.2.2.1 s.2.2.2) → ∀ M2, picR K r nJ nR (setP (setP C10 kk 8 s.2.2.1) kk 9 s.2.2.2) (setSt T kk (-1)) M M2 → k M2) → f_X9_land_b137 K k (r 0) a (r (16 + kk)) (r 0) t1 t2 M2 := by
    intro C6 M2 t1 t2 of C5 h q1 q2 q3 hk
    subst q1
    subst q2
    have hk := hk _ _ _ _ rfl rfl rfl rfl
    subst q3
    unfold f_X9_land_b137
    refine q_putM10 h (fun M3 h => s_getI h.r0 rfl (q_putJ3 h hkk (fun M3 h => s_getI (h.rj hkk) rfl (q_putJ4 h hkk (fun M3 h => s_getI h.r0 rfl (q_putM8 h (fun M3 h => s_getI (h.rj hkk) rfl (s_recv (kc h) (q_points (kc h) (by omega) (by omega) (q_putJ5 h hkk (fun M3 h => s_getD (kc h) rfl (q_putJ8 h hkk (fun M3 h => s_getD (kc h) rfl (q_putJ9 h hkk (fun M3 h => q_putJ10 h hkk (fun M3 h => hk M3 h))))))))))))))))
  have b112 : ∀ (C4 : CS) (M2 : Mem) (t1 t2 : Int32), picR K r nJ nR C4 T M M2 → t1 = cS C4 14 → t2 = (if tr = true then 1 else 0) → (∀ C5 C6 C7 C8 C9 C10, C5 = setS C4 14 (cS C4 14 + (if tr = true then 1 else 0)) → C6 = setS C5 15 (cS C5 15 + (if offB s.2.2.1 s.2.2.2 = true then 1 else 0)) → C7 = setJ C6 kk 3 (cS C6 10) → C8 = setJ C7 kk 4 (cJ C7 kk 4 + 1) → C9 = setS C8 13 (cS C8 13 + 1) → C10 = setJ C9 kk 5 (cJ C9 kk 5 + ptsK s.2.2.1 s.2.2.2) → ∀ M2, picR K r nJ nR (setP (setP C10 kk 8 s.2.2.1) kk 9 s.2.2.2) (setSt T kk (-1)) M M2 → k M2) → f_X9_land_b112 K k (r 0) a (r (16 + kk)) (r 0) t1 t2 M2 := by
    intro C4 M2 t1 t2 h q1 q2 hk
    subst q1
    subst q2
    have hk := fun C6 C7 C8 C9 C10 => hk _ C6 C7 C8 C9 C10 rfl
    unfold f_X9_land_b112
    refine q_putM9 h (fun M3 h => s_getI h.r0 rfl (s_recv (kc h) (q_far (kc h) (by omega) (by omega) ?_)))
    rw [em_c100, em_cmp hF (by decide)]
    refine s_if (fun c1 => b137 _ M3 _ 0 false _ h rfl (if_neg (by decide)).symm rfl (fun C7 C8 C9 C10 => ?_)) (fun c1 => b137 _ M3 _ 1 true _ h rfl (if_pos rfl).symm rfl (fun C7 C8 C9 C10 => ?_))
    · rw [cv_le] at c1
      have ho : offB s.2.2.1 s.2.2.2 = false := decide_eq_false (by omega)
      rw [ho] at hk
      exact hk _ C7 C8 C9 C10 rfl
    · rw [cv_le] at c1
      have ho : offB s.2.2.1 s.2.2.2 = true := decide_eq_true (by omega)
      rw [ho] at hk
      exact hk _ C7 C8 C9 C10 rfl
  have b71 : ∀ (C2 : CS) (M2 : Mem) (t1 : Int32), picR K r nJ nR C2 T M M2 → C2 = setW (setG B rr 3 0) rr (FP.fadd (cW (setG B rr 3 0) rr) (wadd tr)) → t1 = (if tr = true then cS C2 10 - 1 else cG C2 rr 1) → f_X9_land_b71 K k (r 0) a (r (16 + kk)) (r (24 + rr)) t1 M2 := by
    intro C2 M2 t1 h q1 q2
    subst q2
    unfold f_X9_land_b71
    refine q_putG1 h e2 (fun M3 h => s_getI (h.rj hkk) rfl (s_getI (kc h) rfl ?_))
    have b91 : ∀ t2 : Int32, t2 = (if tr = true then 1 else 0) → f_X9_land_b91 K k (r 0) a (r (16 + kk)) (r (16 + kk)) (cJ (setG C2 rr 1 (if tr = true then cS C2 10 - 1 else cG C2 rr 1)) kk 7) t2 M3 := by
      intro t2 q3
      subst q3
      unfold f_X9_land_b91
      refine q_putJ7 h hkk (fun M4 h => s_getI h.r0 rfl (s_getI (kc h) rfl ?_))
      have fin : ∀ C5 C6 C7 C8 C9 C10, C5 = setS (setJ (setG C2 rr 1 (if tr = true then cS C2 10 - 1 else cG C2 rr 1)) kk 7 (cJ (setG C2 rr 1 (if tr = true then cS C2 10 - 1 else cG C2 rr 1)) kk 7 + (if tr = true then 1 else 0))) 14 (cS (setJ (setG C2 rr 1 (if tr = true then cS C2 10 - 1 else cG C2 rr 1)) kk 7 (cJ (setG C2 rr 1 (if tr = true then cS C2 10 - 1 else cG C2 rr 1)) kk 7 + (if tr = true then 1 else 0))) 14 + (if tr = true then 1 else 0)) → C6 = setS C5 15 (cS C5 15 + (if offB s.2.2.1 s.2.2.2 = true then 1 else 0)) → C7 = setJ C6 kk 3 (cS C6 10) → C8 = setJ C7 kk 4 (cJ C7 kk 4 + 1) → C9 = setS C8 13 (cS C8 13 + 1) → C10 = setJ C9 kk 5 (cJ C9 kk 5 + ptsK s.2.2.1 s.2.2.2) → ∀ M2, picR K r nJ nR (setP (setP C10 kk 8 s.2.2.1) kk 9 s.2.2.2) (setSt T kk (-1)) M M2 → k M2 := by
        intro C5 C6 C7 C8 C9 C10 z5 z6 z7 z8 z9 z10 M5 h5
        rw [landF_chain tr _ rfl q1 rfl rfl z5 z6 z7 z8 z9 z10] at h5
        exact hk M5 h5
      cases tr with
      | false => exact s_ifT rfl (b112 _ M4 _ 0 h rfl (if_neg (by decide)).symm fin)
      | true => exact s_ifF (by decide) (b112 _ M4 _ 1 h rfl (if_pos rfl).symm fin)
    cases tr with
    | false => exact s_ifT rfl (b91 0 (if_neg (by decide)).symm)
    | true => exact s_ifF (by decide) (b91 1 (if_pos rfl).symm)
  unfold f_X9_land
  refine s_getR hc rfl (s_getR h.r0 rfl (s_getI (h.rj hkk) rfl (s_recv h.r2 ?_)))
  show f_Jx4a65c_get_915e3 K (r 2) (cJ B kk 2) _ M
  rw [e1]
  refine q_gG h e2 (s_recv (h.rg e2) ⟨Or.inl rfl, q_putG3 h e2 (fun M2 h => s_getF (h.rg e2) rfl (s_getI (kc h) rfl ?_))⟩)
  have b46 : ∀ t2 : UInt32, t2 = wadd tr → f_X9_land_b46 K k (r 0) a (r (16 + kk)) (r (24 + rr)) (r (24 + rr)) (cW (setG B rr 3 0) rr) t2 M2 := by
    intro t2 q1
    subst q1
    unfold f_X9_land_b46
    refine s_as hwa (q_putG4 h e2 (fun M3 h => s_getI (kc h) rfl ?_))
    cases tr with
    | false => exact s_ifT rfl (s_getI (h.rg e2) rfl (b71 _ M3 _ h rfl (if_neg (by decide)).symm))
    | true => exact s_ifF (by decide) (s_getI h.r0 rfl (b71 _ M3 _ h rfl (if_pos rfl).symm))
  cases tr with
  | false => exact s_ifT rfl (b46 _ rfl)
  | true => exact s_ifF (by decide) (b46 _ rfl)
end REFF
