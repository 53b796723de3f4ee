/-! ===== THE LAW ===== -/
theorem InvT.succ {K : Cfg} {c : Nat → Nat} {mo vo vd i : Nat} {th : Int32} {x : Int64} {y : UInt64} {M : Mem} (h : InvT K c mo vo vd i th x y M) : InvT K c mo vo vd (i + 1) th x y M := by
  obtain ⟨r, nJ, nR, ln, A, T, b, e1, e2, hH, h1, h2, h3, h4, h5, h6, h7, h8, h9⟩ := h
  exact ⟨r, nJ, nR, ln, A, T, b, e1, e2, hH, h1, h2, h3, h4, h5, h6, by omega, h8, h9⟩
theorem vp_k {L n k : Nat} (h : n + k < L) (hL : L ≤ 3072) : vp_in (Int32.ofNat n + Int32.ofNat k) L := by
  rw [← Int32.ofNat_add]
  exact i_in (by omega) h
def rmF (b : Nat) : Nat → Nat
  | 0 => 1000
  | i + 1 => rmF b i + b
theorem rmF_mono {b : Nat} {i : Nat} : ∀ d, rmF b i ≤ rmF b (i + d) := by
  intro d
  induction d with
  | zero => exact Nat.le_refl _
  | succ d ih => exact Nat.le_trans ih (Nat.le_add_right _ _)
theorem rmF_u {i : Nat} (h : i ≤ 513) : rmF 585 i ≤ 400000 := by
  have h1 : rmF 585 i ≤ rmF 585 (i + (513 - i)) := rmF_mono _
  rw [show i + (513 - i) = 513 by omega] at h1
  exact Nat.le_trans h1 (by decide +kernel)
theorem rmF_w {i : Nat} (h : i ≤ 513) : rmF 5226 i ≤ 4000000 := by
  have h1 : rmF 5226 i ≤ rmF 5226 (i + (513 - i)) := rmF_mono _
  rw [show i + (513 - i) = 513 by omega] at h1
  exact Nat.le_trans h1 (by decide +kernel)
section LAW
variable {K : Cfg} {L : Nat} {xs : Nat → Int32} {c : Nat → Nat} {mo vo vd nF : Nat}
theorem law_loop (f1 : 365 ≤ nF) (f2 : nF ≤ 900) (hne : K.2.2 2 ≠ K.2.2 3) (hK : K.2.2 1 < K.2.2 0) (hL : L ≤ 3072) : ∀ (d fuel i u w : Nat) (th : Int32) (x : Int64) (y : UInt64) (M : Mem), i + d = 513 → d < fuel → u ≤ rmF 585 i → w ≤ rmF 5226 i → InvT K c mo vo vd i th x y M → f_L_law_b28 K L xs fuel u w (c 0) mo vo vd (Int32.ofNat (6 * i)) M := by
  have hL6 : (Int32.ofNat L - 6).toInt = (L : Int) - 6 := by
    have h6 : (6 : Int32).toInt = 6 := rfl
    rw [i_sub (by rw [i_toInt (by omega), h6]; omega) (by rw [i_toInt (by omega), h6]; omega), i_toInt (by omega), h6]
  intro d
  induction d with
  | zero =>
    intro fuel i u w th x y M hi hf hu hw hI
    have bu := rmF_u (i := i) (by omega)
    have bw := rmF_w (i := i) (by omega)
    obtain ⟨fuel, rfl⟩ : ∃ e, fuel = e + 1 := ⟨fuel - 1, by omega⟩
    show f_L_law_b28_body K L xs (f_L_law_b28 K L xs fuel) u w (c 0) mo vo vd (Int32.ofNat (6 * i)) M
    unfold f_L_law_b28_body
    refine s_ifT ?_ (s_as (by omega) trivial)
    rw [Int32.lt_iff_toInt_lt, hL6, i_toInt (by omega)]; omega
  | succ d ih =>
    intro fuel i u w th x y M hi hf hu hw hI
    have bu := rmF_u (i := i) (by omega)
    have bw := rmF_w (i := i) (by omega)
    obtain ⟨fuel, rfl⟩ : ∃ e, fuel = e + 1 := ⟨fuel - 1, by omega⟩
    show f_L_law_b28_body K L xs (f_L_law_b28 K L xs fuel) u w (c 0) mo vo vd (Int32.ofNat (6 * i)) M
    unfold f_L_law_b28_body
    refine s_if (fun _ => s_as (by omega) trivial) (fun hgo => ?_)
    rw [Int32.lt_iff_toInt_lt, hL6, i_toInt (by omega)] at hgo
    have g1 : vp_in (Int32.ofNat (6 * i) + 1) L := vp_k (k := 1) (by omega) hL
    have g2 : vp_in (Int32.ofNat (6 * i) + 2) L := vp_k (k := 2) (by omega) hL
    have g3 : vp_in (Int32.ofNat (6 * i) + 3) L := vp_k (k := 3) (by omega) hL
    have g4 : vp_in (Int32.ofNat (6 * i) + 4) L := vp_k (k := 4) (by omega) hL
    have g5 : vp_in (Int32.ofNat (6 * i) + 5) L := vp_k (k := 5) (by omega) hL
    have nx : ∀ (u2 w2 : Nat) {th : Int32} {x : Int64} {y : UInt64} {M2 : Mem}, InvT K c mo vo vd (i + 1) th x y M2 → u2 ≤ u + 585 → w2 ≤ w + 5226 → f_L_law_b28 K L xs fuel u2 w2 (c 0) mo vo vd (Int32.ofNat (6 * i) + 6) M2 := by
      intro u2 w2 th x y M2 h hu2 hw2
      have e : Int32.ofNat (6 * i) + 6 = Int32.ofNat (6 * (i + 1)) := by
        show Int32.ofNat (6 * i) + Int32.ofNat 6 = _
        rw [← Int32.ofNat_add]; rfl
      rw [e]
      exact ih fuel (i + 1) u2 w2 th x y M2 (by omega) (by omega) (Nat.le_trans hu2 (Nat.add_le_add_right hu 585)) (Nat.le_trans hw2 (Nat.add_le_add_right hw 5226)) h
    refine s_as (i_in (by omega) (by omega)) (s_if (fun _ => nx u w hI.succ (by omega) (by omega)) (fun hq => ?_))
    generalize hgq : (xs (Int32.ofNat (6 * i)).toNatClampNeg) &&& 31 = q at hq ⊢
    refine s_if (fun _ => s_as g1 (s_as g2 (s_as (by omega) (J_jumper hK hI (fun k1 M h => s_as g1 (s_as g2 (s_as (by omega) h))) (fun k1 v2 x y M2 h hx => s_as (by omega) (fin_I h hx (nx _ _ h (by omega) (by omega)) (nx _ _ h (by omega) (by omega)))))))) (fun q0 => ?_)
    refine s_if (fun _ => s_as g1 (s_as g2 (s_as (by omega) (J_rig hK hI (fun k1 M h => s_as g1 (s_as g2 (s_as (by omega) h))) (fun k1 v2 x y M2 h hx => s_as (by omega) (fin_I h hx (nx _ _ h (by omega) (by omega)) (nx _ _ h (by omega) (by omega)))))))) (fun q1 => ?_)
    refine s_if (fun _ => s_as g1 (s_as g2 (s_as (by omega) (J_lend hI (fun k1 M h => s_as g1 (s_as g2 (s_as (by omega) h))) (fun k1 v2 x y M2 h hx => s_as (by omega) (fin_I h hx (nx _ _ h (by omega) (by omega)) (nx _ _ h (by omega) (by omega)))))))) (fun q2 => ?_)
    refine s_if (fun _ => s_as g1 (s_as g2 (s_as (by omega) (J_pack hI (fun k1 M h => s_as g1 (s_as g2 (s_as (by omega) h))) (fun k1 v2 x y M2 h hx => s_as (by omega) (fin_I h hx (nx _ _ h (by omega) (by omega)) (nx _ _ h (by omega) (by omega)))))))) (fun q3 => ?_)
    refine s_if (fun _ => s_as g1 (s_as (by omega) (J_renew hI (fun k1 M h => s_as g1 (s_as (by omega) h)) (fun k1 v2 x y M2 h hx => s_as (by omega) (fin_I h hx (nx _ _ h (by omega) (by omega)) (nx _ _ h (by omega) (by omega))))))) (fun q4 => ?_)
    refine s_if (fun _ => s_as g1 (s_as (by omega) (J_pass hI (fun k1 M h => s_as g1 (s_as (by omega) h)) (fun k1 v2 x y M2 h hx => s_as (by omega) (fin_I h hx (nx _ _ h (by omega) (by omega)) (nx _ _ h (by omega) (by omega))))))) (fun q5 => ?_)
    refine s_if (fun _ => s_as g1 (s_as g2 (s_as g3 (s_as (by omega) (J_wind hI (fun k1 M h => s_as g1 (s_as g2 (s_as g3 (s_as (by omega) h)))) (fun k1 v2 x y M2 h hx => s_as (by omega) (fin_I h hx (nx _ _ h (by omega) (by omega)) (nx _ _ h (by omega) (by omega))))))))) (fun q6 => ?_)
    refine s_if (fun _ => s_as g1 (s_as g2 (s_as g3 (s_as (by omega) (J_board hne hI (fun k1 M h => s_as g1 (s_as g2 (s_as g3 (s_as (by omega) h)))) (fun k1 v2 x y M2 h hx => s_as (by omega) (fin_I h hx (nx _ _ h (by omega) (by omega)) (nx _ _ h (by omega) (by omega))))))))) (fun q7 => ?_)
    refine s_if (fun _ => s_as (by omega) (J_empty hI (fun k1 M h => s_as (by omega) h) (fun v2 x y M2 h => s_ifT rfl (nx _ _ h (by omega) (by omega))))) (fun q8 => ?_)
    refine s_if (fun _ => s_as g1 (s_as g2 (s_as (by omega) (J_fly f1 f2 (by omega) hK hI (fun k1 M h => s_as g1 (s_as g2 (s_as (by omega) h))) (fun k1 v2 x y M2 h hx => s_as (by omega) (fin_I h hx (nx _ _ h (by omega) (by omega)) (nx _ _ h (by omega) (by omega)))))))) (fun q9 => ?_)
    refine s_if (fun _ => s_as g1 (s_if (fun hz => s_as (by omega) (J_hold (Or.inl rfl) hI (fun k1 M h => s_as g1 (s_ifT hz (s_as (by omega) h))) (fun v2 x y M2 h => s_ifT rfl (nx _ _ h (by omega) (by omega))))) (fun hz => s_as (by omega) (J_hold (Or.inr rfl) hI (fun k1 M h => s_as g1 (s_ifF hz (s_as (by omega) h))) (fun v2 x y M2 h => s_ifT rfl (nx _ _ h (by omega) (by omega))))))) (fun q10 => ?_)
    refine s_if (fun _ => s_as (by omega) (J_gong hI (fun k1 M h => s_as (by omega) h) (fun v2 x y M2 h => s_ifT rfl (nx _ _ h (by omega) (by omega))))) (fun q11 => ?_)
    refine s_if (fun _ => s_as g1 (s_as g2 (s_as (by omega) (J_ofJumper hI (fun k1 M h => s_as g1 (s_as g2 (s_as (by omega) h))) (fun k1 v2 x y M2 h hx => s_as (by omega) (fin_I h hx (nx _ _ h (by omega) (by omega)) (nx _ _ h (by omega) (by omega)))))))) (fun q12 => ?_)
    refine s_if (fun _ => s_as g1 (s_as (by omega) (J_loading hI (fun k1 M h => s_as g1 (s_as (by omega) h)) (fun k1 v2 x y M2 h hx => s_as (by omega) (fin_D h hx (nx _ _ h (by omega) (by omega)) (nx _ _ h (by omega) (by omega))))))) (fun q13 => ?_)
    refine s_if (fun _ => s_as g1 (s_as g2 (s_if (fun hz => s_as (by omega) (J_landed hI (fun k1 M h => s_as g1 (s_as g2 (s_ifT hz (s_as (by omega) h)))) (fun k1 v2 x y M2 h hx => s_as (by omega) (fin_D h hx (nx _ _ h (by omega) (by omega)) (nx _ _ h (by omega) (by omega)))))) (fun hz => s_as (by omega) (J_landed hI (fun k1 M h => s_as g1 (s_as g2 (s_ifF hz (s_as (by omega) h)))) (fun k1 v2 x y M2 h hx => s_as (by omega) (fin_D h hx (nx _ _ h (by omega) (by omega)) (nx _ _ h (by omega) (by omega))))))))) (fun q14 => ?_)
    refine s_if (fun _ => s_as g1 (s_as (by omega) (J_refuses hne hI (fun k1 M h => s_as g1 (s_as (by omega) h)) (fun k1 v2 x y M2 h hx => s_as (by omega) (fin_I h hx (nx _ _ h (by omega) (by omega)) (nx _ _ h (by omega) (by omega))))))) (fun q15 => ?_)
    refine s_if (fun _ => s_as g1 (s_as g2 (s_as (by omega) (J_ofRig hI (fun k1 M h => s_as g1 (s_as g2 (s_as (by omega) h))) (fun k1 v2 x y M2 h hx => s_as (by omega) (fin_I h hx (nx _ _ h (by omega) (by omega)) (nx _ _ h (by omega) (by omega)))))))) (fun q16 => ?_)
    refine s_if (fun _ => s_as g1 (s_as (by omega) (J_wear (by omega) hI (fun k1 M h => s_as g1 (s_as (by omega) h)) (fun k1 v2 x y M2 h hx => s_as (by omega) (fin_D h hx (nx _ _ h (by omega) (by omega)) (nx _ _ h (by omega) (by omega))))))) (fun q17 => ?_)
    refine s_if (fun _ => s_as g1 (s_as g2 (s_if (fun hz => s_as (by omega) (J_ofWind hI (fun k1 M h => s_as g1 (s_as g2 (s_ifT hz (s_as (by omega) h)))) (fun k1 v2 x y M2 h hx => s_as (by omega) (fin_I h hx (nx _ _ h (by omega) (by omega)) (nx _ _ h (by omega) (by omega)))))) (fun hz => s_as (by omega) (J_ofWind hI (fun k1 M h => s_as g1 (s_as g2 (s_ifF hz (s_as (by omega) h)))) (fun k1 v2 x y M2 h hx => s_as (by omega) (fin_I h hx (nx _ _ h (by omega) (by omega)) (nx _ _ h (by omega) (by omega))))))))) (fun q18 => ?_)
    refine s_if (fun _ => s_as g1 (s_as (by omega) (J_many hI (fun k1 M h => s_as g1 (s_as (by omega) h)) (fun k1 v2 x y M2 h hx => s_as (by omega) (fin_I h hx (nx _ _ h (by omega) (by omega)) (nx _ _ h (by omega) (by omega))))))) (fun q19 => ?_)
    refine s_if (fun _ => s_as g1 (s_as (by omega) (J_order hI (fun k1 M h => s_as g1 (s_as (by omega) h)) (fun k1 v2 x y M2 h hx => s_as (by omega) (fin_I h hx (nx _ _ h (by omega) (by omega)) (nx _ _ h (by omega) (by omega))))))) (fun q20 => ?_)
    refine s_if (fun _ => s_as g1 (s_as g2 (s_as g3 (s_as g4 (s_as g5 (s_if (fun hz => s_as (by omega) (J_wouldLand f1 f2 hI (fun k1 M h => s_as g1 (s_as g2 (s_as g3 (s_as g4 (s_as g5 (s_ifT hz (s_as (by omega) h))))))) (fun k1 v2 x y M2 h hx => s_as (by omega) (fin_D h hx (nx _ _ h (by omega) (by omega)) (nx _ _ h (by omega) (by omega)))))) (fun hz => s_as (by omega) (J_wouldLand f1 f2 hI (fun k1 M h => s_as g1 (s_as g2 (s_as g3 (s_as g4 (s_as g5 (s_ifF hz (s_as (by omega) h))))))) (fun k1 v2 x y M2 h hx => s_as (by omega) (fin_D h hx (nx _ _ h (by omega) (by omega)) (nx _ _ h (by omega) (by omega)))))))))))) (fun q21 => ?_)
    refine s_if (fun _ => s_as g1 (s_as g2 (s_as g3 (s_as (by omega) (J_takes f1 f2 hI (fun k1 M h => s_as g1 (s_as g2 (s_as g3 (s_as (by omega) h)))) (fun k1 v2 x y M2 h hx => s_as (by omega) (fin_I h hx (nx _ _ h (by omega) (by omega)) (nx _ _ h (by omega) (by omega))))))))) (fun q22 => ?_)
    refine s_if (fun _ => s_as g1 (s_as (by omega) (J_spot f1 f2 hK hI (fun k1 M h => s_as g1 (s_as (by omega) h)) (fun k1 v2 x y M2 h hx => s_as (by omega) (fin_I h hx (nx _ _ h (by omega) (by omega)) (nx _ _ h (by omega) (by omega))))))) (fun q23 => ?_)
    refine s_if (fun _ => s_as g1 (s_as g2 (s_as (by omega) (J_wouldMeet f1 f2 hK hI (fun k1 M h => s_as g1 (s_as g2 (s_as (by omega) h))) (fun k1 v2 x y M2 h hx => s_as (by omega) (fin_I h hx (nx _ _ h (by omega) (by omega)) (nx _ _ h (by omega) (by omega)))))))) (fun q24 => ?_)
    refine s_if (fun _ => s_as g1 (s_as (by omega) (J_best hne hI (fun k1 M h => s_as g1 (s_as (by omega) h)) (fun k1 v2 x y M2 h hx => s_as (by omega) (fin_I h hx (nx _ _ h (by omega) (by omega)) (nx _ _ h (by omega) (by omega))))))) (fun q25 => ?_)
    refine s_if (fun _ => s_as (by omega) (J_digest f1 f2 (by omega) hK hne hI (fun k1 M h => s_as (by omega) h) (fun v x y M2 h => s_ifT ((lg_cmp_eq _ _).mpr rfl) (nx _ _ h (by omega) (by omega))))) (fun q26 => ?_)
    exfalso
    obtain ⟨m, rfl, -, m2⟩ := i_num (a := q) (lo := 0) (hi := 26) (by decide) (by decide) (Classical.byContradiction fun h9 => hq ((rng_iff (n := 26) (by decide)).mpr h9))
    rcases (show m = 0 ∨ m = 1 ∨ m = 2 ∨ m = 3 ∨ m = 4 ∨ m = 5 ∨ m = 6 ∨ m = 7 ∨ m = 8 ∨ m = 9 ∨ m = 10 ∨ m = 11 ∨ m = 12 ∨ m = 13 ∨ m = 14 ∨ m = 15 ∨ m = 16 ∨ m = 17 ∨ m = 18 ∨ m = 19 ∨ m = 20 ∨ m = 21 ∨ m = 22 ∨ m = 23 ∨ m = 24 ∨ m = 25 ∨ m = 26 by omega) with rfl | rfl | rfl | rfl | rfl | rfl | rfl | rfl | rfl | rfl | rfl | rfl | rfl | rfl | rfl | rfl | rfl | rfl | rfl | rfl | rfl | rfl | rfl | rfl | rfl | rfl | rfl
    · exact q0 rfl
    · exact q1 rfl
    · exact q2 rfl
    · exact q3 rfl
    · exact q4 rfl
    · exact q5 rfl
    · exact q6 rfl
    · exact q7 rfl
    · exact q8 rfl
    · exact q9 rfl
    · exact q10 rfl
    · exact q11 rfl
    · exact q12 rfl
    · exact q13 rfl
    · exact q14 rfl
    · exact q15 rfl
    · exact q16 rfl
    · exact q17 rfl
    · exact q18 rfl
    · exact q19 rfl
    · exact q20 rfl
    · exact q21 rfl
    · exact q22 rfl
    · exact q23 rfl
    · exact q24 rfl
    · exact q25 rfl
    · exact q26 rfl
end LAW
theorem pure_law {K : Cfg} {L : Nat} {xs : Nat → Int32} (h1 : K.2.2 2 ≠ K.2.2 3) (h2 : K.2.2 1 < K.2.2 0) (h3 : K.2.2 2 < K.2.2 0) (h4 : K.2.2 3 < K.2.2 0) (hL : L ≤ 3072) : f_L_law K L xs (fun _ => none) := by
  obtain ⟨nF, f1, f2⟩ : ∃ nF : Nat, 365 ≤ nF ∧ nF ≤ 900 := ⟨400, by decide, by decide⟩
  unfold f_L_law
  refine s_as (by decide) (fun x1 g1 => s_as (by decide) (c_init mUp_same (fun c M1 e1 hC => s_as (by decide) (fun x3 g3 => s_as (by decide) ?_))))
  have n3 := fresh_none g3
  have d3 : ∀ j, j < 32 → c j ≠ x3 := fun j hj e => by have := hC.2.1 j hj; rw [e, n3] at this; cases this
  have hC2 : picC K c A0 (mUp M1 x3 (.inr (10, [.int 0, .null, .null, .null, .null, .int 0, .int 0, .int 0, .int 0, .int 0, .int 0, .int 0, .int 0, .int 0]))) (mUp M1 x3 (.inr (10, [.int 0, .null, .null, .null, .null, .int 0, .int 0, .int 0, .int 0, .int 0, .int 0, .int 0, .int 0, .int 0]))) := hC.mle (fun j hj => mUp_ne (d3 j hj))
  refine x_init mUp_same (fun r M3 e3 hR k1 k2 => s_as (by decide) (fun x5 g5 => s_as (by decide) (fun x6 g6 => ?_)))
  have hC3 : picC K c A0 M3 M3 := hC2.mle (fun j hj => k1 _ (by rw [hC2.2.1 j hj]; exact fun h9 => by cases h9) (d3 j hj))
  have n5 := fresh_none g5
  have n6 := fresh_none g6
  have m6 : M3 x6 = none := by
    cases hm : M3 x6 with
    | none => rfl
    | some e =>
      by_cases h56 : x6 = x5
      · rw [h56, mUp_same] at n6; cases n6
      · rw [mUp_ne h56, hm] at n6; cases n6
  have h56 : x5 ≠ x6 := fun e => by rw [← e, mUp_same] at n6; cases n6
  have hc5 : ∀ j, j < 32 → c j ≠ x5 := fun j hj e => by have := hC3.2.1 j hj; rw [e, n5] at this; cases this
  have hc6 : ∀ j, j < 32 → c j ≠ x6 := fun j hj e => by have := hC3.2.1 j hj; rw [e, m6] at this; cases this
  have hr5 : ∀ q, rv 0 0 q → r q ≠ x5 := hR.apart n5
  have hr6 : ∀ q, rv 0 0 q → r q ≠ x6 := hR.apart m6
  have hd : ∀ q, rv 0 0 q → ∀ j, j < 32 → r q ≠ c j := fun q hq j hj e => by
    have hq4 : q ≤ 4 := by unfold rv at hq; omega
    by_cases h0 : q = 0
    · rw [h0, e3] at e; exact d3 j hj e.symm
    · have h9 := k2 q (by omega) hq4
      rw [e, hC2.2.1 j hj] at h9; cases h9
  have hI : InvT K c x3 x5 x6 0 0 0 0 (mUp (mUp M3 x5 (.inl (K.2.1 1, 1, .inr (.inl (fun _ => 0))))) x6 (.inl (K.2.1 2, 1, .inr (.inr (.inr (.inl (fun _ => 0))))))) := by
    refine ⟨r, 0, 0, [], A0, T0, 0, e3, rfl, ⟨hC3.mle (fun j hj => (mUp_ne (hc6 j hj)).trans (mUp_ne (hc5 j hj))), ?_, hd, ⟨⟨_, (mUp_ne h56).trans mUp_same, rfl⟩, _, mUp_same, rfl⟩, fun j hj => ⟨(hc5 j hj).symm, (hc6 j hj).symm⟩, fun q hq => ⟨hr5 q hq, hr6 q hq⟩, h56⟩, ?_⟩
    · exact (hR.mono ((mle_up n5).trans (mle_up n6))).re
    · exact ⟨⟨by decide, by decide, rfl, rfl⟩, ⟨fun j hj => absurd hj (Nat.not_lt_zero j), fun j hj => absurd hj (Nat.not_lt_zero j), ⟨by decide, rfl, fun p hp => absurd hp (Nat.not_lt_zero p), fun k hk => absurd hk List.not_mem_nil⟩, fun k hk => absurd hk List.not_mem_nil, List.nodup_nil, List.Pairwise.nil, fun k hk => absurd hk (Nat.not_lt_zero k)⟩, fun j _ => by show (0 : Int32).toInt.natAbs ≤ 20; decide, fun j _ => by show (0 : Int32).toInt.natAbs ≤ 20; decide, Or.inl rfl, fun k _ => ⟨0, Nat.le_refl 0, by show (0 : UInt32) = wf 0; decide +kernel⟩, by decide, fun k _ _ => ⟨rfl, rfl, rfl, rfl, rfl, rfl, rfl⟩, fun k _ _ => ⟨rfl, rfl, rfl⟩⟩
  have hfin := law_loop (xs := xs) (mo := x3) (vo := x5) (vd := x6) f1 f2 h1 h2 hL 513 mFuel 0 (0 + 1 + 31 + 1 + 4 + 1 + 1) (0 + 18 + 265 + 14 + 26 + 1 + 1) 0 0 0 _ rfl (by decide) (by decide) (by decide) hI
  rw [e1] at hfin
  exact hfin
