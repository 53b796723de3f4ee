/-! ===== POSITIONS ON A GRID: doubles that are whole multiples of 2^-24, not minus zero; sums, differences, orders of them are exact ===== -/
section FPGRID
def em (k : Int) : UInt64 := FP.Core.of64 (FP.Core.round FP.Core.b64 (.fin (decide (k < 0)) k.natAbs (-24)))
theorem em_round (k : Int) : FP.Core.val64 (em k) = FP.Core.round FP.Core.b64 (.fin (decide (k < 0)) k.natAbs (-24)) := FP.Core.val64_of64 (FP.Core.round_fits FP.Core.good_b64 _)
theorem em_val {k : Int} (hk : k.natAbs < 2 ^ 53) : ∃ (c : Nat) (q : Int), FP.Core.val64 (em k) = .fin (decide (k < 0)) c q ∧ FP.Core.inUnits c q FP.Core.b64.qmin = k.natAbs * 2 ^ 1050 := by
  obtain ⟨c, q, h1, h2⟩ := FP.Core.round_exact FP.Core.good_b64 (decide (k < 0)) (c := k.natAbs) (q := -24) hk (by decide) (by decide)
  refine ⟨c, q, by rw [em_round, h1], h2.trans ?_⟩
  unfold FP.Core.inUnits
  rw [show ((-24 : Int) - FP.Core.b64.qmin).toNat = 1050 by decide]
theorem em_sgn (k : Int) (m : Nat) : FP.Core.signed (decide (k < 0)) (k.natAbs * m) = k * (m : Int) := by
  unfold FP.Core.signed
  by_cases h : k < 0
  · rw [decide_eq_true h, if_pos rfl, Int.natCast_mul, ← Int.neg_mul, show -((k.natAbs : Nat) : Int) = k by omega]
  · rw [decide_eq_false h, if_neg (by decide), Int.natCast_mul, show ((k.natAbs : Nat) : Int) = k by omega]
theorem em_zval {k : Int} (hk : k.natAbs < 2 ^ 53) : FP.Core.zval FP.Core.b64 (FP.Core.val64 (em k)) = k * ((2 ^ 1050 : Nat) : Int) := by
  obtain ⟨c, q, h1, h2⟩ := em_val hk
  rw [h1]
  unfold FP.Core.zval FP.Core.sgn FP.Core.zmag
  simp only [h2]
  exact em_sgn k _
theorem em_fin {k : Int} (hk : k.natAbs < 2 ^ 53) : FP.Core.DFin (em k) := by
  obtain ⟨c, q, h1, -⟩ := em_val hk
  exact ⟨_, c, q, h1⟩
theorem em_ne {k : Int} (hk : k.natAbs < 2 ^ 53) : FP.Core.val64 (em k) ≠ .nan := (em_fin hk).ne_nan
theorem em_n64 {a : UInt64} (h : FP.Core.val64 a ≠ .nan) : vf_n64 a := by
  have h1 := (FP.Core.ne_nan a).mp h
  unfold vf_n64
  rw [UInt64.le_iff_toNat_le, FP.Core.mask_toNat]
  exact h1
theorem em_nan {k : Int} (hk : k.natAbs < 2 ^ 53) : vf_n64 (em k) := em_n64 (em_ne hk)
/-- what has the value, and the sign of a whole number's, is the grid's -/
theorem em_of {a : UInt64} {c : Nat} {q k : Int} (hv : FP.Core.val64 a = FP.Core.round FP.Core.b64 (.fin (decide (k < 0)) c q)) (hq : FP.Core.b64.qmin ≤ q) (hu : FP.Core.inUnits c q FP.Core.b64.qmin = k.natAbs * 2 ^ 1050) : a = em k := by
  have h : FP.Core.val64 a = FP.Core.val64 (em k) := by
    rw [hv, em_round]
    unfold FP.Core.round
    refine FP.Core.roundRatio_congr (by decide) (by decide) ?_
    unfold FP.Core.inUnits at hu
    have hm : FP.Core.b64.qmin = -1074 := by decide
    rw [hm] at hu hq
    rw [Nat.mul_one, Nat.mul_one]
    by_cases h9 : (-24 : Int) ≤ q
    · rw [show ((-24 : Int) - q).toNat = 0 by omega, Nat.pow_zero, Nat.mul_one]
      rw [show (q - (-1074 : Int)).toNat = (q - (-24 : Int)).toNat + 1050 by omega, Nat.pow_add, ← Nat.mul_assoc] at hu
      exact Nat.eq_of_mul_eq_mul_right (Nat.two_pow_pos 1050) hu
    · rw [show (q - (-24 : Int)).toNat = 0 by omega, Nat.pow_zero, Nat.mul_one]
      refine Nat.eq_of_mul_eq_mul_right (Nat.two_pow_pos (q - (-1074 : Int)).toNat) ?_
      rw [hu, Nat.mul_assoc, ← Nat.pow_add, show ((-24 : Int) - q).toNat + (q - (-1074 : Int)).toNat = 1050 by omega]
  exact FP.Core.val64_inj (by rw [hv]; exact fun e => FP.Core.roundRatio_ne_nan _ _ _ _ _ e) h
theorem em_zero : em 0 = 0 := by decide +kernel
theorem em_sum {s t : Bool} {c d : Nat} {q r k l : Int} (hs : FP.Core.signed s (FP.Core.inUnits c q FP.Core.b64.qmin) = k * ((2 ^ 1050 : Nat) : Int)) (ht : FP.Core.signed t (FP.Core.inUnits d r FP.Core.b64.qmin) = l * ((2 ^ 1050 : Nat) : Int)) (hq : FP.Core.b64.qmin ≤ q) (hr : FP.Core.b64.qmin ≤ r) (h0 : k + l = 0 → (s && t) = false) :
    ∃ n : Nat, FP.Core.exactSum (.fin s c q) (.fin t d r) = .fin (decide (k + l < 0)) n (min q r) ∧ FP.Core.inUnits n (min q r) FP.Core.b64.qmin = (k + l).natAbs * 2 ^ 1050 := by
  have hP : 0 < 2 ^ 1050 := Nat.two_pow_pos 1050
  generalize 2 ^ 1050 = P at hs ht hP ⊢
  have h1 := FP.Core.inUnits_move c (e := FP.Core.b64.qmin) (r := min q r) (q := q) (by omega) (by omega)
  have h2 := FP.Core.inUnits_move d (e := FP.Core.b64.qmin) (r := min q r) (q := r) (by omega) (by omega)
  have hE : 0 < 2 ^ (min q r - FP.Core.b64.qmin).toNat := Nat.two_pow_pos _
  have hU : FP.Core.sumUnits s c q t d r (min q r) * ((2 ^ (min q r - FP.Core.b64.qmin).toNat : Nat) : Int) = (k + l) * (P : Int) := by
    unfold FP.Core.sumUnits
    rw [Int.add_mul, ← FP.Core.signed_mul, ← FP.Core.signed_mul, ← h1, ← h2, hs, ht, Int.add_mul]
  have hd : FP.Core.inUnits (FP.Core.sumUnits s c q t d r (min q r)).natAbs (min q r) FP.Core.b64.qmin = (FP.Core.sumUnits s c q t d r (min q r)).natAbs * 2 ^ (min q r - FP.Core.b64.qmin).toNat := rfl
  refine ⟨(FP.Core.sumUnits s c q t d r (min q r)).natAbs, ?_, ?_⟩
  · show FP.Core.Datum.fin (FP.Core.sumSign s t (FP.Core.sumUnits s c q t d r (min q r))) _ _ = _
    generalize FP.Core.sumUnits s c q t d r (min q r) = U at hU ⊢
    generalize 2 ^ (min q r - FP.Core.b64.qmin).toNat = V at hU hE ⊢
    have hs9 : FP.Core.sumSign s t U = decide (k + l < 0) := by
      unfold FP.Core.sumSign
      have hP2 : (0 : Int) < (P : Int) := Int.natCast_pos.mpr hP
      have hV2 : (0 : Int) < (V : Int) := Int.natCast_pos.mpr hE
      by_cases h : U = 0
      · rw [h, Int.zero_mul] at hU
        have h3 : k + l = 0 := (Int.mul_eq_zero.mp hU.symm).resolve_right (by omega)
        rw [if_pos h, h0 h3, h3]; decide
      · rw [if_neg h]
        refine decide_eq_decide.mpr ⟨fun h4 => ?_, fun h4 => ?_⟩
        · have h5 := Int.mul_neg_of_neg_of_pos h4 hV2
          rw [hU] at h5
          exact Int.lt_of_not_ge fun h6 => absurd (Int.mul_nonneg h6 (Int.le_of_lt hP2)) (by omega)
        · have h5 := Int.mul_neg_of_neg_of_pos h4 hP2
          rw [← hU] at h5
          exact Int.lt_of_not_ge fun h6 => absurd (Int.mul_nonneg h6 (Int.le_of_lt hV2)) (by omega)
    rw [hs9]
  · rw [hd]
    have h3 := congrArg Int.natAbs hU
    rw [Int.natAbs_mul, Int.natAbs_mul, Int.natAbs_natCast, Int.natAbs_natCast] at h3
    exact h3
theorem em_qge {a : UInt64} {s : Bool} {c : Nat} {q : Int} (h : FP.Core.val64 a = .fin s c q) : FP.Core.b64.qmin ≤ q := by
  have h1 := FP.Core.val64_fits a
  rw [h] at h1
  exact h1.2.1
theorem em_add {k l : Int} (hk : k.natAbs < 2 ^ 53) (hl : l.natAbs < 2 ^ 53) : FP.dadd (em k) (em l) = em (k + l) := by
  obtain ⟨c, q, h1, h2⟩ := em_val hk
  obtain ⟨d, r, h3, h4⟩ := em_val hl
  obtain ⟨n, h5, h6⟩ := em_sum (k := k) (l := l) (by rw [h2]; exact em_sgn k _) (by rw [h4]; exact em_sgn l _) (em_qge h1) (em_qge h3) (fun h => by
    rcases Int.lt_trichotomy k 0 with h9 | h9 | h9
    · rw [decide_eq_false (show ¬ l < 0 by omega), Bool.and_false]
    · rw [decide_eq_false (show ¬ l < 0 by omega), Bool.and_false]
    · rw [decide_eq_false (show ¬ k < 0 by omega), Bool.false_and])
  have hq := em_qge h1
  have hr := em_qge h3
  exact em_of (q := min q r) (by show FP.Core.val64 (FP.Core.dadd _ _) = _; rw [FP.Core.val64_dadd, h1, h3, h5]) (by omega) h6
theorem em_sub {k l : Int} (hk : k.natAbs < 2 ^ 53) (hl : l.natAbs < 2 ^ 53) : FP.dsub (em k) (em l) = em (k - l) := by
  obtain ⟨c, q, h1, h2⟩ := em_val hk
  obtain ⟨d, r, h3, h4⟩ := em_val hl
  obtain ⟨n, h5, h6⟩ := em_sum (s := decide (k < 0)) (t := !decide (l < 0)) (k := k) (l := -l) (by rw [h2]; exact em_sgn k _) (by rw [h4, FP.Core.signed_not, em_sgn, Int.neg_mul]) (em_qge h1) (em_qge h3) (fun h => by
    rw [show l = k by omega]
    cases decide (k < 0) <;> rfl)
  have hq := em_qge h1
  have hr := em_qge h3
  rw [← Int.sub_eq_add_neg] at h5 h6
  exact em_of (q := min q r) (by show FP.Core.val64 (FP.Core.dsub _ _) = _; rw [FP.Core.val64_dsub, h1, h3]; exact congrArg _ h5) (by omega) h6
theorem em_cmp {k l : Int} (hk : k.natAbs < 2 ^ 53) (hl : l.natAbs < 2 ^ 53) : FP.dcmp (em k) (em l) = some (compare k l) := by
  have hP : (0 : Int) < ((2 ^ 1050 : Nat) : Int) := Int.natCast_pos.mpr (Nat.two_pow_pos 1050)
  show FP.Core.dcmp _ _ = _
  rw [FP.Core.dcmp_zval (em_ne hk) (em_ne hl), em_zval hk, em_zval hl]
  generalize ((2 ^ 1050 : Nat) : Int) = P at hP ⊢
  refine congrArg some (FP.Core.compare_congr ⟨fun h => Int.lt_of_mul_lt_mul_right h (Int.le_of_lt hP), fun h => Int.mul_lt_mul_of_pos_right h hP⟩ ⟨fun h => Int.eq_of_mul_eq_mul_right (by omega) h, fun h => by rw [h]⟩)
/-- the same of any exponents -/
theorem em_of2 {a : UInt64} {c m : Nat} {q k : Int} (hv : FP.Core.val64 a = FP.Core.roundRatio FP.Core.b64 (decide (k < 0)) c (2 ^ m) q) (hu : c * 2 ^ (q - (-24 : Int) - m).toNat = k.natAbs * 2 ^ ((-24 : Int) + m - q).toNat) : a = em k := by
  have h : FP.Core.val64 a = FP.Core.val64 (em k) := by
    rw [hv, em_round]
    refine FP.Core.roundRatio_congr (Nat.two_pow_pos m) (by decide) ?_
    rw [Nat.mul_one]
    have e1 : (q - (-24 : Int)).toNat + ((-24 : Int) + m - q).toNat = (q - (-24 : Int) - m).toNat + (m + ((-24 : Int) - q).toNat) := by omega
    refine Nat.eq_of_mul_eq_mul_right (Nat.two_pow_pos ((-24 : Int) + m - q).toNat) ?_
    calc c * 2 ^ (q - (-24 : Int)).toNat * 2 ^ ((-24 : Int) + m - q).toNat = c * 2 ^ ((q - (-24 : Int) - m).toNat + (m + ((-24 : Int) - q).toNat)) := by rw [Nat.mul_assoc, ← Nat.pow_add, e1]
      _ = c * 2 ^ (q - (-24 : Int) - m).toNat * 2 ^ (m + ((-24 : Int) - q).toNat) := by rw [Nat.pow_add, Nat.mul_assoc]
      _ = _ := by rw [hu, Nat.pow_add]; ac_rfl
  exact FP.Core.val64_inj (by rw [hv]; exact fun e => FP.Core.roundRatio_ne_nan _ _ _ _ _ e) h
theorem em_neg {k : Int} (hk : k.natAbs < 2 ^ 53) (h0 : k ≠ 0) : FP.dneg (em k) = em (-k) := by
  obtain ⟨c, q, h1, h2⟩ := em_val hk
  have h3 : FP.Core.val64 (FP.dneg (em k)) = .fin (decide (-k < 0)) c q := by
    rw [FP.val64_dneg, h1]
    show FP.Core.Datum.fin (!decide (k < 0)) c q = _
    rw [show decide (-k < 0) = !decide (k < 0) by
      by_cases h : k < 0
      · rw [decide_eq_true h, decide_eq_false (by omega)]; rfl
      · rw [decide_eq_false h, decide_eq_true (by omega)]; rfl]
  refine em_of (q := q) (by rw [h3, ← h3]; exact (FP.Core.round_of_fits FP.Core.good_b64 (FP.Core.val64_fits _)).symm) (em_qge h1) (by rw [h2, Int.natAbs_neg])
theorem em_abs {k : Int} (hk : k.natAbs < 2 ^ 53) : em k &&& 0x7fffffffffffffff = em k.natAbs := by
  have hz : FP.dcmp (em k) 0 = some (compare k 0) := by rw [← em_zero]; exact em_cmp hk (by decide)
  rcases Int.lt_trichotomy k 0 with h | h | h
  · rw [FP.Core.abs_neg (hz.trans (congrArg some ((FP.Core.compare_lt_iff _ _).mpr h))), show ((k.natAbs : Nat) : Int) = -k by omega, ← em_neg hk (by omega)]
    exact (FP.dneg_core (em_fin hk).notNaN).symm
  · subst h; decide +kernel
  · rw [FP.Core.abs_pos (hz.trans (congrArg some ((FP.Core.compare_gt_iff _ _).mpr h))), show ((k.natAbs : Nat) : Int) = k by omega]
theorem em_i2d {w : Int32} (hw : w.toInt.natAbs < 2 ^ 29) : FP.i2d w = em (w.toInt * 2 ^ 24) := by
  refine em_of (q := 0) (c := w.toInt.natAbs) ?_ (by decide) ?_
  · show FP.Core.val64 (FP.Core.i2d w) = _
    rw [FP.Core.val64_i2d]
    unfold FP.Core.ofInt
    rw [show decide (w.toInt * 2 ^ 24 < 0) = decide (w.toInt < 0) from decide_eq_decide.mpr (by omega)]
  · unfold FP.Core.inUnits
    rw [show ((0 : Int) - FP.Core.b64.qmin).toNat = 24 + 1050 by decide, Int.natAbs_mul, Nat.pow_add, ← Nat.mul_assoc]
    rfl
theorem em_mul {m l : Int} (hm : m.natAbs < 2 ^ 29) (hl : l.natAbs < 2 ^ 53) (h0 : 0 < l) : FP.dmul (em (m * 2 ^ 24)) (em l) = em (m * l) := by
  obtain ⟨c, q, h1, h2⟩ := em_val (k := m * 2 ^ 24) (by omega)
  obtain ⟨d, r, h3, h4⟩ := em_val hl
  have hq := em_qge h1
  have hr := em_qge h3
  have hsg : (decide (m * 2 ^ 24 < 0) != decide (l < 0)) = decide (m * l < 0) := by
    rw [decide_eq_false (show ¬ l < 0 by omega), show decide (m * 2 ^ 24 < 0) = decide (m < 0) from decide_eq_decide.mpr (by omega)]
    by_cases h : m < 0
    · rw [decide_eq_true h, decide_eq_true (Int.mul_neg_of_neg_of_pos h h0)]; rfl
    · rw [decide_eq_false h, decide_eq_false (by have := Int.mul_nonneg (show 0 ≤ m by omega) (Int.le_of_lt h0); omega)]; rfl
  refine em_of2 (m := 0) (c := c * d) (q := q + r) ?_ ?_
  · show FP.Core.val64 (FP.Core.dmul _ _) = _
    rw [FP.Core.val64_dmul, h1, h3]
    show FP.Core.round FP.Core.b64 (.fin _ (c * d) (q + r)) = _
    rw [hsg]; rfl
  · unfold FP.Core.inUnits at h2 h4
    have hmm : FP.Core.b64.qmin = -1074 := by decide
    rw [hmm] at h2 h4 hq hr
    rw [Int.natAbs_mul, show ((2 : Int) ^ 24).natAbs = 2 ^ 24 by decide, Nat.mul_assoc, ← Nat.pow_add] at h2
    have h5 : c * d * 2 ^ (q + r + 2148).toNat = (m * l).natAbs * 2 ^ 2124 := by
      rw [show (q + r + 2148).toNat = (q - (-1074 : Int)).toNat + (r - (-1074 : Int)).toNat by omega, Nat.pow_add, Nat.mul_mul_mul_comm, h2, h4, Int.natAbs_mul, Nat.mul_mul_mul_comm, ← Nat.pow_add]
    generalize c * d = x at h5 ⊢
    generalize (m * l).natAbs = y at h5 ⊢
    by_cases h9 : (-24 : Int) ≤ q + r
    · rw [show ((-24 : Int) + (0 : Nat) - (q + r)).toNat = 0 by omega, Nat.pow_zero, Nat.mul_one]
      rw [show (q + r + 2148).toNat = (q + r - (-24 : Int) - (0 : Nat)).toNat + 2124 by omega, Nat.pow_add, ← Nat.mul_assoc] at h5
      exact Nat.eq_of_mul_eq_mul_right (Nat.two_pow_pos 2124) h5
    · rw [show (q + r - (-24 : Int) - (0 : Nat)).toNat = 0 by omega, Nat.pow_zero, Nat.mul_one]
      refine Nat.eq_of_mul_eq_mul_right (Nat.two_pow_pos (q + r + 2148).toNat) ?_
      rw [h5, Nat.mul_assoc, ← Nat.pow_add, show ((-24 : Int) + (0 : Nat) - (q + r)).toNat + (q + r + 2148).toNat = 2124 by omega]
theorem em_half {k : Int} (hk : (2 * k).natAbs < 2 ^ 53) : FP.ddiv (em (2 * k)) 4611686018427387904 = em k := by
  obtain ⟨c, q, h1, h2⟩ := em_val hk
  have hq := em_qge h1
  have hv2 : FP.Core.val64 4611686018427387904 = .fin false (2 ^ 52) (-51) := by decide +kernel
  refine em_of2 (m := 52) (c := c) (q := q - -51) ?_ ?_
  · show FP.Core.val64 (FP.Core.ddiv _ _) = _
    rw [FP.Core.val64_ddiv, h1, hv2]
    show (if (2 ^ 52 : Nat) = 0 then (if c = 0 then FP.Core.Datum.nan else FP.Core.Datum.inf (decide (2 * k < 0) != false)) else FP.Core.roundRatio FP.Core.b64 (decide (2 * k < 0) != false) c (2 ^ 52) (q - -51)) = _
    rw [if_neg (by decide), Bool.bne_false, show decide (2 * k < 0) = decide (k < 0) from decide_eq_decide.mpr (by omega)]
  · unfold FP.Core.inUnits at h2
    have hmm : FP.Core.b64.qmin = -1074 := by decide
    rw [hmm] at h2 hq
    rw [Int.natAbs_mul, show ((2 : Int)).natAbs = 2 ^ 1 by decide, Nat.mul_comm (2 ^ 1), Nat.mul_assoc, ← Nat.pow_add] at h2
    generalize k.natAbs = y at h2 ⊢
    by_cases h9 : (-23 : Int) ≤ q
    · rw [show ((-24 : Int) + (52 : Nat) - (q - -51)).toNat = 0 by omega, Nat.pow_zero, Nat.mul_one]
      rw [show (q - (-1074 : Int)).toNat = (q - -51 - (-24 : Int) - (52 : Nat)).toNat + 1051 by omega, Nat.pow_add, ← Nat.mul_assoc] at h2
      exact Nat.eq_of_mul_eq_mul_right (Nat.two_pow_pos 1051) h2
    · rw [show (q - -51 - (-24 : Int) - (52 : Nat)).toNat = 0 by omega, Nat.pow_zero, Nat.mul_one]
      refine Nat.eq_of_mul_eq_mul_right (Nat.two_pow_pos (q - (-1074 : Int)).toNat) ?_
      rw [h2, Nat.mul_assoc, ← Nat.pow_add, show ((-24 : Int) + (52 : Nat) - (q - -51)).toNat + (q - (-1074 : Int)).toNat = 1051 by omega]
theorem em_pickT {k l : Int} (hk : k.natAbs < 2 ^ 53) (hl : l.natAbs < 2 ^ 53) : Native.java_lang_Math.nans.pick64 true (em k) (em l) = em (max k l) := by
  unfold Native.java_lang_Math.nans.pick64
  rw [em_cmp hk hl]
  rcases Int.lt_trichotomy k l with h | h | h
  · rw [(FP.Core.compare_lt_iff k l).mpr h, Int.max_eq_right (by omega)]; rfl
  · subst h; rw [(FP.Core.compare_eq_iff k k).mpr rfl, Int.max_self]; simp
  · rw [(FP.Core.compare_gt_iff k l).mpr h, Int.max_eq_left (by omega)]; rfl
theorem em_pickF {k l : Int} (hk : k.natAbs < 2 ^ 53) (hl : l.natAbs < 2 ^ 53) : Native.java_lang_Math.nans.pick64 false (em k) (em l) = em (min k l) := by
  unfold Native.java_lang_Math.nans.pick64
  rw [em_cmp hk hl]
  rcases Int.lt_trichotomy k l with h | h | h
  · rw [(FP.Core.compare_lt_iff k l).mpr h, Int.min_eq_left (by omega)]; rfl
  · subst h; rw [(FP.Core.compare_eq_iff k k).mpr rfl, Int.min_self]; simp
  · rw [(FP.Core.compare_gt_iff k l).mpr h, Int.min_eq_right (by omega)]; rfl
theorem cv_cases (k l : Int) (op : CmpOp) : (k < l ∧ Op.cmpValue (some (compare k l)) op = -1) ∨ (k = l ∧ Op.cmpValue (some (compare k l)) op = 0) ∨ (l < k ∧ Op.cmpValue (some (compare k l)) op = 1) := by
  rcases Int.lt_trichotomy k l with h | h | h
  · exact Or.inl ⟨h, by rw [(FP.Core.compare_lt_iff k l).mpr h]; cases op <;> rfl⟩
  · exact Or.inr (Or.inl ⟨h, by rw [(FP.Core.compare_eq_iff k l).mpr h]; cases op <;> rfl⟩)
  · exact Or.inr (Or.inr ⟨h, by rw [(FP.Core.compare_gt_iff k l).mpr h]; cases op <;> rfl⟩)
theorem cv_ge (k l : Int) (op : CmpOp) : 0 ≤ Op.cmpValue (some (compare k l)) op ↔ l ≤ k := by
  rcases cv_cases k l op with ⟨h, e⟩ | ⟨h, e⟩ | ⟨h, e⟩ <;> rw [e]
  · exact ⟨fun h9 => absurd h9 (by decide), fun h9 => by omega⟩
  · exact ⟨fun _ => by omega, fun _ => by decide⟩
  · exact ⟨fun _ => by omega, fun _ => by decide⟩
theorem cv_le (k l : Int) (op : CmpOp) : Op.cmpValue (some (compare k l)) op ≤ 0 ↔ k ≤ l := by
  rcases cv_cases k l op with ⟨h, e⟩ | ⟨h, e⟩ | ⟨h, e⟩ <;> rw [e]
  · exact ⟨fun _ => by omega, fun _ => by decide⟩
  · exact ⟨fun _ => by omega, fun _ => by decide⟩
  · exact ⟨fun h9 => absurd h9 (by decide), fun h9 => by omega⟩
theorem cv_lt (k l : Int) (op : CmpOp) : Op.cmpValue (some (compare k l)) op < 0 ↔ k < l := by
  rcases cv_cases k l op with ⟨h, e⟩ | ⟨h, e⟩ | ⟨h, e⟩ <;> rw [e]
  · exact ⟨fun _ => by omega, fun _ => by decide⟩
  · exact ⟨fun h9 => absurd h9 (by decide), fun h9 => by omega⟩
  · exact ⟨fun h9 => absurd h9 (by decide), fun h9 => by omega⟩
theorem cv_gt (k l : Int) (op : CmpOp) : 0 < Op.cmpValue (some (compare k l)) op ↔ l < k := by
  rcases cv_cases k l op with ⟨h, e⟩ | ⟨h, e⟩ | ⟨h, e⟩ <;> rw [e]
  · exact ⟨fun h9 => absurd h9 (by decide), fun h9 => by omega⟩
  · exact ⟨fun h9 => absurd h9 (by decide), fun h9 => by omega⟩
  · exact ⟨fun _ => by omega, fun _ => by decide⟩
theorem cv_eq (k l : Int) (op : CmpOp) : Op.cmpValue (some (compare k l)) op = 0 ↔ k = l := by
  rcases cv_cases k l op with ⟨h, e⟩ | ⟨h, e⟩ | ⟨h, e⟩ <;> rw [e]
  · exact ⟨fun h9 => absurd h9 (by decide), fun h9 => by omega⟩
  · exact ⟨fun _ => by omega, fun _ => by decide⟩
  · exact ⟨fun h9 => absurd h9 (by decide), fun h9 => by omega⟩
theorem em_c05 : (4602678819172646912 : UInt64) = em (2 ^ 23) := by decide +kernel
theorem em_c3 : (4613937818241073152 : UInt64) = em (3 * 2 ^ 24) := by decide +kernel
theorem em_c4 : (4616189618054758400 : UInt64) = em (4 * 2 ^ 24) := by decide +kernel
theorem em_c5 : (4617315517961601024 : UInt64) = em (5 * 2 ^ 24) := by decide +kernel
theorem em_c10 : (4621819117588971520 : UInt64) = em (10 * 2 ^ 24) := by decide +kernel
theorem em_c20 : (4626322717216342016 : UInt64) = em (20 * 2 ^ 24) := by decide +kernel
theorem em_c30 : (4629137466983448576 : UInt64) = em (30 * 2 ^ 24) := by decide +kernel
theorem em_c100 : (4636737291354636288 : UInt64) = em (100 * 2 ^ 24) := by decide +kernel
theorem em_c0 : FP.dconst0 = em 0 := by decide +kernel
end FPGRID
