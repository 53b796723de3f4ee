/-! ===== THE LOADINGS: a weight of 50 to 130 over an area of 80 to 300 ===== -/
def ldO (w a : Int32) : UInt32 := FP.fdiv (FP.fmul (FP.i2f w) 1092616192) (FP.i2f a)
theorem n32_of {a : UInt32} (h : FP.Core.val32 a ≠ .nan) : vf_n32 a := by
  have h1 := (FP.Core.ne_nan32 a).mp h
  unfold vf_n32
  rw [UInt32.le_iff_toNat_le, FP.Core.mask_toNat32]
  exact h1
theorem n32_toNat {a : UInt32} (h : a.toNat ≤ 2139095040) : vf_n32 a := by
  refine n32_of ((FP.Core.ne_nan32 a).mpr ?_)
  rw [Nat.mod_eq_of_lt (by omega)]
  exact h
/-- a whole number above nothing: its sign and its units -/
theorem fint_pos {N : Nat} {x : UInt32} (h : FP.Core.FInt (N : Int) x) (hN : 0 < N) : ∃ (c : Nat) (q : Int), FP.Core.val32 x = .fin false c q ∧ FP.Core.b32.qmin ≤ q ∧ FP.Core.inUnits c q FP.Core.b32.qmin = N * 2 ^ 149 := by
  have hn := FP.Core.FInt_ne_nan h
  have hz := FP.Core.FInt_zval h
  have hf := FP.Core.val32_fits x
  unfold FP.Core.FInt at h
  cases hv : FP.Core.val32 x with
  | nan => exact absurd hv hn
  | inf s => rw [hv] at h; exact h.elim
  | fin s c q =>
    rw [hv] at hz hf
    have h1 : FP.Core.signed s (FP.Core.inUnits c q FP.Core.b32.qmin) = ((N * 2 ^ 149 : Nat) : Int) := by
      rw [Int.natCast_mul]; exact hz
    have h2 : 0 < N * 2 ^ 149 := Nat.mul_pos hN (Nat.two_pow_pos 149)
    obtain ⟨rfl, h3⟩ := FP.Core.signed_ge_pos h2 (by rw [h1]; exact Int.le_refl _)
    refine ⟨c, q, rfl, hf.2.1, ?_⟩
    have h4 : ((FP.Core.inUnits c q FP.Core.b32.qmin : Nat) : Int) = ((N * 2 ^ 149 : Nat) : Int) := h1
    exact Int.ofNat_inj.mp h4
theorem unitsOf_one : FP.Core.unitsOf FP.Core.b32 1065353216 = 2 ^ 149 := by decide +kernel
theorem fdiv_ge1 {x y : UInt32} {N D : Nat} (hx : FP.Core.FInt (N : Int) x) (hy : FP.Core.FInt (D : Int) y) (hD : 0 < D) (h : D ≤ N) : (∃ (c : Nat) (q : Int), FP.Core.val32 (FP.fdiv x y) = .fin false c q ∨ FP.Core.val32 (FP.fdiv x y) = .inf false) ∧ 1065353216 ≤ (FP.fdiv x y).toNat % 2 ^ 31 := by
  obtain ⟨c, q, h1, h2, h3⟩ := fint_pos hx (by omega)
  obtain ⟨d, r, h4, h5, h6⟩ := fint_pos hy hD
  have hd : 0 < d := Nat.pos_of_ne_zero fun h0 => by
    rw [h0] at h6
    unfold FP.Core.inUnits at h6
    rw [Nat.zero_mul] at h6
    have := Nat.mul_pos hD (Nat.two_pow_pos 149)
    omega
  have hv : FP.Core.val32 (FP.Core.fdiv x y) = FP.Core.roundRatio FP.Core.b32 false c d (q - r) := by
    rw [FP.Core.val32_fdiv, h1, h4]
    show (if d = 0 then _ else FP.Core.roundRatio FP.Core.b32 (false != false) c d (q - r)) = _
    rw [if_neg (by omega)]; rfl
  have hq : FP.Core.b32.qmin = -149 := by decide
  rw [hq] at h2 h5
  unfold FP.Core.inUnits at h3 h6
  rw [hq] at h3 h6
  have hm := FP.Core.mag_ge FP.Core.good_b32 (m := 1065353216) (n := (FP.Core.fdiv x y).toNat) (e0 := -149 - ((r + 149).toNat : Int)) hv hd (by rw [hq]; omega) (by omega) (by decide) (by
    rw [unitsOf_one, hq]
    unfold FP.Core.inUnits
    rw [show ((-149 : Int) - (-149 - ((r + 149).toNat : Int))).toNat = (r - (-149 : Int)).toNat by omega, show (q - r - (-149 - ((r + 149).toNat : Int))).toNat = (q - (-149 : Int)).toNat + 149 by omega, Nat.pow_add, ← Nat.mul_assoc, h3, Nat.mul_assoc, Nat.mul_comm _ d, h6]
    rw [Nat.mul_comm (2 ^ 149) (D * 2 ^ 149)]
    exact Nat.mul_le_mul_right _ (Nat.mul_le_mul_right _ h))
  rw [FP.Core.mag_toNat32] at hm
  refine ⟨?_, hm⟩
  have hs := FP.Core.sgn_roundRatio FP.Core.b32 false c d (q - r)
  have hnn := FP.Core.roundRatio_ne_nan FP.Core.b32 false c d (q - r)
  rw [← hv] at hs hnn
  show ∃ (c : Nat) (q : Int), FP.Core.val32 (FP.Core.fdiv x y) = .fin false c q ∨ FP.Core.val32 (FP.Core.fdiv x y) = .inf false
  cases hv9 : FP.Core.val32 (FP.Core.fdiv x y) with
  | nan => exact absurd hv9 hnn
  | inf s => rw [hv9] at hs; cases hs; exact ⟨0, 0, Or.inr rfl⟩
  | fin s c q => rw [hv9] at hs; cases hs; exact ⟨c, q, Or.inl rfl⟩
theorem fdiv_pos {x y : UInt32} {c d : Nat} {q r : Int} (h1 : FP.Core.val32 x = .fin false c q) (h4 : FP.Core.val32 y = .fin false d r) (hd : 0 < d) : FP.Core.val32 (FP.fdiv x y) ≠ .nan ∧ FP.Core.sgn (FP.Core.val32 (FP.fdiv x y)) = false ∧ (FP.fdiv x y).toNat < 2 ^ 31 := by
  have hv : FP.Core.val32 (FP.Core.fdiv x y) = FP.Core.roundRatio FP.Core.b32 false c d (q - r) := by
    rw [FP.Core.val32_fdiv, h1, h4]
    show (if d = 0 then _ else FP.Core.roundRatio FP.Core.b32 (false != false) c d (q - r)) = _
    rw [if_neg (by omega)]; rfl
  have hs := FP.Core.sgn_roundRatio FP.Core.b32 false c d (q - r)
  have hnn := FP.Core.roundRatio_ne_nan FP.Core.b32 false c d (q - r)
  rw [← hv] at hs hnn
  refine ⟨hnn, hs, Nat.lt_of_not_le fun h => ?_⟩
  have h9 := FP.Core.sgn_bits32 hnn
  rw [hs, decide_eq_true h] at h9
  cases h9
def LD (l : UInt32) : Prop := 1065353216 ≤ l.toNat ∧ l.toNat < 1115684864
theorem i2f_nat {w : Int32} {N : Nat} (h : w.toInt = (N : Int)) (hN : N ≤ 2 ^ 24) : FP.Core.FInt (N : Int) (FP.i2f w) := by
  rw [← h]; exact FP.Core.i2f_int (by omega)
theorem fint_ten : FP.Core.FInt ((10 : Nat) : Int) 1092616192 := by
  have h : FP.i2f 10 = 1092616192 := by decide +kernel
  rw [← h]; exact i2f_nat (N := 10) (by decide) (by decide)
theorem fint_mag {N K : Nat} {x : UInt32} (h : FP.Core.FInt (N : Int) x) (hN : 0 < N) (hK : K ≤ 255) (hK1 : 1 ≤ K) : (N * 2 ^ 149 < 2 ^ 23 * 2 ^ (K - 1) → x.toNat % 2 ^ 31 < K * 2 ^ 23) ∧ (2 ^ 23 * 2 ^ (K - 1) ≤ N * 2 ^ 149 → K * 2 ^ 23 ≤ x.toNat % 2 ^ 31) := by
  obtain ⟨c, q, h1, h2, h3⟩ := fint_pos h hN
  have hz := FP.Core.zmag_toNat32 (a := x) (by rw [h1]; exact FP.Core.Datum.noConfusion)
  rw [h1] at hz
  have hz2 : N * 2 ^ 149 = FP.Core.unitsOf FP.Core.b32 (x.toNat % 2 ^ 31) := by rw [← h3]; exact hz
  have hu := FP.Core.unitsOf_start (f := FP.Core.b32) hK1
  rw [FP.Core.tails_b32] at hu
  rw [hz2, ← hu]
  exact ⟨fun h => FP.Core.unitsOf_lt_iff.mp h, fun h => FP.Core.unitsOf_le_iff.mp h⟩
theorem ld_ok {w a : Int32} (hw1 : 50 ≤ w.toInt) (hw2 : w.toInt ≤ 130) (ha1 : 80 ≤ a.toInt) (ha2 : a.toInt ≤ 300) : vf_n32 (FP.fmul (FP.i2f w) 1092616192) ∧ LD (ldO w a) := by
  have h1 : FP.Core.FInt ((w.toInt.toNat : Nat) : Int) (FP.i2f w) := i2f_nat (by omega) (by omega)
  have h2 : FP.Core.FInt ((a.toInt.toNat : Nat) : Int) (FP.i2f a) := i2f_nat (by omega) (by omega)
  have h3 : FP.Core.FInt (((w.toInt.toNat * 10 : Nat)) : Int) (FP.fmul (FP.i2f w) 1092616192) := by
    rw [Int.natCast_mul]
    exact FP.Core.fmul_int h1 fint_ten (by omega)
  obtain ⟨-, h5⟩ := fdiv_ge1 h3 h2 (by omega) (by omega)
  obtain ⟨c, q, p1, -, -⟩ := fint_pos h3 (by omega)
  obtain ⟨d, r, p2, p4, p3⟩ := fint_pos h2 (by omega)
  have hd : 0 < d := Nat.pos_of_ne_zero fun h0 => by
    rw [h0] at p3
    unfold FP.Core.inUnits at p3
    rw [Nat.zero_mul] at p3
    have := Nat.mul_pos (show 0 < a.toInt.toNat by omega) (Nat.two_pow_pos 149)
    omega
  obtain ⟨-, -, h6⟩ := fdiv_pos p1 p2 hd
  have m1 := (fint_mag (K := 138) h3 (by omega) (by decide) (by decide)).1 (by
    refine Nat.lt_of_lt_of_le (Nat.mul_lt_mul_of_pos_right (show w.toInt.toNat * 10 < 2 ^ 11 by omega) (Nat.two_pow_pos 149)) ?_
    rw [← Nat.pow_add]; exact Nat.le_refl _)
  have m2 := (fint_mag (K := 133) h2 (by omega) (by decide) (by decide)).2 (by
    rw [← Nat.pow_add, show 23 + (133 - 1) = 6 + 149 by decide, Nat.pow_add]
    exact Nat.mul_le_mul_right _ (by omega))
  have m3 := (fint_mag (K := 255) h2 (by omega) (by decide) (by decide)).1 (by
    rw [← Nat.pow_add, show 23 + (255 - 1) = 128 + 149 by decide, Nat.pow_add]
    exact Nat.mul_lt_mul_of_pos_right (Nat.lt_of_le_of_lt (show a.toInt.toNat ≤ 2 ^ 9 by omega) (Nat.pow_lt_pow_right (by decide) (by decide))) (Nat.two_pow_pos 149))
  have m4 := FP.Core.fdiv_mag m1 m2 m3 (by decide) (by decide)
  refine ⟨n32_of (FP.Core.FInt_ne_nan h3), ?_, ?_⟩
  · rw [Nat.mod_eq_of_lt h6] at h5; exact h5
  · have m5 : (FP.fdiv (FP.fmul (FP.i2f w) 1092616192) (FP.i2f a)).toNat % 2 ^ 31 < (138 + (149 - 23 - 1) - 133 + 3) * 2 ^ 23 := m4
    rw [Nat.mod_eq_of_lt h6] at m5; exact m5
/-- what a loading is as a datum -/
theorem LD.val {l : UInt32} (h : LD l) : ∃ (c : Nat) (q : Int), FP.Core.val32 l = .fin false c q ∧ FP.Core.b32.qmin ≤ q ∧ FP.Core.inUnits c q FP.Core.b32.qmin = FP.Core.unitsOf FP.Core.b32 l.toNat := by
  have hm : l.toNat % 2 ^ 31 = l.toNat := Nat.mod_eq_of_lt (by have := h.2; omega)
  obtain ⟨s, c, q, h1⟩ := (FP.Core.fin_bits32 l).mpr (by rw [hm]; have := h.2; omega)
  have hs := FP.Core.sign_bits32 (a := l) (s := s) (Or.inl ⟨c, q, h1⟩)
  have hs2 : s = false := by
    cases s
    · rfl
    · have := hs.mp rfl; have := h.2; omega
  subst hs2
  have hf := FP.Core.val32_fits l
  rw [h1] at hf
  have hz := FP.Core.zmag_toNat32 (a := l) (by rw [h1]; exact FP.Core.Datum.noConfusion)
  rw [h1, hm] at hz
  exact ⟨c, q, h1, hf.2.1, hz⟩
theorem LD.ne {l : UInt32} (h : LD l) : FP.Core.val32 l ≠ .nan := by
  obtain ⟨c, q, h1, -⟩ := h.val
  rw [h1]; exact FP.Core.Datum.noConfusion
theorem LD.n32 {l : UInt32} (h : LD l) : vf_n32 l := n32_of h.ne
theorem LD.cmp {l l2 : UInt32} (h : LD l) (h2 : LD l2) : FP.fcmp l l2 = some (compare (l.toNat : Int) (l2.toNat : Int)) := by
  show FP.Core.fcmp l l2 = _
  rw [FP.Core.fcmp_key h.ne h2.ne]
  unfold FP.Core.fkey
  have := h.2; have := h2.2
  rw [if_neg (by omega), if_neg (by omega)]
theorem fkey_const {a : UInt32} (h : a.toNat < 2 ^ 31) : FP.Core.fkey a = (a.toNat : Int) := by
  unfold FP.Core.fkey
  rw [if_neg (by omega)]
theorem LD.cmpC {l c : UInt32} (h : LD l) (hc : c.toNat ≤ 2139095040) : FP.fcmp l c = some (compare (l.toNat : Int) (c.toNat : Int)) := by
  show FP.Core.fcmp l c = _
  rw [FP.Core.fcmp_key h.ne ((FP.Core.ne_nan32 c).mpr (by rw [Nat.mod_eq_of_lt (by omega)]; exact hc)), fkey_const (a := l) (by have := h.2; omega), fkey_const (a := c) (by omega)]
/-- eight over a loading -/
theorem LD.glide {l : UInt32} (h : LD l) : vf_n32 (FP.fdiv 1090519040 l) ∧ 0 ≤ (FP.f2i (FP.fdiv 1090519040 l)).toInt ∧ (FP.f2i (FP.fdiv 1090519040 l)).toInt ≤ 31 := by
  obtain ⟨d, r, h1, h2, h3⟩ := h.val
  have hd : 0 < d := Nat.pos_of_ne_zero fun h0 => by
    rw [h0] at h3
    unfold FP.Core.inUnits at h3
    rw [Nat.zero_mul] at h3
    have := FP.Core.unitsOf_eq_zero.mp h3.symm
    have := h.1; omega
  have h8 : FP.Core.val32 1090519040 = .fin false (2 ^ 23) (-20) := by decide +kernel
  obtain ⟨hn, hs, hlt⟩ := fdiv_pos h8 h1 hd
  have hm : l.toNat % 2 ^ 31 = l.toNat := Nat.mod_eq_of_lt (by have := h.2; omega)
  have m4 := FP.Core.fdiv_mag (a := 1090519040) (b := l) (K := 131) (L := 127) (by decide) (by rw [hm]; have := h.1; omega) (by rw [hm]; have := h.2; omega) (by decide) (by decide)
  have m5 : (FP.fdiv 1090519040 l).toNat % 2 ^ 31 < 132 * 2 ^ 23 := m4
  refine ⟨n32_of hn, ?_⟩
  have hv := FP.Core.f2i_val hn
  have hv2 : (FP.f2i (FP.fdiv 1090519040 l)).toInt = _ := hv
  rw [hs, FP.Core.zmag_toNat32 hn] at hv2
  have hu := (FP.Core.units_lt_start (f := FP.Core.b32) (m := (FP.fdiv 1090519040 l).toNat % 2 ^ 31) (K := 132) (by rw [FP.Core.tails_b32]; exact m5)).2
  have hq : FP.Core.unitsOf FP.Core.b32 ((FP.fdiv 1090519040 l).toNat % 2 ^ 31) / FP.Core.one32 < 32 := by
    refine (Nat.div_lt_iff_lt_mul FP.Core.one32_pos).mpr (Nat.lt_of_lt_of_le hu ?_)
    unfold FP.Core.one32
    rw [FP.Core.tails_b32, ← Nat.pow_add]
    show 2 ^ (5 + 149) ≤ _
    rw [Nat.pow_add]; exact Nat.le_refl _
  generalize FP.Core.unitsOf FP.Core.b32 ((FP.fdiv 1090519040 l).toNat % 2 ^ 31) / FP.Core.one32 = z at hv2 hq
  have hz : FP.Core.signed false z = (z : Int) := rfl
  rw [hz] at hv2
  rw [hv2]
  omega
/-- a loading as a double -/
theorem LD.dbl {l : UInt32} (h : LD l) : ∃ k : Int, 0 < k ∧ k < 2 ^ 29 ∧ FP.f2d l = em (2 * k) := by
  obtain ⟨c, q, h1, h2, h3⟩ := h.val
  have hE1 : 127 ≤ l.toNat / 2 ^ 23 := (Nat.le_div_iff_mul_le (by decide)).mpr (by have := h.1; omega)
  have hE2 : l.toNat / 2 ^ 23 < 133 := (Nat.div_lt_iff_lt_mul (by decide)).mpr (by have := h.2; omega)
  have ht : l.toNat % 2 ^ 23 < 2 ^ 23 := Nat.mod_lt _ (by decide)
  unfold FP.Core.unitsOf at h3
  rw [FP.Core.tails_b32, if_neg (by have := h.1; omega)] at h3
  generalize l.toNat / 2 ^ 23 = E at hE1 hE2 h3
  generalize l.toNat % 2 ^ 23 = T at ht h3
  have hp : 2 ^ (E - 127) ≤ 2 ^ 5 := Nat.pow_le_pow_right (by decide) (by omega)
  have hp0 : 0 < 2 ^ (E - 127) := Nat.two_pow_pos _
  have hk1 : 0 < (2 ^ 23 + T) * 2 ^ (E - 127) := Nat.mul_pos (by omega) hp0
  have hk2 : (2 ^ 23 + T) * 2 ^ (E - 127) < 2 ^ 29 := by
    refine Nat.lt_of_le_of_lt (Nat.mul_le_mul_left _ hp) ?_
    omega
  refine ⟨(((2 ^ 23 + T) * 2 ^ (E - 127) : Nat) : Int), by omega, by omega, ?_⟩
  have hnn : FP.Core.fIsNaN l = false := (FP.Core.notNaN_iff32 l).mpr h.ne
  have hf : FP.f2d l = FP.Core.f2d l := by
    unfold FP.f2d
    rw [if_neg (by rw [hnn]; decide)]
  have hq : FP.Core.b32.qmin = -149 := by decide
  have hq2 : FP.Core.b64.qmin = -1074 := by decide
  rw [hq] at h2 h3
  refine em_of (q := q) (c := c) ?_ (by rw [hq2]; omega) ?_
  · rw [hf, FP.Core.val64_f2d, h1, decide_eq_false (by omega)]
  · unfold FP.Core.inUnits at h3 ⊢
    rw [hq2, show (q - (-1074 : Int)).toNat = (q - (-149 : Int)).toNat + 925 by omega, Nat.pow_add, ← Nat.mul_assoc, h3, Int.natAbs_mul, Int.natAbs_natCast, show ((2 : Int)).natAbs = 2 ^ 1 by decide]
    rw [show E - 1 = (E - 127) + 126 by omega, Nat.pow_add, Nat.mul_assoc, Nat.mul_assoc, Nat.mul_assoc, ← Nat.pow_add, Nat.mul_comm (2 ^ 1), Nat.mul_assoc, Nat.mul_assoc, ← Nat.pow_add, Nat.pow_add 2 (E - 127) (126 + 925), show (126 + 925 : Nat) = 1050 + 1 from rfl, Nat.pow_add 2 1050 1]
def fwBits (lic : Int32) (l : UInt32) : UInt64 := if lic = 0 then FP.ddiv (FP.dadd 4616189618054758400 (FP.f2d l)) 4611686018427387904 else FP.dadd 4616189618054758400 (FP.f2d l)
theorem LD.fwd {l : UInt32} (h : LD l) : vf_n64 (FP.f2d l) ∧ vf_n64 (FP.dadd 4616189618054758400 (FP.f2d l)) ∧ vf_n64 (FP.ddiv (FP.dadd 4616189618054758400 (FP.f2d l)) 4611686018427387904) ∧ ∀ lic, ∃ b : Int, 0 < b ∧ b < 2 ^ 31 ∧ fwBits lic l = em b := by
  obtain ⟨k, h1, h2, h3⟩ := h.dbl
  have e1 : FP.dadd 4616189618054758400 (FP.f2d l) = em (2 * (2 * 2 ^ 24 + k)) := by
    rw [h3, em_c4, em_add (by decide) (by omega)]
    congr 1; omega
  have e2 : FP.ddiv (FP.dadd 4616189618054758400 (FP.f2d l)) 4611686018427387904 = em (2 * 2 ^ 24 + k) := by
    rw [e1, em_half (by omega)]
  refine ⟨by rw [h3]; exact em_nan (by omega), by rw [e1]; exact em_nan (by omega), by rw [e2]; exact em_nan (by omega), fun lic => ?_⟩
  unfold fwBits
  split
  · exact ⟨_, by omega, by omega, e2⟩
  · exact ⟨_, by omega, by omega, e1⟩
