/-! ===== THE LOADINGS: a weight of 50 to 130 over an area of 80 to 300 ===== -/
def ldO (w a : Int32) : UInt32 := FP.fdiv (FP.fmul (FP.i2f w) 1092616192) (FP.i2f a)
theorem n32_of {a : UInt32} (h : FP.Core.val32 a ≠ .nan) : vf_n32 a := by
  have h1 := (FP.Core.ne_nan32 a).mp h
  unfold vf_n32
  rw [UInt32.le_iff_toNat_le, FP.Core.mask_toNat32]
  exact h1
theorem n32_toNat {a : UInt32} (h : a.toNat ≤ 2139095040) : vf_n32 a := by
  refine n32_of ((FP.Core.ne_nan32 a).mpr ?_)
  rw [Nat.mod_eq_of_lt (by omega)]
  exact h
/-- a whole number above nothing: its sign and its units -/
theorem fint_pos {N : Nat} {x : UInt32} (h : FP.Core.FInt (N : Int) x) (hN : 0 < N) : ∃ (c : Nat) (q : Int), FP.Core.val32 x = .fin false c q ∧ FP.Core.b32.qmin ≤ q ∧ FP.Core.inUnits c q FP.Core.b32.qmin = N * 2 ^ 149 := by
  have hn := FP.Core.FInt_ne_nan h
  have hz := FP.Core.FInt_zval h
  have hf := FP.Core.val32_fits x
  unfold FP.Core.FInt at h
  cases hv : FP.Core.val32 x with
  | nan => exact absurd hv hn
  | inf s => rw [hv] at h; exact h.elim
  | fin s c q =>
    rw [hv] at hz hf
    have h1 : FP.Core.signed s (FP.Core.inUnits c q FP.Core.b32.qmin) = ((N * 2 ^ 149 : Nat) : Int) := by
      rw [Int.natCast_mul]; exact hz
    have h2 : 0 < N * 2 ^ 149 := Nat.mul_pos hN (Nat.two_pow_pos 149)
    obtain ⟨rfl, h3⟩ := FP.Core.signed_ge_pos h2 (by rw [h1]; exact Int.le_refl _)
    refine ⟨c, q, rfl, hf.2.1, ?_⟩
    have h4 : ((FP.Core.inUnits c q FP.Core.b32.qmin : Nat) : Int) = ((N * 2 ^ 149 : Nat) : Int) := h1
    exact Int.ofNat_inj.mp h4
theorem unitsOf_one : FP.Core.unitsOf FP.Core.b32 1065353216 = 2 ^ 149 := by decide +kernel
theorem fdiv_ge1 {x y : UInt32} {N D : Nat} (hx : FP.Core.FInt (N : Int) x) (hy : FP.Core.FInt (D : Int) y) (hD : 0 < D) (h : D ≤ N) : (∃ (c : Nat) (q : Int), FP.Core.val32 (FP.fdiv x y) = .fin false c q ∨ FP.Core.val32 (FP.fdiv x y) = .inf false) ∧ 1065353216 ≤ (FP.fdiv x y).toNat % 2 ^ 31 := by
  obtain ⟨c, q, h1, h2, h3⟩ := fint_pos hx (by omega)
  obtain ⟨d, r, h4, h5, h6⟩ := fint_pos hy hD
  have hd : 0 < d := Nat.pos_of_ne_zero fun h0 => by
    rw [h0] at h6
    unfold FP.Core.inUnits at h6
    rw [Nat.zero_mul] at h6
    have := Nat.mul_pos hD (Nat.two_pow_pos 149)
    omega
  have hv : FP.Core.val32 (FP.Core.fdiv x y) = FP.Core.roundRatio FP.Core.b32 false c d (q - r) := by
    rw [FP.Core.val32_fdiv, h1, h4]
    show (if d = 0 then _ else FP.Core.roundRatio FP.Core.b32 (false != false) c d (q - r)) = _
    rw [if_neg (by omega)]; rfl
  have hq : FP.Core.b32.qmin = -149 := by decide
  rw [hq] at h2 h5
  unfold FP.Core.inUnits at h3 h6
  rw [hq] at h3 h6
  have hm := FP.Core.mag_ge FP.Core.good_b32 (m := 1065353216) (n := (FP.Core.fdiv x y).toNat) (e0 := -149 - ((r + 149).toNat : Int)) hv hd (by rw [hq]; omega) (by omega) (by decide) (by
    rw [unitsOf_one, hq]
    unfold FP.Core.inUnits
    rw [show ((-149 : Int) - (-149 - ((r + 149).toNat : Int))).toNat = (r - (-149 : Int)).toNat by omega, show (q - r - (-149 - ((r + 149).toNat : Int))).toNat = (q - (-149 : Int)).toNat + 149 by omega, Nat.pow_add, ← Nat.mul_assoc, h3, Nat.mul_assoc, Nat.mul_comm _ d, h6]
    rw [Nat.mul_comm (2 ^ 149) (D * 2 ^ 149)]
    exact Nat.mul_le_mul_right _ (Nat.mul_le_mul_right _ h))
  rw [FP.Core.mag_toNat32] at hm
  refine ⟨?_, hm⟩
  have hs := FP.Core.sgn_roundRatio FP.Core.b32 false c d (q - r)
  have hnn := FP.Core.roundRatio_ne_nan FP.Core.b32 false c d (q - r)
  rw [← hv] at hs hnn
  show ∃ (c : Nat) (q : Int), FP.Core.val32 (FP.Core.fdiv x y) = .fin false c q ∨ FP.Core.val32 (FP.Core.fdiv x y) = .inf false
  cases hv9 : FP.Core.val32 (FP.Core.fdiv x y) with
  | nan => exact absurd hv9 hnn
  | inf s => rw [hv9] at hs; cases hs; exact ⟨0, 0, Or.inr rfl⟩
  | fin s c q => rw [hv9] at hs; cases hs; exact ⟨c, q, Or.inl rfl⟩
