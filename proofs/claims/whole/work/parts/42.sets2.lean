/-! ===== a put of the reference's field is a setter of the store ===== -/
section SETS2
variable {K : Cfg} {r : Nat → Nat} {nJ nR : Nat} {A : CS} {T : RT} {M0 M : Mem} {k : Nat}
theorem rjset2 {v : Int32} : (rjf A T k).set 2 (.int v) = rjf (setJ A k 2 v) T k := by simp [rjf, setJ, up2, cJ, cP]
theorem q_putJ2 {v : Int32} {f : Mem → Prop} (h : picR K r nJ nR A T M0 M) (hk : k < nJ) (hf : ∀ M2, picR K r nJ nR (setJ A k 2 v) T M0 M2 → f M2) : mPut (r (16 + k)) 8 2 (.int v) f M := s_put (h.rj hk) (by show 2 < 12; decide) (by rw [rjset2]; exact hf _ (r_setJ h hk))
theorem rjset3 {v : Int32} : (rjf A T k).set 3 (.int v) = rjf (setJ A k 3 v) T k := by simp [rjf, setJ, up2, cJ, cP]
theorem q_putJ3 {v : Int32} {f : Mem → Prop} (h : picR K r nJ nR A T M0 M) (hk : k < nJ) (hf : ∀ M2, picR K r nJ nR (setJ A k 3 v) T M0 M2 → f M2) : mPut (r (16 + k)) 8 3 (.int v) f M := s_put (h.rj hk) (by show 3 < 12; decide) (by rw [rjset3]; exact hf _ (r_setJ h hk))
theorem rjset4 {v : Int32} : (rjf A T k).set 4 (.int v) = rjf (setJ A k 4 v) T k := by simp [rjf, setJ, up2, cJ, cP]
theorem q_putJ4 {v : Int32} {f : Mem → Prop} (h : picR K r nJ nR A T M0 M) (hk : k < nJ) (hf : ∀ M2, picR K r nJ nR (setJ A k 4 v) T M0 M2 → f M2) : mPut (r (16 + k)) 8 4 (.int v) f M := s_put (h.rj hk) (by show 4 < 12; decide) (by rw [rjset4]; exact hf _ (r_setJ h hk))
theorem rjset5 {v : Int32} : (rjf A T k).set 5 (.int v) = rjf (setJ A k 5 v) T k := by simp [rjf, setJ, up2, cJ, cP]
theorem q_putJ5 {v : Int32} {f : Mem → Prop} (h : picR K r nJ nR A T M0 M) (hk : k < nJ) (hf : ∀ M2, picR K r nJ nR (setJ A k 5 v) T M0 M2 → f M2) : mPut (r (16 + k)) 8 5 (.int v) f M := s_put (h.rj hk) (by show 5 < 12; decide) (by rw [rjset5]; exact hf _ (r_setJ h hk))
theorem rjset6 {v : Int32} : (rjf A T k).set 6 (.int v) = rjf (setJ A k 6 v) T k := by simp [rjf, setJ, up2, cJ, cP]
theorem q_putJ6 {v : Int32} {f : Mem → Prop} (h : picR K r nJ nR A T M0 M) (hk : k < nJ) (hf : ∀ M2, picR K r nJ nR (setJ A k 6 v) T M0 M2 → f M2) : mPut (r (16 + k)) 8 6 (.int v) f M := s_put (h.rj hk) (by show 6 < 12; decide) (by rw [rjset6]; exact hf _ (r_setJ h hk))
theorem rjset7 {v : Int32} : (rjf A T k).set 7 (.int v) = rjf (setJ A k 7 v) T k := by simp [rjf, setJ, up2, cJ, cP]
theorem q_putJ7 {v : Int32} {f : Mem → Prop} (h : picR K r nJ nR A T M0 M) (hk : k < nJ) (hf : ∀ M2, picR K r nJ nR (setJ A k 7 v) T M0 M2 → f M2) : mPut (r (16 + k)) 8 7 (.int v) f M := s_put (h.rj hk) (by show 7 < 12; decide) (by rw [rjset7]; exact hf _ (r_setJ h hk))
theorem rjset8 {v : Int} : (rjf A T k).set 8 (.double (em v)) = rjf (setP A k 8 v) T k := by simp [rjf, setP, up2, cJ, cP]
theorem q_putJ8 {v : Int} {f : Mem → Prop} (h : picR K r nJ nR A T M0 M) (hk : k < nJ) (hf : ∀ M2, picR K r nJ nR (setP A k 8 v) T M0 M2 → f M2) : mPut (r (16 + k)) 8 8 (.double (em v)) f M := s_put (h.rj hk) (by show 8 < 12; decide) (by rw [rjset8]; exact hf _ (r_setP h hk))
theorem rjset9 {v : Int} : (rjf A T k).set 9 (.double (em v)) = rjf (setP A k 9 v) T k := by simp [rjf, setP, up2, cJ, cP]
theorem q_putJ9 {v : Int} {f : Mem → Prop} (h : picR K r nJ nR A T M0 M) (hk : k < nJ) (hf : ∀ M2, picR K r nJ nR (setP A k 9 v) T M0 M2 → f M2) : mPut (r (16 + k)) 8 9 (.double (em v)) f M := s_put (h.rj hk) (by show 9 < 12; decide) (by rw [rjset9]; exact hf _ (r_setP h hk))
theorem rjset10 {v : Int32} : (rjf A T k).set 10 (.int v) = rjf A (setSt T k v) k := by simp [rjf, setSt, up1, tS, tO]
theorem q_putJ10 {v : Int32} {f : Mem → Prop} (h : picR K r nJ nR A T M0 M) (hk : k < nJ) (hf : ∀ M2, picR K r nJ nR A (setSt T k v) M0 M2 → f M2) : mPut (r (16 + k)) 8 10 (.int v) f M := s_put (h.rj hk) (by show 10 < 12; decide) (by rw [rjset10]; exact hf _ (r_setSt h hk))
theorem rjset11 {v : Int32} : (rjf A T k).set 11 (.int v) = rjf A (setOp T k v) k := by simp [rjf, setOp, up1, tS, tO]
theorem q_putJ11 {v : Int32} {f : Mem → Prop} (h : picR K r nJ nR A T M0 M) (hk : k < nJ) (hf : ∀ M2, picR K r nJ nR A (setOp T k v) M0 M2 → f M2) : mPut (r (16 + k)) 8 11 (.int v) f M := s_put (h.rj hk) (by show 11 < 12; decide) (by rw [rjset11]; exact hf _ (r_setOp h hk))
theorem q_putG1 {v : Int32} {f : Mem → Prop} (h : picR K r nJ nR A T M0 M) (hk : k < nR) (hf : ∀ M2, picR K r nJ nR (setG A k 1 v) T M0 M2 → f M2) : mPut (r (24 + k)) 9 1 (.int v) f M := s_put (h.rg hk) (by show 1 < 5; decide) (by rw [gset1]; exact hf _ (r_setG h hk))
theorem q_putG2 {v : Int32} {f : Mem → Prop} (h : picR K r nJ nR A T M0 M) (hk : k < nR) (hf : ∀ M2, picR K r nJ nR (setG A k 2 v) T M0 M2 → f M2) : mPut (r (24 + k)) 9 2 (.int v) f M := s_put (h.rg hk) (by show 2 < 5; decide) (by rw [gset2]; exact hf _ (r_setG h hk))
theorem q_putG3 {v : Int32} {f : Mem → Prop} (h : picR K r nJ nR A T M0 M) (hk : k < nR) (hf : ∀ M2, picR K r nJ nR (setG A k 3 v) T M0 M2 → f M2) : mPut (r (24 + k)) 9 3 (.int v) f M := s_put (h.rg hk) (by show 3 < 5; decide) (by rw [gset3]; exact hf _ (r_setG h hk))
theorem q_putG4 {v : UInt32} {f : Mem → Prop} (h : picR K r nJ nR A T M0 M) (hk : k < nR) (hf : ∀ M2, picR K r nJ nR (setW A k v) T M0 M2 → f M2) : mPut (r (24 + k)) 9 4 (.float v) f M := s_put (h.rg hk) (by show 4 < 5; decide) (by rw [gset4]; exact hf _ (r_setW h hk))
theorem q_putM5 {v : Int32} {f : Mem → Prop} (h : picR K r nJ nR A T M0 M) (hf : ∀ M2, picR K r nJ nR (setS A 10 v) T M0 M2 → f M2) : mPut (r 0) 10 5 (.int v) f M := s_put h.r0 (by show 5 < 14; decide) (hf _ (r_setS h))
theorem q_putM6 {v : Int32} {f : Mem → Prop} (h : picR K r nJ nR A T M0 M) (hf : ∀ M2, picR K r nJ nR (setS A 11 v) T M0 M2 → f M2) : mPut (r 0) 10 6 (.int v) f M := s_put h.r0 (by show 6 < 14; decide) (hf _ (r_setS h))
theorem q_putM7 {v : Int32} {f : Mem → Prop} (h : picR K r nJ nR A T M0 M) (hf : ∀ M2, picR K r nJ nR (setS A 12 v) T M0 M2 → f M2) : mPut (r 0) 10 7 (.int v) f M := s_put h.r0 (by show 7 < 14; decide) (hf _ (r_setS h))
theorem q_putM8 {v : Int32} {f : Mem → Prop} (h : picR K r nJ nR A T M0 M) (hf : ∀ M2, picR K r nJ nR (setS A 13 v) T M0 M2 → f M2) : mPut (r 0) 10 8 (.int v) f M := s_put h.r0 (by show 8 < 14; decide) (hf _ (r_setS h))
theorem q_putM9 {v : Int32} {f : Mem → Prop} (h : picR K r nJ nR A T M0 M) (hf : ∀ M2, picR K r nJ nR (setS A 14 v) T M0 M2 → f M2) : mPut (r 0) 10 9 (.int v) f M := s_put h.r0 (by show 9 < 14; decide) (hf _ (r_setS h))
theorem q_putM10 {v : Int32} {f : Mem → Prop} (h : picR K r nJ nR A T M0 M) (hf : ∀ M2, picR K r nJ nR (setS A 15 v) T M0 M2 → f M2) : mPut (r 0) 10 10 (.int v) f M := s_put h.r0 (by show 10 < 14; decide) (hf _ (r_setS h))
theorem q_putM11 {v : Int32} {f : Mem → Prop} (h : picR K r nJ nR A T M0 M) (hf : ∀ M2, picR K r nJ nR (setS A 16 v) T M0 M2 → f M2) : mPut (r 0) 10 11 (.int v) f M := s_put h.r0 (by show 11 < 14; decide) (hf _ (r_setS h))
theorem q_putM12 {v : Int32} {f : Mem → Prop} (h : picR K r nJ nR A T M0 M) (hf : ∀ M2, picR K r nJ nR (setS A 7 v) T M0 M2 → f M2) : mPut (r 0) 10 12 (.int v) f M := s_put h.r0 (by show 12 < 14; decide) (hf _ (r_setS h))
theorem q_putM13 {v : Int32} {f : Mem → Prop} (h : picR K r nJ nR A T M0 M) (hf : ∀ M2, picR K r nJ nR (setS A 17 v) T M0 M2 → f M2) : mPut (r 0) 10 13 (.int v) f M := s_put h.r0 (by show 13 < 14; decide) (hf _ (r_setS h))
theorem q_putM0 {v : Int32} {f : Mem → Prop} (h : picR K r nJ nR A T M0 M) (hf : ∀ M2, picR K r nJ nR A (setTh T v) M0 M2 → f M2) : mPut (r 0) 10 0 (.int v) f M := s_put h.r0 (by show 0 < 14; decide) (hf _ (r_setTh h))
theorem q_putX {v : Int32} {i : Nat} {f : Mem → Prop} (h : picR K r nJ nR A T M0 M) (hi : i < 10) (hf : ∀ M2, picR K r nJ nR (setX A i v) T M0 M2 → f M2) : mStI K (r 3) (Int32.ofNat i) v f M := s_stI h.r3 (i_in (by omega) hi) (by rw [i_nat (by omega)]; exact hf _ (r_setX h))
theorem q_putY {v : Int32} {i : Nat} {f : Mem → Prop} (h : picR K r nJ nR A T M0 M) (hi : i < 10) (hf : ∀ M2, picR K r nJ nR (setY A i v) T M0 M2 → f M2) : mStI K (r 4) (Int32.ofNat i) v f M := s_stI h.r4 (i_in (by omega) hi) (by rw [i_nat (by omega)]; exact hf _ (r_setY h))
end SETS2
