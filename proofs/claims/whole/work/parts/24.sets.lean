/-! ===== a put of a field is a setter of the store ===== -/
section SETS
variable {K : Cfg} {c : Nat → Nat} {A : CS} {M0 M : Mem} {k : Nat}
theorem jset0 {v : Int32} : (jfl A k).set 0 (.int v) = jfl (setJ A k 0 v) k := by simp [jfl, setJ, up2, cJ, cP]
theorem s_putJ0 {v : Int32} {f : Mem → Prop} (h : picC K c A M0 M) (hk : k < 8) (hf : ∀ M2, picC K c (setJ A k 0 v) M0 M2 → f M2) : mPut (c (16 + k)) 3 0 (.int v) f M := s_put (h.cj hk) (by show 0 < 12; decide) (by rw [jset0]; exact hf _ (c_setJ h hk))
theorem jset1 {v : Int32} : (jfl A k).set 1 (.int v) = jfl (setJ A k 1 v) k := by simp [jfl, setJ, up2, cJ, cP]
theorem s_putJ1 {v : Int32} {f : Mem → Prop} (h : picC K c A M0 M) (hk : k < 8) (hf : ∀ M2, picC K c (setJ A k 1 v) M0 M2 → f M2) : mPut (c (16 + k)) 3 1 (.int v) f M := s_put (h.cj hk) (by show 1 < 12; decide) (by rw [jset1]; exact hf _ (c_setJ h hk))
theorem jset2 {v : Int32} : (jfl A k).set 2 (.int v) = jfl (setJ A k 2 v) k := by simp [jfl, setJ, up2, cJ, cP]
theorem s_putJ2 {v : Int32} {f : Mem → Prop} (h : picC K c A M0 M) (hk : k < 8) (hf : ∀ M2, picC K c (setJ A k 2 v) M0 M2 → f M2) : mPut (c (16 + k)) 3 2 (.int v) f M := s_put (h.cj hk) (by show 2 < 12; decide) (by rw [jset2]; exact hf _ (c_setJ h hk))
theorem jset3 {v : Int32} : (jfl A k).set 3 (.int v) = jfl (setJ A k 3 v) k := by simp [jfl, setJ, up2, cJ, cP]
theorem s_putJ3 {v : Int32} {f : Mem → Prop} (h : picC K c A M0 M) (hk : k < 8) (hf : ∀ M2, picC K c (setJ A k 3 v) M0 M2 → f M2) : mPut (c (16 + k)) 3 3 (.int v) f M := s_put (h.cj hk) (by show 3 < 12; decide) (by rw [jset3]; exact hf _ (c_setJ h hk))
theorem jset4 {v : Int32} : (jfl A k).set 4 (.int v) = jfl (setJ A k 4 v) k := by simp [jfl, setJ, up2, cJ, cP]
theorem s_putJ4 {v : Int32} {f : Mem → Prop} (h : picC K c A M0 M) (hk : k < 8) (hf : ∀ M2, picC K c (setJ A k 4 v) M0 M2 → f M2) : mPut (c (16 + k)) 3 4 (.int v) f M := s_put (h.cj hk) (by show 4 < 12; decide) (by rw [jset4]; exact hf _ (c_setJ h hk))
theorem jset5 {v : Int32} : (jfl A k).set 5 (.int v) = jfl (setJ A k 5 v) k := by simp [jfl, setJ, up2, cJ, cP]
theorem s_putJ5 {v : Int32} {f : Mem → Prop} (h : picC K c A M0 M) (hk : k < 8) (hf : ∀ M2, picC K c (setJ A k 5 v) M0 M2 → f M2) : mPut (c (16 + k)) 3 5 (.int v) f M := s_put (h.cj hk) (by show 5 < 12; decide) (by rw [jset5]; exact hf _ (c_setJ h hk))
theorem jset6 {v : Int32} : (jfl A k).set 6 (.int v) = jfl (setJ A k 6 v) k := by simp [jfl, setJ, up2, cJ, cP]
theorem s_putJ6 {v : Int32} {f : Mem → Prop} (h : picC K c A M0 M) (hk : k < 8) (hf : ∀ M2, picC K c (setJ A k 6 v) M0 M2 → f M2) : mPut (c (16 + k)) 3 6 (.int v) f M := s_put (h.cj hk) (by show 6 < 12; decide) (by rw [jset6]; exact hf _ (c_setJ h hk))
theorem jset7 {v : Int32} : (jfl A k).set 7 (.int v) = jfl (setJ A k 7 v) k := by simp [jfl, setJ, up2, cJ, cP]
theorem s_putJ7 {v : Int32} {f : Mem → Prop} (h : picC K c A M0 M) (hk : k < 8) (hf : ∀ M2, picC K c (setJ A k 7 v) M0 M2 → f M2) : mPut (c (16 + k)) 3 7 (.int v) f M := s_put (h.cj hk) (by show 7 < 12; decide) (by rw [jset7]; exact hf _ (c_setJ h hk))
theorem jset10 {v : Int32} : (jfl A k).set 10 (.int v) = jfl (setJ A k 10 v) k := by simp [jfl, setJ, up2, cJ, cP]
theorem s_putJ10 {v : Int32} {f : Mem → Prop} (h : picC K c A M0 M) (hk : k < 8) (hf : ∀ M2, picC K c (setJ A k 10 v) M0 M2 → f M2) : mPut (c (16 + k)) 3 10 (.int v) f M := s_put (h.cj hk) (by show 10 < 12; decide) (by rw [jset10]; exact hf _ (c_setJ h hk))
theorem jset11 {v : Int32} : (jfl A k).set 11 (.int v) = jfl (setJ A k 11 v) k := by simp [jfl, setJ, up2, cJ, cP]
theorem s_putJ11 {v : Int32} {f : Mem → Prop} (h : picC K c A M0 M) (hk : k < 8) (hf : ∀ M2, picC K c (setJ A k 11 v) M0 M2 → f M2) : mPut (c (16 + k)) 3 11 (.int v) f M := s_put (h.cj hk) (by show 11 < 12; decide) (by rw [jset11]; exact hf _ (c_setJ h hk))
theorem jset8 {v : Int} : (jfl A k).set 8 (.double (em v)) = jfl (setP A k 8 v) k := by simp [jfl, setP, up2, cJ, cP]
theorem s_putJ8 {v : Int} {f : Mem → Prop} (h : picC K c A M0 M) (hk : k < 8) (hf : ∀ M2, picC K c (setP A k 8 v) M0 M2 → f M2) : mPut (c (16 + k)) 3 8 (.double (em v)) f M := s_put (h.cj hk) (by show 8 < 12; decide) (by rw [jset8]; exact hf _ (c_setP h hk))
theorem jset9 {v : Int} : (jfl A k).set 9 (.double (em v)) = jfl (setP A k 9 v) k := by simp [jfl, setP, up2, cJ, cP]
theorem s_putJ9 {v : Int} {f : Mem → Prop} (h : picC K c A M0 M) (hk : k < 8) (hf : ∀ M2, picC K c (setP A k 9 v) M0 M2 → f M2) : mPut (c (16 + k)) 3 9 (.double (em v)) f M := s_put (h.cj hk) (by show 9 < 12; decide) (by rw [jset9]; exact hf _ (c_setP h hk))
theorem gset0 {v : Int32} : (gfl A k).set 0 (.int v) = gfl (setG A k 0 v) k := by simp [gfl, setG, up2, cG, cW]
theorem s_putG0 {v : Int32} {f : Mem → Prop} (h : picC K c A M0 M) (hk : k < 8) (hf : ∀ M2, picC K c (setG A k 0 v) M0 M2 → f M2) : mPut (c (24 + k)) 4 0 (.int v) f M := s_put (h.cg hk) (by show 0 < 5; decide) (by rw [gset0]; exact hf _ (c_setG h hk))
theorem gset1 {v : Int32} : (gfl A k).set 1 (.int v) = gfl (setG A k 1 v) k := by simp [gfl, setG, up2, cG, cW]
theorem s_putG1 {v : Int32} {f : Mem → Prop} (h : picC K c A M0 M) (hk : k < 8) (hf : ∀ M2, picC K c (setG A k 1 v) M0 M2 → f M2) : mPut (c (24 + k)) 4 1 (.int v) f M := s_put (h.cg hk) (by show 1 < 5; decide) (by rw [gset1]; exact hf _ (c_setG h hk))
theorem gset2 {v : Int32} : (gfl A k).set 2 (.int v) = gfl (setG A k 2 v) k := by simp [gfl, setG, up2, cG, cW]
theorem s_putG2 {v : Int32} {f : Mem → Prop} (h : picC K c A M0 M) (hk : k < 8) (hf : ∀ M2, picC K c (setG A k 2 v) M0 M2 → f M2) : mPut (c (24 + k)) 4 2 (.int v) f M := s_put (h.cg hk) (by show 2 < 5; decide) (by rw [gset2]; exact hf _ (c_setG h hk))
theorem gset3 {v : Int32} : (gfl A k).set 3 (.int v) = gfl (setG A k 3 v) k := by simp [gfl, setG, up2, cG, cW]
theorem s_putG3 {v : Int32} {f : Mem → Prop} (h : picC K c A M0 M) (hk : k < 8) (hf : ∀ M2, picC K c (setG A k 3 v) M0 M2 → f M2) : mPut (c (24 + k)) 4 3 (.int v) f M := s_put (h.cg hk) (by show 3 < 5; decide) (by rw [gset3]; exact hf _ (c_setG h hk))
theorem gset4 {v : UInt32} : (gfl A k).set 4 (.float v) = gfl (setW A k v) k := by simp [gfl, setW, up1, cG, cW]
theorem s_putG4 {v : UInt32} {f : Mem → Prop} (h : picC K c A M0 M) (hk : k < 8) (hf : ∀ M2, picC K c (setW A k v) M0 M2 → f M2) : mPut (c (24 + k)) 4 4 (.float v) f M := s_put (h.cg hk) (by show 4 < 5; decide) (by rw [gset4]; exact hf _ (c_setW h hk))
theorem sset1 {v : Int32} : (sfl c A).set 1 (.int v) = sfl c (setS A 1 v) := rfl
theorem s_putS1 {v : Int32} {f : Mem → Prop} (h : picC K c A M0 M) (hf : ∀ M2, picC K c (setS A 1 v) M0 M2 → f M2) : mPut (c 0) 6 1 (.int v) f M := s_put h.c0 (by show 1 < 18; decide) (by rw [sset1]; exact hf _ (c_setS h))
theorem sset3 {v : Int32} : (sfl c A).set 3 (.int v) = sfl c (setS A 3 v) := rfl
theorem s_putS3 {v : Int32} {f : Mem → Prop} (h : picC K c A M0 M) (hf : ∀ M2, picC K c (setS A 3 v) M0 M2 → f M2) : mPut (c 0) 6 3 (.int v) f M := s_put h.c0 (by show 3 < 18; decide) (by rw [sset3]; exact hf _ (c_setS h))
theorem sset6 {v : Int32} : (sfl c A).set 6 (.int v) = sfl c (setS A 6 v) := rfl
theorem s_putS6 {v : Int32} {f : Mem → Prop} (h : picC K c A M0 M) (hf : ∀ M2, picC K c (setS A 6 v) M0 M2 → f M2) : mPut (c 0) 6 6 (.int v) f M := s_put h.c0 (by show 6 < 18; decide) (by rw [sset6]; exact hf _ (c_setS h))
theorem sset7 {v : Int32} : (sfl c A).set 7 (.int v) = sfl c (setS A 7 v) := rfl
theorem s_putS7 {v : Int32} {f : Mem → Prop} (h : picC K c A M0 M) (hf : ∀ M2, picC K c (setS A 7 v) M0 M2 → f M2) : mPut (c 0) 6 7 (.int v) f M := s_put h.c0 (by show 7 < 18; decide) (by rw [sset7]; exact hf _ (c_setS h))
theorem sset10 {v : Int32} : (sfl c A).set 10 (.int v) = sfl c (setS A 10 v) := rfl
theorem s_putS10 {v : Int32} {f : Mem → Prop} (h : picC K c A M0 M) (hf : ∀ M2, picC K c (setS A 10 v) M0 M2 → f M2) : mPut (c 0) 6 10 (.int v) f M := s_put h.c0 (by show 10 < 18; decide) (by rw [sset10]; exact hf _ (c_setS h))
theorem sset11 {v : Int32} : (sfl c A).set 11 (.int v) = sfl c (setS A 11 v) := rfl
theorem s_putS11 {v : Int32} {f : Mem → Prop} (h : picC K c A M0 M) (hf : ∀ M2, picC K c (setS A 11 v) M0 M2 → f M2) : mPut (c 0) 6 11 (.int v) f M := s_put h.c0 (by show 11 < 18; decide) (by rw [sset11]; exact hf _ (c_setS h))
theorem sset12 {v : Int32} : (sfl c A).set 12 (.int v) = sfl c (setS A 12 v) := rfl
theorem s_putS12 {v : Int32} {f : Mem → Prop} (h : picC K c A M0 M) (hf : ∀ M2, picC K c (setS A 12 v) M0 M2 → f M2) : mPut (c 0) 6 12 (.int v) f M := s_put h.c0 (by show 12 < 18; decide) (by rw [sset12]; exact hf _ (c_setS h))
theorem sset13 {v : Int32} : (sfl c A).set 13 (.int v) = sfl c (setS A 13 v) := rfl
theorem s_putS13 {v : Int32} {f : Mem → Prop} (h : picC K c A M0 M) (hf : ∀ M2, picC K c (setS A 13 v) M0 M2 → f M2) : mPut (c 0) 6 13 (.int v) f M := s_put h.c0 (by show 13 < 18; decide) (by rw [sset13]; exact hf _ (c_setS h))
theorem sset14 {v : Int32} : (sfl c A).set 14 (.int v) = sfl c (setS A 14 v) := rfl
theorem s_putS14 {v : Int32} {f : Mem → Prop} (h : picC K c A M0 M) (hf : ∀ M2, picC K c (setS A 14 v) M0 M2 → f M2) : mPut (c 0) 6 14 (.int v) f M := s_put h.c0 (by show 14 < 18; decide) (by rw [sset14]; exact hf _ (c_setS h))
theorem sset15 {v : Int32} : (sfl c A).set 15 (.int v) = sfl c (setS A 15 v) := rfl
theorem s_putS15 {v : Int32} {f : Mem → Prop} (h : picC K c A M0 M) (hf : ∀ M2, picC K c (setS A 15 v) M0 M2 → f M2) : mPut (c 0) 6 15 (.int v) f M := s_put h.c0 (by show 15 < 18; decide) (by rw [sset15]; exact hf _ (c_setS h))
theorem sset16 {v : Int32} : (sfl c A).set 16 (.int v) = sfl c (setS A 16 v) := rfl
theorem s_putS16 {v : Int32} {f : Mem → Prop} (h : picC K c A M0 M) (hf : ∀ M2, picC K c (setS A 16 v) M0 M2 → f M2) : mPut (c 0) 6 16 (.int v) f M := s_put h.c0 (by show 16 < 18; decide) (by rw [sset16]; exact hf _ (c_setS h))
theorem sset17 {v : Int32} : (sfl c A).set 17 (.int v) = sfl c (setS A 17 v) := rfl
theorem s_putS17 {v : Int32} {f : Mem → Prop} (h : picC K c A M0 M) (hf : ∀ M2, picC K c (setS A 17 v) M0 M2 → f M2) : mPut (c 0) 6 17 (.int v) f M := s_put h.c0 (by show 17 < 18; decide) (by rw [sset17]; exact hf _ (c_setS h))
theorem s_putN {v : Int32} {f : Mem → Prop} (h : picC K c A M0 M) (hf : ∀ M2, picC K c (setN A v) M0 M2 → f M2) : mPut (c 7) 1 1 (.int v) f M := s_put h.c7 (by show 1 < 2; decide) (hf _ (c_setN h))
theorem s_putL {v : Int32} {i : Nat} {f : Mem → Prop} (h : picC K c A M0 M) (hi : i < 6) (hf : ∀ M2, picC K c (setL A i v) M0 M2 → f M2) : mStI K (c 6) (Int32.ofNat i) v f M := s_stI h.c6 (i_in (by omega) hi) (by rw [i_nat (by omega)]; exact hf _ (c_setL h))
theorem s_putX {v : Int32} {i : Nat} {f : Mem → Prop} (h : picC K c A M0 M) (hi : i < 10) (hf : ∀ M2, picC K c (setX A i v) M0 M2 → f M2) : mStI K (c 4) (Int32.ofNat i) v f M := s_stI h.wd.2.1 (i_in (by omega) hi) (by rw [i_nat (by omega)]; exact hf _ (c_setX h))
theorem s_putY {v : Int32} {i : Nat} {f : Mem → Prop} (h : picC K c A M0 M) (hi : i < 10) (hf : ∀ M2, picC K c (setY A i v) M0 M2 → f M2) : mStI K (c 5) (Int32.ofNat i) v f M := s_stI h.wd.2.2 (i_in (by omega) hi) (by rw [i_nat (by omega)]; exact hf _ (c_setY h))
end SETS
