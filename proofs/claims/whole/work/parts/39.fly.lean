/-! ===== THE CLASS: troubles are drawn; one settles; a flight ===== -/
/-- wear: n sixteenths -/
def wf (n : Nat) : UInt32 := FP.fdiv (FP.i2f (Int32.ofNat n)) 1098907648
def wfP (n : Nat) : Bool := decide (FP.fadd (wf n) 1031798784 = wf (n + 1)) && decide (FP.fadd (wf n) 1048576000 = wf (n + 4)) && decide (wf n &&& 0x7fffffff ≤ 0x7f800000) && decide (FP.fmul (wf n) FP.fconst2 &&& 0x7fffffff ≤ 0x7f800000) && decide (FP.f2d (wf n) &&& 0x7fffffffffffffff ≤ 0x7ff0000000000000) && decide (FP.dmul 4634204016564240384 (FP.f2d (wf n)) &&& 0x7fffffffffffffff ≤ 0x7ff0000000000000) && decide (FP.fmul 1115684864 (wf n) &&& 0x7fffffff ≤ 0x7f800000) && decide (FP.d2l (FP.dmul 4634204016564240384 (FP.f2d (wf n))) = FP.f2l (FP.fmul 1115684864 (wf n))) && decide (FP.dcmp (FP.f2d (wf n)) (FP.f2d (wf n)) = some .eq)
def allB (f : Nat → Bool) : Nat → Nat → Bool
  | 0 => fun _ => true
  | d + 1 => fun i => f i && allB f d (i + 1)
theorem allB_of {f : Nat → Bool} : ∀ d i, allB f d i = true → ∀ j, i ≤ j → j < i + d → f j = true := by
  intro d
  induction d with
  | zero => intro i _ j h1 h2; omega
  | succ d ih =>
    intro i h j h1 h2
    have h3 : (f i && allB f d (i + 1)) = true := h
    rw [Bool.and_eq_true] at h3
    by_cases hj : j = i
    · rw [hj]; exact h3.1
    · exact ih (i + 1) h3.2 j (by omega) (by omega)
set_option maxRecDepth 100000 in
theorem wf_0 : allB wfP 512 0 = true := by decide +kernel
set_option maxRecDepth 100000 in
theorem wf_1 : allB wfP 512 512 = true := by decide +kernel
set_option maxRecDepth 100000 in
theorem wf_2 : allB wfP 512 1024 = true := by decide +kernel
set_option maxRecDepth 100000 in
theorem wf_3 : allB wfP 512 1536 = true := by decide +kernel
theorem wf_4 : allB wfP 5 2048 = true := by decide +kernel
theorem wf_all : ∀ n, n ≤ 2052 → wfP n = true := by
  intro n hn
  by_cases h1 : n < 512
  · exact allB_of 512 0 wf_0 n (by omega) (by omega)
  by_cases h2 : n < 1024
  · exact allB_of 512 512 wf_1 n (by omega) (by omega)
  by_cases h3 : n < 1536
  · exact allB_of 512 1024 wf_2 n (by omega) (by omega)
  by_cases h4 : n < 2048
  · exact allB_of 512 1536 wf_3 n (by omega) (by omega)
  exact allB_of 5 2048 wf_4 n (by omega) (by omega)
