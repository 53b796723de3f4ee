/-! ===== STEPS OF THE SHADOWS' WORDS ===== -/
theorem mUp_same {M : Mem} {a : Nat} {e : va_E} : mUp M a e a = some e := if_pos rfl
theorem mUp_up {M : Mem} {a : Nat} {e e2 : va_E} : mUp (mUp M a e) a e2 = mUp M a e2 := by
  funext q; unfold mUp; split <;> rfl
theorem mUp_id {M : Mem} {a : Nat} {e : va_E} (h : M a = some e) : mUp M a e = M := by
  funext q; unfold mUp; split
  · rename_i h1; rw [h1, h]
  · rfl
theorem mUp_comm {M : Mem} {a b : Nat} {e e2 : va_E} (h : a ≠ b) : mUp (mUp M a e) b e2 = mUp (mUp M b e2) a e := by
  funext q; unfold mUp
  by_cases h1 : q = b
  · rw [if_pos h1, if_neg (by omega), if_pos h1]
  · rw [if_neg h1, if_neg h1]
section STEPS
variable {K : Cfg} {M : Mem} {a b ci j n : Nat} {fs : List Value} {i : Int32}
theorem s_recv {k : Mem → Prop} (h : M b = some (.inr (ci, fs))) (hk : k M) : mRecv b ci k M := ⟨⟨fs, h⟩, hk⟩
theorem s_getI {x : Int32} {k : Int32 → Mem → Prop} (h : M a = some (.inr (ci, fs))) (hj : fs[j]? = some (.int x)) (hk : k x M) : mGetI a ci j k M := ⟨fs, x, h, hj, hk⟩
theorem s_getF {x : UInt32} {k : UInt32 → Mem → Prop} (h : M a = some (.inr (ci, fs))) (hj : fs[j]? = some (.float x)) (hk : k x M) : mGetF a ci j k M := ⟨fs, x, h, hj, hk⟩
theorem s_getD {x : UInt64} {k : UInt64 → Mem → Prop} (h : M a = some (.inr (ci, fs))) (hj : fs[j]? = some (.double x)) (hk : k x M) : mGetD a ci j k M := ⟨fs, x, h, hj, hk⟩
theorem s_getR {x : Nat} {k : Nat → Mem → Prop} (h : M a = some (.inr (ci, fs))) (hj : fs[j]? = some (.ref x)) (hk : k x M) : mGetR a ci j k M := ⟨fs, x, h, hj, hk⟩
theorem s_put {v : Value} {k : Mem → Prop} (h : M a = some (.inr (ci, fs))) (hj : j < fs.length) (hk : k (mUp M a (.inr (ci, fs.set j v)))) : mPut a ci j v k M := ⟨fs, h, hj, hk⟩
theorem s_putZ {x : Int32} {k : Mem → Prop} (hx : x = 0 ∨ x = 1) (h : M a = some (.inr (ci, fs))) (hj : j < fs.length) (hk : k (mUp M a (.inr (ci, fs.set j (.int x))))) : mPutZ a ci j x k M := ⟨hx, fs, h, hj, hk⟩
theorem u_getI {x : Int32} {k : Int32 → Mem → Prop} (hj : fs[j]? = some (.int x)) (hk : k x (mUp M a (.inr (ci, fs)))) : mGetI a ci j k (mUp M a (.inr (ci, fs))) := s_getI mUp_same hj hk
theorem u_getF {x : UInt32} {k : UInt32 → Mem → Prop} (hj : fs[j]? = some (.float x)) (hk : k x (mUp M a (.inr (ci, fs)))) : mGetF a ci j k (mUp M a (.inr (ci, fs))) := s_getF mUp_same hj hk
theorem u_getD {x : UInt64} {k : UInt64 → Mem → Prop} (hj : fs[j]? = some (.double x)) (hk : k x (mUp M a (.inr (ci, fs)))) : mGetD a ci j k (mUp M a (.inr (ci, fs))) := s_getD mUp_same hj hk
theorem u_getR {x : Nat} {k : Nat → Mem → Prop} (hj : fs[j]? = some (.ref x)) (hk : k x (mUp M a (.inr (ci, fs)))) : mGetR a ci j k (mUp M a (.inr (ci, fs))) := s_getR mUp_same hj hk
theorem u_recv {k : Mem → Prop} (hk : k (mUp M a (.inr (ci, fs)))) : mRecv a ci k (mUp M a (.inr (ci, fs))) := s_recv mUp_same hk
theorem u_put {v : Value} {k : Mem → Prop} (hj : j < fs.length) (hk : k (mUp M a (.inr (ci, fs.set j v)))) : mPut a ci j v k (mUp M a (.inr (ci, fs))) := s_put mUp_same hj (by rw [mUp_up]; exact hk)
theorem u_putZ {x : Int32} {k : Mem → Prop} (hx : x = 0 ∨ x = 1) (hj : j < fs.length) (hk : k (mUp M a (.inr (ci, fs.set j (.int x))))) : mPutZ a ci j x k (mUp M a (.inr (ci, fs))) := ⟨hx, u_put hj hk⟩
theorem s_ldI {f : Nat → Int32} {k : Int32 → Mem → Prop} (h : M a = some (.inl (K.2.1 0, n, .inl f))) (hi : vp_in i n) (hk : k (f i.toNatClampNeg) M) : mLdI K a i k M := ⟨n, f, h, hi, hk⟩
theorem s_ldL {f : Nat → Int64} {k : Int64 → Mem → Prop} (h : M a = some (.inl (K.2.1 1, n, .inr (.inl f)))) (hi : vp_in i n) (hk : k (f i.toNatClampNeg) M) : mLdL K a i k M := ⟨n, f, h, hi, hk⟩
theorem s_ldD {f : Nat → UInt64} {k : UInt64 → Mem → Prop} (h : M a = some (.inl (K.2.1 2, n, .inr (.inr (.inr (.inl f)))))) (hi : vp_in i n) (hk : k (f i.toNatClampNeg) M) : mLdD K a i k M := ⟨n, f, h, hi, hk⟩
theorem s_ldZ {f : Nat → Int32} {k : Int32 → Mem → Prop} (h : M a = some (.inl (K.2.1 3, n, .inl f))) (hi : vp_in i n) (hk : k (f i.toNatClampNeg) M) : mLdZ K a i k M := ⟨n, f, h, hi, hk⟩
theorem s_ldQ {t : Nat} {f : Nat → Option Nat} {k : Nat → Mem → Prop} (h : M a = some (.inl (K.2.1 t, n, .inr (.inr (.inr (.inr f)))))) (hi : vp_in i n) (hf : f i.toNatClampNeg = some b) (hk : k b M) : mLdQ K t a i k M := ⟨n, f, b, h, hi, hf, hk⟩
theorem s_stI {f : Nat → Int32} {x : Int32} {k : Mem → Prop} (h : M a = some (.inl (K.2.1 0, n, .inl f))) (hi : vp_in i n) (hk : k (mUp M a (.inl (K.2.1 0, n, .inl (upd f i.toNatClampNeg x))))) : mStI K a i x k M := ⟨n, f, h, hi, hk⟩
theorem s_if {c : Prop} [Decidable c] {A B : Mem → Prop} (ht : c → A M) (hf : ¬ c → B M) : mIf c A B M := by
  unfold mIf; split
  · exact ht (by assumption)
  · exact hf (by assumption)
theorem s_ifT {c : Prop} [Decidable c] {A B : Mem → Prop} (hc : c) (h : A M) : mIf c A B M := by unfold mIf; rw [if_pos hc]; exact h
theorem s_ifF {c : Prop} [Decidable c] {A B : Mem → Prop} (hc : ¬ c) (h : B M) : mIf c A B M := by unfold mIf; rw [if_neg hc]; exact h
theorem s_as {c : Prop} {k : Mem → Prop} (hc : c) (h : k M) : mAs c k M := ⟨hc, h⟩
end STEPS
/-! small ints -/
theorem i_toInt {a : Nat} (h : a < 2 ^ 31) : (Int32.ofNat a).toInt = (a : Int) := Int32.toInt_ofNat_of_lt h
theorem i_le {a b : Nat} (ha : a < 2 ^ 31) (hb : b < 2 ^ 31) : Int32.ofNat a ≤ Int32.ofNat b ↔ a ≤ b := by
  rw [Int32.le_iff_toInt_le, i_toInt ha, i_toInt hb]; omega
theorem i_lt {a b : Nat} (ha : a < 2 ^ 31) (hb : b < 2 ^ 31) : Int32.ofNat a < Int32.ofNat b ↔ a < b := by
  rw [Int32.lt_iff_toInt_lt, i_toInt ha, i_toInt hb]; omega
theorem i_eq {a b : Nat} (ha : a < 2 ^ 31) (hb : b < 2 ^ 31) : Int32.ofNat a = Int32.ofNat b ↔ a = b := by
  rw [← Int32.toInt_inj, i_toInt ha, i_toInt hb]; omega
theorem i_nat {a : Nat} (ha : a < 2 ^ 31) : (Int32.ofNat a).toNatClampNeg = a := by
  show (Int32.ofNat a).toInt.toNat = a
  rw [i_toInt ha]; rfl
theorem i_in {a n : Nat} (ha : a < 2 ^ 31) (h : a < n) : vp_in (Int32.ofNat a) n := by
  unfold vp_in
  rw [i_nat ha, Int32.lt_iff_toInt_lt, i_toInt ha]
  show ¬ ((a : Int) < 0 ∨ n ≤ a)
  omega
theorem i_succ {a : Nat} : Int32.ofNat a + 1 = Int32.ofNat (a + 1) := (Int32.ofNat_add a 1).symm
theorem i_neg {a : Nat} (ha : a < 2 ^ 31) : ¬ Int32.ofNat a < 0 := by
  rw [Int32.lt_iff_toInt_lt, i_toInt ha]; show ¬ (a : Int) < 0; omega
theorem i_add {a b : Int32} (h1 : -2147483648 ≤ a.toInt + b.toInt) (h2 : a.toInt + b.toInt < 2147483648) : (a + b).toInt = a.toInt + b.toInt := by
  rw [Int32.toInt_add]
  exact Int.bmod_eq_of_le (by omega) (by omega)
theorem i_sub {a b : Int32} (h1 : -2147483648 ≤ a.toInt - b.toInt) (h2 : a.toInt - b.toInt < 2147483648) : (a - b).toInt = a.toInt - b.toInt := by
  rw [Int32.toInt_sub]
  exact Int.bmod_eq_of_le (by omega) (by omega)
theorem i_mul {a b : Int32} (h1 : -2147483648 ≤ a.toInt * b.toInt) (h2 : a.toInt * b.toInt < 2147483648) : (a * b).toInt = a.toInt * b.toInt := by
  rw [Int32.toInt_mul]
  exact Int.bmod_eq_of_le (by omega) (by omega)
