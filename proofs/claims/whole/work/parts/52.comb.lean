/-! ===== sums over pairs; bits ===== -/
theorem sumN_head (f : Nat → Nat) : ∀ d, sumN f (d + 1) = f 0 + sumN (fun i => f (i + 1)) d := by
  intro d
  induction d with
  | zero => show 0 + f 0 = f 0 + 0; omega
  | succ d ih =>
    show sumN f (d + 1) + f (d + 1) = f 0 + (sumN (fun i => f (i + 1)) d + f (d + 1))
    rw [ih]; omega
theorem bit_or (m j q : Nat) : Nat.testBit (m ||| 2 ^ j) q = (Nat.testBit m q || decide (j = q)) := by
  rw [Nat.testBit_or, Nat.testBit_two_pow]
theorem rowM_bit {near : Nat → Bool} : ∀ (d j m q : Nat), Nat.testBit (rowM near d j m) q = (Nat.testBit m q || (decide (j ≤ q ∧ q < j + d) && near q)) := by
  intro d
  induction d with
  | zero =>
    intro j m q
    show Nat.testBit m q = _
    rw [decide_eq_false (by omega), Bool.false_and, Bool.or_false]
  | succ d ih =>
    intro j m q
    show Nat.testBit (rowM near d (j + 1) (if !Nat.testBit m j && near j then m ||| 2 ^ j else m)) q = _
    rw [ih]
    by_cases hq : j = q
    · subst hq
      rw [decide_eq_false (show ¬ (j + 1 ≤ j ∧ j < j + 1 + d) by omega), Bool.false_and, Bool.or_false, decide_eq_true (show j ≤ j ∧ j < j + (d + 1) by omega), Bool.true_and]
      by_cases hc : (!Nat.testBit m j && near j) = true
      · rw [if_pos hc, bit_or, decide_eq_true rfl, Bool.or_true]
        rw [Bool.and_eq_true] at hc
        rw [hc.2, Bool.or_true]
      · rw [if_neg hc]
        cases h1 : Nat.testBit m j with
        | true => rfl
        | false =>
          rw [h1] at hc
          cases h2 : near j with
          | true => rw [h2] at hc; exact absurd rfl hc
          | false => rfl
    · have e1 : decide (j + 1 ≤ q ∧ q < j + 1 + d) = decide (j ≤ q ∧ q < j + (d + 1)) := decide_eq_decide.mpr (by omega)
      rw [e1]
      by_cases hc : (!Nat.testBit m j && near j) = true
      · rw [if_pos hc, bit_or, decide_eq_false hq, Bool.or_false]
      · rw [if_neg hc]
theorem rowC_sum {near : Nat → Bool} : ∀ (d j m : Nat), rowC near d j m = sumN (fun i => if !Nat.testBit m (j + i) && near (j + i) then 1 else 0) d := by
  intro d
  induction d with
  | zero => intro j m; rfl
  | succ d ih =>
    intro j m
    show (if !Nat.testBit m j && near j then 1 else 0) + rowC near d (j + 1) (if !Nat.testBit m j && near j then m ||| 2 ^ j else m) = _
    rw [sumN_head, ih, Nat.add_zero]
    congr 1
    refine sumN_congr d (fun i _ => ?_)
    have e : Nat.testBit (if !Nat.testBit m j && near j then m ||| 2 ^ j else m) (j + 1 + i) = Nat.testBit m (j + (i + 1)) := by
      rw [show j + 1 + i = j + (i + 1) by omega]
      split
      · rw [bit_or, decide_eq_false (by omega), Bool.or_false]
      · rfl
    rw [e, show j + 1 + i = j + (i + 1) by omega]
theorem newC_rows {Q : Nat → JQ} {bits : Nat → Nat} {n : Nat} : ∀ (d i : Nat), newC Q bits n d i = sumN (fun q => rowC (fun j => nrQ (Q (i + q)) (Q j)) (n - (i + q + 1)) (i + q + 1) (bits (i + q))) d := by
  intro d
  induction d with
  | zero => intro i; rfl
  | succ d ih =>
    intro i
    show rowC (fun j => nrQ (Q i) (Q j)) (n - (i + 1)) (i + 1) (bits i) + newC Q bits n d (i + 1) = _
    rw [sumN_head, ih, Nat.add_zero]
    congr 1
    exact sumN_congr d (fun q _ => by rw [show i + 1 + q = i + (q + 1) by omega])
theorem tri_sum (h : Nat → Nat → Nat) : ∀ n, sumN (fun i => sumN (fun q => h i (i + 1 + q)) (n - (i + 1))) n = sumN (fun a => sumN (fun b => h b a) a) n := by
  intro n
  induction n with
  | zero => rfl
  | succ n ih =>
    show sumN (fun i => sumN (fun q => h i (i + 1 + q)) (n + 1 - (i + 1))) n + sumN (fun q => h n (n + 1 + q)) (n + 1 - (n + 1)) = sumN (fun a => sumN (fun b => h b a) a) n + sumN (fun b => h b n) n
    rw [← ih, ← sumN_add, Nat.sub_self]
    show _ + 0 = _
    rw [Nat.add_zero]
    refine sumN_congr n (fun i hi => ?_)
    rw [show n + 1 - (i + 1) = (n - (i + 1)) + 1 by omega]
    show sumN (fun q => h i (i + 1 + q)) (n - (i + 1)) + h i (i + 1 + (n - (i + 1))) = _
    rw [show i + 1 + (n - (i + 1)) = n by omega]
/-- one for a pair that newly meets -/
def npQ (Q : Nat → JQ) (bits : Nat → Nat) (a b : Nat) : Nat := if !Nat.testBit (bits b) a && nrQ (Q b) (Q a) then 1 else 0
theorem newC_tri (Q : Nat → JQ) (bits : Nat → Nat) (n : Nat) : newC Q bits n n 0 = sumN (fun a => sumN (npQ Q bits a) a) n := by
  rw [newC_rows]
  refine Eq.trans ?_ (tri_sum (fun b a => npQ Q bits a b) n)
  refine sumN_congr n (fun i _ => ?_)
  rw [rowC_sum, Nat.zero_add]
  exact sumN_congr _ (fun q _ => rfl)
theorem bt_bit (A : CS) (Q : Nat → JQ) (n t a b : Nat) (hab : b < a) (ha : a < n) : Nat.testBit (btQ A Q n (t + 1) b) a = (Nat.testBit (btQ A Q n t b) a || nrQ (psQ A Q (t + 1) b) (psQ A Q (t + 1) a)) := by
  show Nat.testBit (rowM (fun j => nrQ (psQ A Q (t + 1) b) (psQ A Q (t + 1) j)) (n - (b + 1)) (b + 1) (btQ A Q n t b)) a = _
  rw [rowM_bit, decide_eq_true (by omega), Bool.true_and]
theorem sumN_all {f : Nat → Nat} (h1 : ∀ j, f j ≤ 1) : ∀ n, sumN f n ≤ n ∧ (n ≤ sumN f n ↔ ∀ j, j < n → f j = 1) := by
  intro n
  induction n with
  | zero => exact ⟨Nat.le_refl _, fun _ j hj => absurd hj (Nat.not_lt_zero j), fun _ => Nat.zero_le _⟩
  | succ n ih =>
    obtain ⟨i1, i2⟩ := ih
    have h2 := h1 n
    have e : sumN f (n + 1) = sumN f n + f n := rfl
    rw [e]
    refine ⟨by omega, fun h j hj => ?_, fun h => ?_⟩
    · by_cases hjn : j = n
      · rw [hjn]; omega
      · exact i2.mp (by omega) j (by omega)
    · have h3 := i2.mpr (fun j hj => h j (by omega))
      have h4 := h n (by omega)
      omega
theorem closeZ_symm (x y : Int) : closeZ x y = closeZ y x := by
  unfold closeZ
  exact decide_eq_decide.mpr (by omega)
theorem nearZ_symm (o m : Nat) (x y : Int) (o2 m2 : Nat) (x2 y2 : Int) : nearZ o m x y o2 m2 x2 y2 = nearZ o2 m2 x2 y2 o m x y := by
  unfold nearZ
  rw [closeZ_symm x x2, closeZ_symm y y2, show decide (m = m2) = decide (m2 = m) from decide_eq_decide.mpr (by omega)]
  cases decide (m ≤ o + 1 ∧ 1 ≤ m) <;> cases decide (m2 ≤ o2 + 1 ∧ 1 ≤ m2) <;> rfl
