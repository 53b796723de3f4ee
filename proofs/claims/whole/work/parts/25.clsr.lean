/-! ===== THE CLASS'S READERS ===== -/
def cntOk (A : CS) (nJ nR : Nat) : Prop := nJ ≤ 8 ∧ nR ≤ 8 ∧ cS A 1 = Int32.ofNat nJ ∧ cS A 3 = Int32.ofNat nR
def posOk (x : Int) : Prop := -(10000 * 16777216) ≤ x ∧ x ≤ 10000 * 16777216
def jmpOk (A : CS) (nR k : Nat) : Prop := (50 ≤ (cJ A k 0).toInt ∧ (cJ A k 0).toInt ≤ 130) ∧ (0 ≤ (cJ A k 1).toInt ∧ (cJ A k 1).toInt ≤ 3) ∧ (cJ A k 2 = -1 ∨ ∃ r, r < nR ∧ cJ A k 2 = Int32.ofNat r) ∧ posOk (cP A k 8) ∧ posOk (cP A k 9)
def rigOk (A : CS) (r : Nat) : Prop := (80 ≤ (cG A r 0).toInt ∧ (cG A r 0).toInt ≤ 300) ∧ (cG A r 3 = 0 ∨ cG A r 3 = 1)
def lnOk (A : CS) (nJ : Nat) (ln : List Nat) : Prop := ln.length ≤ 6 ∧ cS A 6 = Int32.ofNat ln.length ∧ (∀ p, p < ln.length → cL A p = Int32.ofNat (ln.getD p 0)) ∧ ∀ k ∈ ln, k < nJ
def holdF (A : CS) (r : Int32) : Nat → Nat → Int32
  | 0 => fun _ => -1
  | d + 1 => fun v => if cJ A v 2 = r then Int32.ofNat v else holdF A r d (v + 1)
def placeF (a : Int32) : List Nat → Nat → Int32
  | [] => fun _ => -1
  | x :: l => fun v => if Int32.ofNat x = a then Int32.ofNat v else placeF a l (v + 1)
def iabs (x : Int32) : Int32 := if 0 ≤ x then x else -x
def grdF (A : CS) : Int32 := iabs (cX A 0) + iabs (cY A 0)
def rigN (A : CS) (k : Nat) : Nat := (cJ A k 2).toNatClampNeg
def ldF (A : CS) (k : Nat) : UInt32 := if cJ A k 2 = -1 then 0 else ldO (cJ A k 0) (cG A (rigN A k) 0)
theorem i_negone (n : Nat) (h : n < 2 ^ 31) : Int32.ofNat n ≠ -1 := fun e => by
  have := congrArg Int32.toInt e
  rw [i_toInt h] at this
  have h9 : (-1 : Int32).toInt = -1 := rfl
  omega
section CLSR
variable {K : Cfg} {c : Nat → Nat} {A : CS} {M0 M : Mem} {nJ nR n r : Nat} {ln : List Nat} {QX : String → Mem → Prop}
theorem c_jumperAt {k : Nat → Mem → Prop} (h : picC K c A M0 M) (hn : cntOk A nJ nR) (hlt : n < nJ) (hk : k (c (16 + n)) M) : f_X5_jumperAt K (c 0) (Int32.ofNat n) k QX M := by
  obtain ⟨n1, n2, n3, n4⟩ := hn
  unfold f_X5_jumperAt
  refine s_ifF (i_neg (by omega)) (s_getI h.c0 rfl (s_ifF ?_ (s_ifT ?_ (s_getR h.c0 rfl (s_ldQ h.c1 (i_in (by omega) (by omega)) ?_ hk)))))
  · rw [n3, i_le (by omega) (by omega)]; omega
  · show Int32.ofNat n < Int32.ofNat 8
    rw [i_lt (by omega) (by omega)]; omega
  · rw [i_nat (by omega)]
    show (if n < 8 then some (c (16 + n)) else none) = _
    rw [if_pos (by omega)]
theorem c_jumperAtX {k : Nat → Mem → Prop} {a : Int32} (h : picC K c A M0 M) (hn : cntOk A nJ nR) (hlt : a < 0 ∨ Int32.ofNat nJ ≤ a) (hk : QX "java/lang/IndexOutOfBoundsException" M) : f_X5_jumperAt K (c 0) a k QX M := by
  obtain ⟨n1, n2, n3, n4⟩ := hn
  unfold f_X5_jumperAt
  refine s_if (fun _ => hk) (fun h1 => s_getI h.c0 rfl (s_ifT ?_ hk))
  rw [n3]; exact hlt.resolve_left h1
theorem c_rigAt {k : Nat → Mem → Prop} (h : picC K c A M0 M) (hn : cntOk A nJ nR) (hlt : n < nR) (hk : k (c (24 + n)) M) : f_X5_rigAt K (c 0) (Int32.ofNat n) k QX M := by
  obtain ⟨n1, n2, n3, n4⟩ := hn
  unfold f_X5_rigAt
  refine s_ifF (i_neg (by omega)) (s_getI h.c0 rfl (s_ifF ?_ (s_ifT ?_ (s_getR h.c0 rfl (s_ldQ h.c2 (i_in (by omega) (by omega)) ?_ hk)))))
  · rw [n4, i_le (by omega) (by omega)]; omega
  · show Int32.ofNat n < Int32.ofNat 8
    rw [i_lt (by omega) (by omega)]; omega
  · rw [i_nat (by omega)]
    show (if n < 8 then some (c (24 + n)) else none) = _
    rw [if_pos (by omega)]
theorem c_rigAtX {k : Nat → Mem → Prop} {a : Int32} (h : picC K c A M0 M) (hn : cntOk A nJ nR) (hlt : a < 0 ∨ Int32.ofNat nR ≤ a) (hk : QX "java/lang/IndexOutOfBoundsException" M) : f_X5_rigAt K (c 0) a k QX M := by
  obtain ⟨n1, n2, n3, n4⟩ := hn
  unfold f_X5_rigAt
  refine s_if (fun _ => hk) (fun h1 => s_getI h.c0 rfl (s_ifT ?_ hk))
  rw [n4]; exact hlt.resolve_left h1
/-- a number is one of the first n, or none of them -/
theorem i_split (a : Int32) (n : Nat) (hn : n ≤ 8) : (∃ m, m < n ∧ a = Int32.ofNat m) ∨ (a < 0 ∨ Int32.ofNat n ≤ a) := by
  by_cases h1 : a < 0
  · exact Or.inr (Or.inl h1)
  by_cases h2 : Int32.ofNat n ≤ a
  · exact Or.inr (Or.inr h2)
  have h3 : ¬ a.toInt < 0 := fun h => h1 (Int32.lt_iff_toInt_lt.mpr h)
  have h4 : ¬ (n : Int) ≤ a.toInt := fun h => h2 (Int32.le_iff_toInt_le.mpr (by rw [i_toInt (by omega)]; exact h))
  refine Or.inl ⟨a.toInt.toNat, by omega, ?_⟩
  rw [← Int32.toInt_inj, i_toInt (by omega)]
  omega
theorem c_holderOf_loop {k : Int32 → Mem → Prop} {r : Int32} (h : picC K c A M0 M) (hn : cntOk A nJ nR) : ∀ d fuel v : Nat, v + d = nJ → d < fuel → k (holdF A r d v) M → f_X5_holderOf_b2 K k QX fuel (c 0) r (Int32.ofNat v) M := by
  obtain ⟨n1, n2, n3, n4⟩ := id hn
  intro d
  induction d with
  | zero =>
    intro fuel v hv hf hk
    obtain ⟨fuel, rfl⟩ : ∃ e, fuel = e + 1 := ⟨fuel - 1, by omega⟩
    show f_X5_holderOf_b2_body K k QX (f_X5_holderOf_b2 K k QX fuel) (c 0) r (Int32.ofNat v) M
    unfold f_X5_holderOf_b2_body
    refine s_getI h.c0 rfl (s_ifT ?_ hk)
    rw [n3, i_le (by omega) (by omega)]; omega
  | succ d ih =>
    intro fuel v hv hf hk
    obtain ⟨fuel, rfl⟩ : ∃ e, fuel = e + 1 := ⟨fuel - 1, by omega⟩
    show f_X5_holderOf_b2_body K k QX (f_X5_holderOf_b2 K k QX fuel) (c 0) r (Int32.ofNat v) M
    unfold f_X5_holderOf_b2_body
    refine s_getI h.c0 rfl (s_ifF ?_ (s_recv h.c0 (c_jumperAt h hn (by omega) (s_getI (h.cj (by omega)) rfl ?_))))
    · rw [n3, i_le (by omega) (by omega)]; omega
    have hk2 : k (if cJ A v 2 = r then Int32.ofNat v else holdF A r d (v + 1)) M := hk
    refine s_if (fun c1 => ?_) (fun c1 => ?_)
    · rw [if_pos c1] at hk2; exact hk2
    · rw [if_neg c1] at hk2
      rw [i_succ]
      exact ih fuel (v + 1) (by omega) (by omega) hk2
theorem c_holderOf {k : Int32 → Mem → Prop} {r : Int32} (h : picC K c A M0 M) (hn : cntOk A nJ nR) (hk : k (holdF A r nJ 0) M) : f_X5_holderOf K (c 0) r k QX M :=
  c_holderOf_loop h hn nJ mFuel 0 (by omega) (by have := hn.1; show nJ < 4096; omega) hk
theorem c_order {k : Int32 → Mem → Prop} {p : Nat} (h : picC K c A M0 M) (hl : lnOk A nJ ln) (hp : p < ln.length) (hk : k (Int32.ofNat (ln.getD p 0)) M) : f_X5_order K (c 0) (Int32.ofNat p) k QX M := by
  obtain ⟨l1, l2, l3, l4⟩ := hl
  unfold f_X5_order
  refine s_ifF (i_neg (by omega)) (s_getI h.c0 rfl (s_ifF ?_ (s_ifT ?_ (s_getR h.c0 rfl (s_ldI h.c6 (i_in (by omega) (by omega)) ?_)))))
  · rw [l2, i_le (by omega) (by omega)]; omega
  · show Int32.ofNat p < Int32.ofNat 6
    rw [i_lt (by omega) (by omega)]; omega
  · rw [i_nat (by omega), l3 p hp]; exact hk
theorem c_orderX {k : Int32 → Mem → Prop} {a : Int32} (h : picC K c A M0 M) (hl : lnOk A nJ ln) (hp : a < 0 ∨ Int32.ofNat ln.length ≤ a) (hk : QX "java/lang/IndexOutOfBoundsException" M) : f_X5_order K (c 0) a k QX M := by
  obtain ⟨l1, l2, l3, l4⟩ := hl
  unfold f_X5_order
  refine s_if (fun _ => hk) (fun h1 => s_getI h.c0 rfl (s_ifT ?_ hk))
  rw [l2]; exact hp.resolve_left h1
theorem c_placeOf_loop {k : Int32 → Mem → Prop} {a : Int32} (h : picC K c A M0 M) (hl : lnOk A nJ ln) : ∀ (l : List Nat) (fuel v : Nat), v + l.length = ln.length → (∀ p, p < l.length → ln.getD (v + p) 0 = l.getD p 0) → l.length < fuel → k (placeF a l v) M → f_X5_placeOf_b2 K k QX fuel (c 0) a (Int32.ofNat v) M := by
  have l1 := hl.1
  have l2 := hl.2.1
  intro l
  induction l with
  | nil =>
    intro fuel v hv hs hf hk
    rw [List.length_nil] at hv hf
    obtain ⟨fuel, rfl⟩ : ∃ e, fuel = e + 1 := ⟨fuel - 1, by omega⟩
    show f_X5_placeOf_b2_body K k QX (f_X5_placeOf_b2 K k QX fuel) (c 0) a (Int32.ofNat v) M
    unfold f_X5_placeOf_b2_body
    refine s_getI h.c0 rfl (s_ifT ?_ hk)
    rw [l2, i_le (by omega) (by omega)]; omega
  | cons x l ih =>
    intro fuel v hv hs hf hk
    rw [List.length_cons] at hv hf
    obtain ⟨fuel, rfl⟩ : ∃ e, fuel = e + 1 := ⟨fuel - 1, by omega⟩
    show f_X5_placeOf_b2_body K k QX (f_X5_placeOf_b2 K k QX fuel) (c 0) a (Int32.ofNat v) M
    unfold f_X5_placeOf_b2_body
    refine s_getI h.c0 rfl (s_ifF ?_ (s_recv h.c0 (c_order h hl (by omega) ?_)))
    · rw [l2, i_le (by omega) (by omega)]; omega
    have hx : ln.getD v 0 = x := hs 0 (by rw [List.length_cons]; omega)
    rw [hx]
    have hk2 : k (if Int32.ofNat x = a then Int32.ofNat v else placeF a l (v + 1)) M := hk
    refine s_if (fun c1 => ?_) (fun c1 => ?_)
    · rw [if_pos c1] at hk2; exact hk2
    · rw [if_neg c1] at hk2
      rw [i_succ]
      refine ih fuel (v + 1) (by omega) (fun p hp => ?_) (by omega) hk2
      have := hs (p + 1) (by rw [List.length_cons]; omega)
      rw [show v + 1 + p = v + (p + 1) by omega, this]
      rfl
theorem c_placeOf {k : Int32 → Mem → Prop} {a : Int32} (h : picC K c A M0 M) (hl : lnOk A nJ ln) (hk : k (placeF a ln 0) M) : f_X5_placeOf K (c 0) a k QX M :=
  c_placeOf_loop h hl ln mFuel 0 (by omega) (fun p _ => by rw [Nat.zero_add]) (by have := hl.1; show ln.length < 4096; omega) hk
theorem c_loadingWith {k : UInt32 → Mem → Prop} {j : Nat} (h : picC K c A M0 M) (hn : cntOk A nJ nR) (hj : j < nJ) (hr : r < nR) (hjo : jmpOk A nR j) (hro : rigOk A r) (hk : k (ldO (cJ A j 0) (cG A r 0)) M) : f_X5_loadingWith K (c (16 + j)) (c (24 + r)) k M := by
  have n1 := hn.1
  have n2 := hn.2.1
  obtain ⟨⟨w1, w2⟩, -⟩ := hjo
  obtain ⟨⟨a1, a2⟩, -⟩ := hro
  obtain ⟨e1, e2⟩ := ld_ok w1 w2 a1 a2
  unfold f_X5_loadingWith
  refine s_getI (h.cg (by omega)) rfl (s_ifF ?_ (s_getI (h.cj (by omega)) rfl (s_as e1 (s_getI (h.cg (by omega)) rfl (s_as e2.n32 hk)))))
  rw [Int32.le_iff_toInt_le]; show ¬ _ ≤ (0 : Int); omega
theorem rig_of {j : Nat} (hjo : jmpOk A nR j) (h2 : cJ A j 2 ≠ -1) (hR : nR ≤ 8) : cJ A j 2 = Int32.ofNat (rigN A j) ∧ rigN A j < nR := by
  obtain ⟨r, h3, h4⟩ := hjo.2.2.1.resolve_left h2
  unfold rigN
  rw [h4, i_nat (by omega)]
  exact ⟨rfl, h3⟩
theorem c_loadingOf {k : UInt32 → Mem → Prop} {j : Nat} (h : picC K c A M0 M) (hn : cntOk A nJ nR) (hj : j < nJ) (hjo : jmpOk A nR j) (hro : ∀ r, r < nR → rigOk A r) (hk : k (ldF A j) M) : f_X5_loadingOf K (c 0) (c (16 + j)) k QX M := by
  have n1 := hn.1
  unfold f_X5_loadingOf
  unfold ldF at hk
  refine s_getI (h.cj (by omega)) rfl (s_if (fun c1 => ?_) (fun c1 => s_getI (h.cj (by omega)) rfl (s_recv h.c0 ?_)))
  · rw [if_pos c1] at hk; exact hk
  · rw [if_neg c1] at hk
    obtain ⟨e1, e2⟩ := rig_of hjo c1 hn.2.1
    rw [e1]
    exact c_rigAt h hn e2 (c_loadingWith h hn hj e2 hjo (hro _ e2) hk)
end CLSR
