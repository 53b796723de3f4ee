/-! ===== ONE JUMP, A TICK: the class's goOn ===== -/
def lyr (m : Nat) : Int32 := Int32.ofInt ((m : Int) - 1)
theorem lyr_toInt {m : Nat} (h : m ≤ 10) : (lyr m).toInt = (m : Int) - 1 := Int32.toInt_ofInt_of_le (by omega) (by omega)
theorem lyr_nat {m : Nat} (h : m ≤ 10) : (lyr m).toNatClampNeg = m - 1 := by
  show (lyr m).toInt.toNat = _
  rw [lyr_toInt h]; omega
theorem lyr_pred {m : Nat} (h : m ≤ 9) : lyr (m + 1) - 1 = lyr m := by
  rcases (show m = 0 ∨ m = 1 ∨ m = 2 ∨ m = 3 ∨ m = 4 ∨ m = 5 ∨ m = 6 ∨ m = 7 ∨ m = 8 ∨ m = 9 by omega) with rfl | rfl | rfl | rfl | rfl | rfl | rfl | rfl | rfl | rfl <;> decide +kernel
theorem lyr_neg {m : Nat} (h : m ≤ 10) : lyr m < 0 ↔ m = 0 := by
  rw [Int32.lt_iff_toInt_lt, lyr_toInt h]; show (m : Int) - 1 < 0 ↔ _; omega
theorem lyr_ge {m : Nat} (h : m ≤ 10) : 0 ≤ lyr m ↔ 1 ≤ m := by
  rw [Int32.le_iff_toInt_le, lyr_toInt h]; show 0 ≤ (m : Int) - 1 ↔ _; omega
theorem lyr_lt {m o : Nat} (h : m ≤ 10) (ho : o < 2 ^ 31) : Int32.ofNat o < lyr m ↔ o + 1 < m := by
  rw [Int32.lt_iff_toInt_lt, lyr_toInt h, i_toInt ho]; omega
theorem lyr_in {m : Nat} (h1 : 1 ≤ m) (h : m ≤ 10) : vp_in (lyr m) 10 := by
  unfold vp_in
  rw [lyr_nat h, lyr_neg h]; omega
theorem lyr_inj {m n : Nat} (h : m ≤ 10) (h2 : n ≤ 10) : lyr m = lyr n ↔ m = n := by
  rw [← Int32.toInt_inj, lyr_toInt h, lyr_toInt h2]; omega
def jc (o f g : Nat) (b : Int) (tr lv : Int32) (m t : Nat) (x y : Int) (mb : Int32) : va_E := .inr (2, [.int (Int32.ofNat o), .int (Int32.ofNat f), .int (Int32.ofNat g), .double (em b), .int tr, .int lv, .int (lyr m), .int (Int32.ofNat t), .double (em x), .double (em y), .int mb])
def nearK (x b : Int) : Int := if x ≤ b then (if -b ≤ x then 0 else x + b) else x - b
def stX (w v : Int) (o m : Nat) (b x y : Int) : Int := if m ≤ o + 1 then (if (x + w * 2 ^ 24).natAbs < (y + v * 2 ^ 24).natAbs then x + w * 2 ^ 24 else nearK (x + w * 2 ^ 24) b) else x + w * 2 ^ 23
def stY (w v : Int) (o m : Nat) (b x y : Int) : Int := if m ≤ o + 1 then (if (x + w * 2 ^ 24).natAbs < (y + v * 2 ^ 24).natAbs then nearK (y + v * 2 ^ 24) b else y + v * 2 ^ 24) else y + v * 2 ^ 23
def stM (o f g m t : Nat) : Nat := if t + 1 < (if m ≤ o + 1 then g else f) then m else m - 1
def stT (o f g m t : Nat) : Nat := if t + 1 < (if m ≤ o + 1 then g else f) then t + 1 else 0
def wnd (K : Cfg) (wo ax ay : Nat) (X Y : Nat → Int32) (M : Mem) : Prop := M wo = some (.inr (5, [.ref ax, .ref ay])) ∧ M ax = some (.inl (K.2.1 0, 10, .inl X)) ∧ M ay = some (.inl (K.2.1 0, 10, .inl Y))
section JUMP
variable {K : Cfg} {M : Mem} {a wo ax ay o f g m t : Nat} {b x y : Int} {tr lv mb : Int32} {X Y : Nat → Int32}
theorem wnd.up {e : va_E} (h : wnd K wo ax ay X Y M) (h1 : wo ≠ a) (h2 : ax ≠ a) (h3 : ay ≠ a) : wnd K wo ax ay X Y (mUp M a e) := ⟨(mUp_ne h1).trans h.1, (mUp_ne h2).trans h.2.1, (mUp_ne h3).trans h.2.2⟩
theorem p_xOf {k : Int32 → Mem → Prop} (h : wnd K wo ax ay X Y M) (h1 : 1 ≤ m) (hm : m ≤ 10) (hk : k (X (m - 1)) M) : f_X4_xOf K wo (lyr m) k M := by
  unfold f_X4_xOf
  refine s_ifF (by rw [lyr_neg hm]; omega) (s_ifF ?_ ?_)
  · rw [Int32.le_iff_toInt_le, lyr_toInt hm]; show ¬ (10 : Int) ≤ _; omega
  · refine s_getR h.1 rfl (s_ldI h.2.1 (lyr_in h1 hm) ?_)
    rw [lyr_nat hm]; exact hk
theorem p_yOf {k : Int32 → Mem → Prop} (h : wnd K wo ax ay X Y M) (h1 : 1 ≤ m) (hm : m ≤ 10) (hk : k (Y (m - 1)) M) : f_X4_yOf K wo (lyr m) k M := by
  unfold f_X4_yOf
  refine s_ifF (by rw [lyr_neg hm]; omega) (s_ifF ?_ ?_)
  · rw [Int32.le_iff_toInt_le, lyr_toInt hm]; show ¬ (10 : Int) ≤ _; omega
  · refine s_getR h.1 rfl (s_ldI h.2.2 (lyr_in h1 hm) ?_)
    rw [lyr_nat hm]; exact hk
theorem p_isGliding {k : Int32 → Mem → Prop} (h : M a = some (jc o f g b tr lv m t x y mb)) (hm : m ≤ 10) (ho : o ≤ 10) (hk : k (if m ≤ o + 1 ∧ 1 ≤ m then 1 else 0) M) : f_X1_isGliding K a k M := by
  unfold f_X1_isGliding
  refine s_getI h rfl (s_getI h rfl (s_if (fun hc => ?_) (fun hc => s_getI h rfl (s_if (fun hc2 => ?_) (fun hc2 => ?_)))))
  · rw [lyr_lt hm (by omega)] at hc
    rw [if_neg (by omega)] at hk
    exact s_as (Or.inl rfl) hk
  · rw [lyr_neg hm] at hc2
    rw [if_neg (by omega)] at hk
    exact s_as (Or.inl rfl) hk
  · rw [lyr_lt hm (by omega)] at hc
    rw [lyr_neg hm] at hc2
    rw [if_pos (by omega)] at hk
    exact s_as (Or.inr rfl) hk
theorem p_isDown {k : Int32 → Mem → Prop} (h : M a = some (jc o f g b tr lv m t x y mb)) (hm : m ≤ 10) (hk : k (if m = 0 then 1 else 0) M) : f_X1_isDown K a k M := by
  unfold f_X1_isDown
  refine s_getI h rfl (s_if (fun hc => ?_) (fun hc => ?_))
  · rw [lyr_ge hm] at hc
    rw [if_neg (by omega)] at hk
    exact s_as (Or.inl rfl) hk
  · rw [lyr_ge hm] at hc
    rw [if_pos (by omega)] at hk
    exact s_as (Or.inr rfl) hk
theorem p_sizeOf {k : UInt64 → Mem → Prop} (hx : x.natAbs < 2 ^ 53) (hk : k (em x.natAbs) M) : f_X1_sizeOf K (em x) k M := by
  unfold f_X1_sizeOf
  rw [em_c0, em_cmp hx (by decide)]
  refine s_if (fun hc => ?_) (fun hc => ?_)
  · rw [cv_ge] at hc
    rw [show ((x.natAbs : Nat) : Int) = x by omega] at hk
    exact hk
  · rw [cv_ge] at hc
    rw [show ((x.natAbs : Nat) : Int) = -x by omega, ← em_neg hx (by omega)] at hk
    exact hk
theorem p_nearer {k : UInt64 → Mem → Prop} (hx : x.natAbs < 2 ^ 52) (hb : 0 < b) (hb2 : b < 2 ^ 31) (hk : k (em (nearK x b)) M) : f_X1_nearer K (em x) (em b) k M := by
  unfold f_X1_nearer
  unfold nearK at hk
  rw [em_cmp (by omega) (by omega), em_neg (by omega) (by omega), em_cmp (by omega) (by omega), em_add (by omega) (by omega), em_sub (by omega) (by omega)]
  refine s_if (fun hc => s_if (fun hc2 => ?_) (fun hc2 => ?_)) (fun hc => ?_)
  · rw [cv_le] at hc
    rw [cv_ge] at hc2
    rw [if_pos hc, if_pos hc2] at hk
    exact (em_c0 ▸ hk : k FP.dconst0 M)
  · rw [cv_le] at hc
    rw [cv_ge] at hc2
    rw [if_pos hc, if_neg hc2] at hk
    exact s_as (em_nan (by omega)) hk
  · rw [cv_le] at hc
    rw [if_neg hc] at hk
    exact s_as (em_nan (by omega)) hk
theorem p_steer {k : Mem → Prop} (hx : x.natAbs < 2 ^ 52) (hy : y.natAbs < 2 ^ 52) (hb : 0 < b) (hb2 : b < 2 ^ 31) (hk : k (mUp M a (jc o f g b tr lv m t (if x.natAbs < y.natAbs then x else nearK x b) (if x.natAbs < y.natAbs then nearK y b else y) mb))) : f_X1_steer K a k (mUp M a (jc o f g b tr lv m t x y mb)) := by
  unfold f_X1_steer
  refine u_getD rfl (p_sizeOf (by omega) (u_getD rfl (p_sizeOf (by omega) ?_)))
  rw [em_cmp (by omega) (by omega)]
  refine s_if (fun hc => ?_) (fun hc => ?_)
  · rw [cv_lt] at hc
    rw [if_pos (by omega), if_pos (by omega)] at hk
    refine u_getD rfl (u_getD rfl (p_nearer hy hb hb2 (u_put (Nat.lt_of_lt_of_eq (by decide : 9 < 11) rfl) ?_)))
    exact hk
  · rw [cv_lt] at hc
    rw [if_neg (by omega), if_neg (by omega)] at hk
    refine u_getD rfl (u_getD rfl (p_nearer hx hb hb2 (u_put (Nat.lt_of_lt_of_eq (by decide : 8 < 11) rfl) ?_)))
    exact hk
theorem p_b96 {k : Mem → Prop} {v : Int32} (h1 : 1 ≤ m) (hm : m ≤ 10) (ht : t < 2 ^ 30) (hf : f < 2 ^ 30) (hg : g < 2 ^ 30) (hv : v = if m ≤ o + 1 then 1 else 0) (hk : k (mUp M a (jc o f g b tr lv (stM o f g m t) (stT o f g m t) x y mb))) : f_X1_goOn_b96 K k a v (mUp M a (jc o f g b tr lv m t x y mb)) := by
  obtain ⟨m, rfl⟩ : ∃ n, m = n + 1 := ⟨m - 1, by omega⟩
  have e1 : Int32.ofNat t + 1 = Int32.ofNat (t + 1) := i_succ
  have key : ∀ z : Nat, z < 2 ^ 30 → z = (if m + 1 ≤ o + 1 then g else f) → f_X1_goOn_b125 K k a (Int32.ofNat (t + 1)) (Int32.ofNat z) (mUp M a (jc o f g b tr lv (m + 1) (t + 1) x y mb)) := by
    intro z hz hz2
    unfold stM stT at hk
    rw [← hz2] at hk
    unfold f_X1_goOn_b125
    refine s_if (fun hc => ?_) (fun hc => ?_)
    · rw [i_lt (by omega) (by omega)] at hc
      rw [if_pos hc, if_pos hc] at hk
      exact hk
    · rw [i_lt (by omega) (by omega)] at hc
      rw [if_neg hc, if_neg hc] at hk
      refine u_getI rfl ?_
      rw [lyr_pred (by omega)]
      refine u_put (Nat.lt_of_lt_of_eq (by decide : 6 < 11) rfl) (u_put (Nat.lt_of_lt_of_eq (by decide : 7 < 11) rfl) ?_)
      exact hk
  unfold f_X1_goOn_b96
  refine u_getI rfl ?_
  rw [e1]
  refine u_put (Nat.lt_of_lt_of_eq (by decide : 7 < 11) rfl) (u_getI rfl (s_if (fun hc => ?_) (fun hc => ?_)))
  · have hc2 : ¬ m + 1 ≤ o + 1 := fun h => by rw [hv, if_pos h] at hc; exact absurd hc (by decide)
    refine u_getI rfl ?_
    exact key f hf (by rw [if_neg hc2])
  · have hc2 : m + 1 ≤ o + 1 := Decidable.byContradiction fun h => by rw [hv, if_neg h] at hc; exact hc rfl
    refine u_getI rfl ?_
    exact key g hg (by rw [if_pos hc2])
theorem p_goOn {k : Mem → Prop} (hw : wnd K wo ax ay X Y M) (w1 : wo ≠ a) (w2 : ax ≠ a) (w3 : ay ≠ a) (h1 : 1 ≤ m) (hm : m ≤ 10) (ho : o ≤ 10) (ht : t < 2 ^ 30) (hf : f < 2 ^ 30) (hg : g < 2 ^ 30) (hX : (X (m - 1)).toInt.natAbs ≤ 20) (hY : (Y (m - 1)).toInt.natAbs ≤ 20) (hx : x.natAbs < 2 ^ 51) (hy : y.natAbs < 2 ^ 51) (hb : 0 < b) (hb2 : b < 2 ^ 31)
    (hk : k (mUp M a (jc o f g b tr lv (stM o f g m t) (stT o f g m t) (stX (X (m - 1)).toInt (Y (m - 1)).toInt o m b x y) (stY (X (m - 1)).toInt (Y (m - 1)).toInt o m b x y) mb))) : f_X1_goOn K a wo k (mUp M a (jc o f g b tr lv m t x y mb)) := by
  have hi : ∀ w : Int32, w.toInt.natAbs ≤ 20 → FP.i2d w = em (w.toInt * 2 ^ 24) := fun w h => em_i2d (by omega)
  unfold f_X1_goOn
  refine u_recv (p_isGliding mUp_same hm ho ?_)
  by_cases hgl : m ≤ o + 1
  · rw [if_pos (show m ≤ o + 1 ∧ 1 ≤ m from ⟨hgl, h1⟩)]
    refine s_ifF (by decide) (u_getD rfl (u_getI rfl (s_recv (hw.up w1 w2 w3).1 (p_xOf (hw.up w1 w2 w3) h1 hm ?_))))
    rw [hi _ hX, em_add (by omega) (by omega)]
    refine s_as (em_nan (by omega)) (u_put (Nat.lt_of_lt_of_eq (by decide : 8 < 11) rfl) (u_getD rfl (u_getI rfl (s_recv (hw.up w1 w2 w3).1 (p_yOf (hw.up w1 w2 w3) h1 hm ?_)))))
    rw [hi _ hY, em_add (by omega) (by omega)]
    refine s_as (em_nan (by omega)) (u_put (Nat.lt_of_lt_of_eq (by decide : 9 < 11) rfl) (u_recv ?_))
    refine p_steer (o := o) (f := f) (g := g) (b := b) (tr := tr) (lv := lv) (m := m) (t := t) (x := x + (X (m - 1)).toInt * 2 ^ 24) (y := y + (Y (m - 1)).toInt * 2 ^ 24) (mb := mb) (by omega) (by omega) hb hb2 ?_
    unfold stX stY at hk
    rw [if_pos hgl, if_pos hgl] at hk
    exact p_b96 h1 hm ht hf hg (by rw [if_pos hgl]) hk
  · rw [if_neg (show ¬ (m ≤ o + 1 ∧ 1 ≤ m) from fun h => hgl h.1)]
    refine s_ifT rfl (u_getD rfl (u_getI rfl (s_recv (hw.up w1 w2 w3).1 (p_xOf (hw.up w1 w2 w3) h1 hm ?_))))
    rw [hi _ hX, em_c05, em_mul (by omega) (by decide) (by decide), em_add (by omega) (by omega)]
    refine s_as (em_nan (by omega)) (s_as (em_nan (by omega)) (u_put (Nat.lt_of_lt_of_eq (by decide : 8 < 11) rfl) (u_getD rfl (u_getI rfl (s_recv (hw.up w1 w2 w3).1 (p_yOf (hw.up w1 w2 w3) h1 hm ?_))))))
    rw [hi _ hY, em_mul (by omega) (by decide) (by decide), em_add (by omega) (by omega)]
    refine s_as (em_nan (by omega)) (s_as (em_nan (by omega)) (u_put (Nat.lt_of_lt_of_eq (by decide : 9 < 11) rfl) ?_))
    unfold stX stY at hk
    rw [if_neg hgl, if_neg hgl] at hk
    exact p_b96 (x := x + (X (m - 1)).toInt * 2 ^ 23) (y := y + (Y (m - 1)).toInt * 2 ^ 23) h1 hm ht hf hg (by rw [if_neg hgl]) hk
/-- the farther of the two sides -/
def farK (x y : Int) : Int := max x.natAbs y.natAbs
def ptsK (x y : Int) : Int32 := if farK x y ≤ 5 * 2 ^ 24 then 3 else if farK x y ≤ 20 * 2 ^ 24 then 1 else 0
theorem p_far {k : UInt64 → Mem → Prop} (h : M a = some (jc o f g b tr lv m t x y mb)) (hx : x.natAbs < 2 ^ 52) (hy : y.natAbs < 2 ^ 52) (hk : k (em (farK x y)) M) : f_X1_far K a k M := by
  unfold f_X1_far
  unfold farK at hk
  refine s_getD h rfl (p_sizeOf (by omega) (s_getD h rfl (p_sizeOf (by omega) ?_)))
  rw [em_cmp (by omega) (by omega)]
  refine s_if (fun hc => ?_) (fun hc => ?_)
  · rw [cv_lt] at hc
    rw [Int.max_eq_right (by omega)] at hk
    exact s_getD h rfl (p_sizeOf (by omega) hk)
  · rw [cv_lt] at hc
    rw [Int.max_eq_left (by omega)] at hk
    exact s_getD h rfl (p_sizeOf (by omega) hk)
theorem farK_lt (hx : x.natAbs < 2 ^ 52) (hy : y.natAbs < 2 ^ 52) : (farK x y).natAbs < 2 ^ 53 := by unfold farK; omega
theorem p_points {k : Int32 → Mem → Prop} (h : M a = some (jc o f g b tr lv m t x y mb)) (hx : x.natAbs < 2 ^ 52) (hy : y.natAbs < 2 ^ 52) (hk : k (ptsK x y) M) : f_X1_points K a k M := by
  have hF := farK_lt hx hy
  unfold f_X1_points
  unfold ptsK at hk
  refine s_recv h (p_far h hx hy ?_)
  rw [em_c5, em_cmp hF (by decide), em_c20, em_cmp hF (by decide)]
  refine s_if (fun hc => s_if (fun hc2 => ?_) (fun hc2 => ?_)) (fun hc => ?_)
  · rw [cv_gt] at hc hc2
    rw [if_neg (by omega), if_neg (by omega)] at hk
    exact hk
  · rw [cv_gt] at hc hc2
    rw [if_neg (by omega), if_pos (by omega)] at hk
    exact hk
  · rw [cv_gt] at hc
    rw [if_pos (by omega)] at hk
    exact hk
def closeZ (x y : Int) : Bool := decide (((x - y).natAbs : Int) < 167772160)
theorem p_closeL {A B : Mem → Prop} {z : Int} (hz : z.natAbs < 2 ^ 53) (h : z < 167772160) (hB : B M) : mIf (0 ≤ (Op.cmpValue (FP.dcmp (em z) 4621819117588971520) .g)) A B M := by
  have h10 : (4621819117588971520 : UInt64) = em 167772160 := by decide +kernel
  rw [h10, em_cmp hz (by decide)]
  have h1 : ¬ (0 ≤ (Op.cmpValue (some (compare z 167772160)) .g)) := fun h2 => absurd ((cv_ge z 167772160 .g).mp h2) (Int.not_le.mpr h)
  exact s_ifF h1 hB
theorem p_closeG {A B : Mem → Prop} {z : Int} (hz : z.natAbs < 2 ^ 53) (h : ¬ z < 167772160) (hA : A M) : mIf (0 ≤ (Op.cmpValue (FP.dcmp (em z) 4621819117588971520) .g)) A B M := by
  have h10 : (4621819117588971520 : UInt64) = em 167772160 := by decide +kernel
  rw [h10, em_cmp hz (by decide)]
  have h1 : 0 ≤ (Op.cmpValue (some (compare z 167772160)) .g) := (cv_ge z 167772160 .g).mpr (Int.not_lt.mp h)
  exact s_ifT h1 hA
theorem p_close {A B : Mem → Prop} {x2 : Int} (hx : x.natAbs < 2 ^ 51) (hx2 : x2.natAbs < 2 ^ 51) (hA : closeZ x x2 = false → A M) (hB : closeZ x x2 = true → B M) : mAs (vf_n64 (FP.dsub (em x) (em x2))) (f_X1_sizeOf K (FP.dsub (em x) (em x2)) (fun r7 => mIf (0 ≤ (Op.cmpValue (FP.dcmp r7 4621819117588971520) .g)) A B)) M := by
  rw [em_sub (by omega) (by omega)]
  refine s_as (em_nan (by omega)) (p_sizeOf (by omega) ?_)
  have hs : (((x - x2).natAbs : Int)).natAbs < 2 ^ 53 := by omega
  cases hz : closeZ x x2 with
  | false => exact p_closeG hs (of_decide_eq_false hz) (hA hz)
  | true => exact p_closeL hs (of_decide_eq_true hz) (hB hz)
def nearZ (o m : Nat) (x y : Int) (o2 m2 : Nat) (x2 y2 : Int) : Bool := decide (m ≤ o + 1 ∧ 1 ≤ m) && (decide (m2 ≤ o2 + 1 ∧ 1 ≤ m2) && (decide (m = m2) && (closeZ x x2 && closeZ y y2)))
theorem p_isNear {k : Int32 → Mem → Prop} {a2 o2 f2 g2 m2 t2 : Nat} {b2 x2 y2 : Int} {tr2 lv2 mb2 : Int32} (h : M a = some (jc o f g b tr lv m t x y mb)) (h2 : M a2 = some (jc o2 f2 g2 b2 tr2 lv2 m2 t2 x2 y2 mb2)) (hm : m ≤ 10) (ho : o ≤ 10) (hm2 : m2 ≤ 10) (ho2 : o2 ≤ 10) (hx : x.natAbs < 2 ^ 51) (hy : y.natAbs < 2 ^ 51) (hx2 : x2.natAbs < 2 ^ 51) (hy2 : y2.natAbs < 2 ^ 51)
    (hk : k (if nearZ o m x y o2 m2 x2 y2 = true then 1 else 0) M) : f_X1_isNear K a a2 k M := by
  have no : nearZ o m x y o2 m2 x2 y2 = false → f_X1_isNear_b67 K k M := fun hn => by
    rw [if_neg (by rw [hn]; decide)] at hk
    exact s_as (Or.inl rfl) hk
  unfold nearZ at hk no
  unfold f_X1_isNear
  refine s_recv h (p_isGliding h hm ho ?_)
  by_cases c1 : m ≤ o + 1 ∧ 1 ≤ m
  · rw [if_pos c1]
    rw [decide_eq_true c1, Bool.true_and] at hk no
    refine s_ifF (by decide) (s_recv h2 (p_isGliding h2 hm2 ho2 ?_))
    by_cases c2 : m2 ≤ o2 + 1 ∧ 1 ≤ m2
    · rw [if_pos c2]
      rw [decide_eq_true c2, Bool.true_and] at hk no
      refine s_ifF (by decide) (s_getI h rfl (s_getI h2 rfl (s_if (fun c3 => ?_) (fun c3 => no ?_))))
      · rw [lyr_inj hm hm2] at c3
        rw [decide_eq_true c3, Bool.true_and] at hk no
        refine s_getD h rfl (s_getD h2 rfl (p_close hx hx2 (fun c4 => no (by rw [c4, Bool.false_and])) (fun c4 => ?_)))
        rw [c4, Bool.true_and] at hk no
        refine s_getD h rfl (s_getD h2 rfl (p_close hy hy2 (fun c5 => no c5) (fun c5 => ?_)))
        rw [if_pos c5] at hk
        exact s_as (Or.inr rfl) hk
      · rw [lyr_inj hm hm2] at c3
        rw [decide_eq_false c3, Bool.false_and]
    · rw [if_neg c2]
      rw [decide_eq_false c2, Bool.false_and] at no
      exact s_ifT rfl (no rfl)
  · rw [if_neg c1]
    rw [decide_eq_false c1, Bool.false_and] at no
    exact s_ifT rfl (no rfl)
theorem p_leave {k : Mem → Prop} {x9 : Int} {lv9 : Int32} (hk : k (mUp M a (jc o f g b tr lv9 10 0 x9 0 0))) : f_X1_leave K a (em x9) lv9 k (mUp M a (jc o f g b tr lv m t x y mb)) := by
  unfold f_X1_leave
  rw [em_c0]
  refine u_put (Nat.lt_of_lt_of_eq (by decide : 5 < 11) rfl) (u_put (Nat.lt_of_lt_of_eq (by decide : 6 < 11) rfl) (u_put (Nat.lt_of_lt_of_eq (by decide : 7 < 11) rfl) (u_put (Nat.lt_of_lt_of_eq (by decide : 8 < 11) rfl) (u_put (Nat.lt_of_lt_of_eq (by decide : 9 < 11) rfl) (u_put (Nat.lt_of_lt_of_eq (by decide : 10 < 11) rfl) ?_)))))
  exact hk
theorem p_planReserve {k : Mem → Prop} (ho : o < 2 ^ 31) (hk : k (mUp M a (jc o f 4 (3 * 2 ^ 24) 1 lv m t x y mb))) : f_X1_planReserve K a k (mUp M a (jc (o + 1) f g b tr lv m t x y mb)) := by
  unfold f_X1_planReserve
  refine u_getI rfl ?_
  rw [show Int32.ofNat (o + 1) - 1 = Int32.ofNat o by rw [← i_succ]; exact Int32.add_sub_cancel _ _, em_c3]
  refine u_put (Nat.lt_of_lt_of_eq (by decide : 0 < 11) rfl) (u_put (Nat.lt_of_lt_of_eq (by decide : 2 < 11) rfl) (u_put (Nat.lt_of_lt_of_eq (by decide : 3 < 11) rfl) (u_putZ (Or.inr rfl) (Nat.lt_of_lt_of_eq (by decide : 4 < 11) rfl) ?_)))
  exact hk
def glN (l : UInt32) : Nat := 1 + (FP.f2i (FP.fdiv 1090519040 l)).toInt.toNat
def fwK (lic : Int32) (l : UInt32) : Int := FP.Core.zval FP.Core.b64 (FP.Core.val64 (fwBits lic l)) / ((2 ^ 1050 : Nat) : Int)
theorem LD.gl {l : UInt32} (h : LD l) : 1 + FP.f2i (FP.fdiv 1090519040 l) = Int32.ofNat (glN l) ∧ glN l ≤ 32 ∧ 1 ≤ glN l := by
  obtain ⟨h1, h2, h3⟩ := h.glide
  unfold glN
  refine ⟨?_, by omega, by omega⟩
  generalize FP.f2i (FP.fdiv 1090519040 l) = z at h2 h3
  have h9 : (1 : Int32).toInt = 1 := rfl
  rw [← Int32.toInt_inj, i_toInt (by omega), i_add (by omega) (by omega), h9]
  omega
theorem LD.fw {l : UInt32} (h : LD l) (lic : Int32) : fwBits lic l = em (fwK lic l) ∧ 0 < fwK lic l ∧ fwK lic l < 2 ^ 31 := by
  obtain ⟨-, -, -, h1⟩ := h.fwd
  obtain ⟨b, h2, h3, h4⟩ := h1 lic
  have h5 : fwK lic l = b := by
    unfold fwK
    rw [h4, em_zval (by omega)]
    exact Int.mul_ediv_cancel _ (by have := Int.natCast_pos.mpr (Nat.two_pow_pos 1050); omega)
  rw [h5]
  exact ⟨h4, h2, h3⟩
theorem p_plan {k : Mem → Prop} {lic style : Int32} {o9 : Nat} {l : UInt32} (h : LD l) (hk : k (mUp M a (jc o9 (if style = 0 then 2 else 1) (glN l) (fwK lic l) 0 lv m t x y mb))) : f_X1_plan K a lic style (Int32.ofNat o9) l k (mUp M a (jc o f g b tr lv m t x y mb)) := by
  obtain ⟨n1, n2, n3, -⟩ := h.fwd
  have hf := (h.fw lic).1
  unfold fwBits at hf
  have hc : ¬ Op.cmpValue (FP.fcmp l FP.fconst0) .l ≤ 0 := by
    rw [h.cmpC (show FP.fconst0.toNat ≤ 2139095040 by decide), cv_le]
    have := h.1
    show ¬ (l.toNat : Int) ≤ ((0 : Nat) : Int)
    omega
  have key : ∀ z : Nat, z = (if style = 0 then 2 else 1) → f_X1_plan_b15 K k a lic l a (Int32.ofNat z) (mUp M a (jc o9 f g b tr lv m t x y mb)) := by
    intro z hz
    rw [← hz] at hk
    unfold f_X1_plan_b15
    refine u_put (Nat.lt_of_lt_of_eq (by decide : 1 < 11) rfl) (s_ifF hc (s_as h.glide.1 ?_))
    rw [h.gl.1]
    unfold f_X1_plan_b38
    refine u_put (Nat.lt_of_lt_of_eq (by decide : 2 < 11) rfl) (s_as n1 (s_as n2 (s_if (fun c => s_as n3 ?_) (fun c => ?_))))
    · rw [if_pos c] at hf
      rw [hf]
      refine u_put (Nat.lt_of_lt_of_eq (by decide : 3 < 11) rfl) (u_putZ (Or.inl rfl) (Nat.lt_of_lt_of_eq (by decide : 4 < 11) rfl) ?_)
      exact hk
    · rw [if_neg c] at hf
      rw [hf]
      refine u_put (Nat.lt_of_lt_of_eq (by decide : 3 < 11) rfl) (u_putZ (Or.inl rfl) (Nat.lt_of_lt_of_eq (by decide : 4 < 11) rfl) ?_)
      exact hk
  unfold f_X1_plan
  refine u_put (Nat.lt_of_lt_of_eq (by decide : 0 < 11) rfl) (s_if (fun c => ?_) (fun c => ?_))
  · exact key 2 (by rw [if_pos c])
  · exact key 1 (by rw [if_neg c])
end JUMP
