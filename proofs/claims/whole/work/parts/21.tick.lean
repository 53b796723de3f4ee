/-! ===== ONE JUMP, A TICK: the reference's tick is the same step ===== -/
def jq (its mo : Nat) (fr st : Int32) (l : UInt32) (x y : Int) (m t op : Nat) (io ir it : Int32) : va_E := .inr (7, [.ref its, .int fr, .int st, .float l, .double (em x), .double (em y), .int (lyr m), .int (Int32.ofNat t), .int (Int32.ofNat op), .int io, .int ir, .int it, .ref mo])
def envR (K : Cfg) (its mo wx wy : Nat) (lic : Int32) (X Y : Nat → Int32) (M : Mem) : Prop := (∃ js : List Value, M its = some (.inr (8, js)) ∧ js[1]? = some (.int lic)) ∧ (∃ ms : List Value, M mo = some (.inr (10, ms)) ∧ ms[3]? = some (.ref wx) ∧ ms[4]? = some (.ref wy)) ∧ M wx = some (.inl (K.2.1 0, 10, .inl X)) ∧ M wy = some (.inl (K.2.1 0, 10, .inl Y))
section TICK
variable {K : Cfg} {M : Mem} {a its mo wx wy m t op : Nat} {b x y : Int} {fr st io ir it lic : Int32} {l : UInt32} {X Y : Nat → Int32}
theorem envR.up {e : va_E} (h : envR K its mo wx wy lic X Y M) (h1 : its ≠ a) (h2 : mo ≠ a) (h3 : wx ≠ a) (h4 : wy ≠ a) : envR K its mo wx wy lic X Y (mUp M a e) := by
  obtain ⟨⟨js, p1, p2⟩, ⟨ms, p3, p4⟩, p5, p6⟩ := h
  exact ⟨⟨js, (mUp_ne h1).trans p1, p2⟩, ⟨ms, (mUp_ne h2).trans p3, p4⟩, (mUp_ne h3).trans p5, (mUp_ne h4).trans p6⟩
theorem q_isDown {k : Int32 → Mem → Prop} (h : M a = some (jq its mo fr st l x y m t op io ir it)) (hm : m ≤ 10) (hk : k (if m = 0 then 1 else 0) M) : f_X6_isDown K a k M := by
  unfold f_X6_isDown
  refine s_getI h rfl (s_if (fun hc => ?_) (fun hc => ?_))
  · rw [lyr_ge hm] at hc
    rw [if_neg (by omega)] at hk
    exact s_as (Or.inl rfl) hk
  · rw [lyr_ge hm] at hc
    rw [if_pos (by omega)] at hk
    exact s_as (Or.inr rfl) hk
theorem q_nearer {k : UInt64 → Mem → Prop} (hx : x.natAbs < 2 ^ 52) (hb : 0 < b) (hb2 : b < 2 ^ 31) (hk : k (em (nearK x b)) M) : f_X6_nearer K a (em x) (em b) k M := by
  unfold f_X6_nearer
  unfold nearK at hk
  rw [em_c0, em_cmp (by omega) (by decide), em_add (by omega) (by omega), em_sub (by omega) (by omega)]
  refine s_if (fun hc => ?_) (fun hc => ?_)
  · rw [cv_le] at hc
    refine s_as (em_nan (by omega)) (s_as ⟨em_nan (by decide), em_nan (by omega)⟩ ?_)
    rw [em_pickF (by decide) (by omega)]
    rw [if_pos (by omega)] at hk
    by_cases h2 : -b ≤ x
    · rw [if_pos h2] at hk
      rw [Int.min_eq_left (by omega)]; exact hk
    · rw [if_neg h2] at hk
      rw [Int.min_eq_right (by omega)]; exact hk
  · rw [cv_le] at hc
    refine s_as (em_nan (by omega)) (s_as ⟨em_nan (by decide), em_nan (by omega)⟩ ?_)
    rw [em_pickT (by decide) (by omega)]
    by_cases h2 : x ≤ b
    · rw [if_pos h2, if_pos (by omega)] at hk
      rw [Int.max_eq_left (by omega)]; exact hk
    · rw [if_neg h2] at hk
      rw [Int.max_eq_right (by omega)]; exact hk
theorem q_forward {k : UInt64 → Mem → Prop} (hl : LD l) (h : M a = some (jq its mo fr st l x y m t op io ir it)) (hj : ∃ js : List Value, M its = some (.inr (8, js)) ∧ js[1]? = some (.int lic)) (hk : k (em (if ir = 0 then fwK lic l else 3 * 2 ^ 24)) M) : f_X6_forward K a k M := by
  obtain ⟨n1, n2, n3, -⟩ := hl.fwd
  have hf := (hl.fw lic).1
  unfold fwBits at hf
  obtain ⟨js, p1, p2⟩ := hj
  unfold f_X6_forward
  refine s_getI h rfl (s_if (fun hc => s_getR h rfl (s_getI p1 p2 (s_if (fun c2 => ?_) (fun c2 => ?_)))) (fun hc => ?_))
  · rw [if_pos hc] at hk
    rw [if_pos c2] at hf
    refine s_getF h rfl (s_as n1 (s_as n2 (s_as n3 ?_)))
    rw [hf]; exact hk
  · rw [if_pos hc] at hk
    rw [if_neg c2] at hf
    refine s_getF h rfl (s_as n1 (s_as n2 ?_))
    rw [hf]; exact hk
  · rw [if_neg hc, ← em_c3] at hk
    exact hk
theorem q_stay {k : Int32 → Mem → Prop} {z : Nat} (hl : LD l) (h : M a = some (jq its mo fr st l x y m t op io ir it)) (hz : z = if io = 0 then (if st = 0 then 2 else 1) else (if ir = 0 then glN l else 4)) (hk : k (Int32.ofNat z) M) : f_X6_stay K a k M := by
  have b18 : (io = 0 ∨ ir = 0) → f_X6_stay_b18 K k a M := fun hc => by
    unfold f_X6_stay_b18
    refine s_getI h rfl (s_if (fun c1 => s_getI h rfl (s_if (fun c2 => ?_) (fun c2 => ?_))) (fun c1 => ?_))
    · rw [if_pos c1, if_pos c2] at hz; subst hz; exact hk
    · rw [if_pos c1, if_neg c2] at hz; subst hz; exact hk
    · rw [if_neg c1, if_pos (hc.resolve_left c1)] at hz
      refine s_getF h rfl (s_as hl.glide.1 ?_)
      rw [hl.gl.1, ← hz]; exact hk
  unfold f_X6_stay
  refine s_getI h rfl (s_if (fun c1 => b18 (Or.inr c1)) (fun c1 => s_getI h rfl (s_if (fun c2 => b18 (Or.inl c2)) (fun c2 => ?_))))
  rw [if_neg c2, if_neg c1] at hz
  subst hz; exact hk
theorem q_steer {k : Mem → Prop} (hl : LD l) (he : envR K its mo wx wy lic X Y M) (e1 : its ≠ a) (e2 : mo ≠ a) (e3 : wx ≠ a) (e4 : wy ≠ a) (h1 : 1 ≤ m) (hm : m ≤ 10) (hX : (X (m - 1)).toInt.natAbs ≤ 20) (hY : (Y (m - 1)).toInt.natAbs ≤ 20) (hx : x.natAbs < 2 ^ 51) (hy : y.natAbs < 2 ^ 51) (hbz : b = if ir = 0 then fwK lic l else 3 * 2 ^ 24)
    (hk : k (mUp M a (jq its mo fr st l (if (x + (X (m - 1)).toInt * 2 ^ 24).natAbs < (y + (Y (m - 1)).toInt * 2 ^ 24).natAbs then x + (X (m - 1)).toInt * 2 ^ 24 else nearK (x + (X (m - 1)).toInt * 2 ^ 24) b) (if (x + (X (m - 1)).toInt * 2 ^ 24).natAbs < (y + (Y (m - 1)).toInt * 2 ^ 24).natAbs then nearK (y + (Y (m - 1)).toInt * 2 ^ 24) b else y + (Y (m - 1)).toInt * 2 ^ 24) m t op io ir it))) : f_X6_steer K a k (mUp M a (jq its mo fr st l x y m t op io ir it)) := by
  have hi : ∀ w : Int32, w.toInt.natAbs ≤ 20 → FP.i2d w = em (w.toInt * 2 ^ 24) := fun w h => em_i2d (by omega)
  have hb : 0 < b ∧ b < 2 ^ 31 := by
    rw [hbz]; split
    · exact (hl.fw lic).2
    · decide
  obtain ⟨hj, ⟨ms, p3, p4, p5⟩, p6, p7⟩ := he
  have hj2 : ∀ e : va_E, ∃ js : List Value, mUp M a e its = some (.inr (8, js)) ∧ js[1]? = some (.int lic) := fun e => by
    obtain ⟨js, q1, q2⟩ := hj
    exact ⟨js, (mUp_ne e1).trans q1, q2⟩
  unfold f_X6_steer
  refine u_getD rfl (u_getR rfl (s_getR ((mUp_ne e2).trans p3) p4 (u_getI rfl (s_ldI ((mUp_ne e3).trans p6) (lyr_in h1 hm) ?_))))
  rw [lyr_nat hm, hi _ hX, em_add (by omega) (by omega)]
  refine s_as (em_nan (by omega)) (u_put (Nat.lt_of_lt_of_eq (by decide : 4 < 13) rfl) (u_getD rfl (u_getR rfl (s_getR ((mUp_ne e2).trans p3) p5 (u_getI rfl (s_ldI ((mUp_ne e4).trans p7) (lyr_in h1 hm) ?_))))))
  rw [lyr_nat hm, hi _ hY, em_add (by omega) (by omega)]
  refine s_as (em_nan (by omega)) (u_put (Nat.lt_of_lt_of_eq (by decide : 5 < 13) rfl) ?_)
  generalize hx1 : x + (X (m - 1)).toInt * 2 ^ 24 = x1 at hk ⊢
  generalize hy1 : y + (Y (m - 1)).toInt * 2 ^ 24 = y1 at hk ⊢
  have bx : x1.natAbs < 2 ^ 52 := by omega
  have bY : y1.natAbs < 2 ^ 52 := by omega
  refine u_getD rfl (s_as (em_nan (by omega)) (u_getD rfl (s_as (em_nan (by omega)) ?_)))
  rw [em_abs (by omega), em_abs (by omega), em_cmp (by omega) (by omega)]
  refine s_if (fun hc => ?_) (fun hc => ?_)
  · rw [cv_lt] at hc
    rw [if_pos (by omega), if_pos (by omega)] at hk
    refine u_getD rfl (u_recv (q_forward (its := its) (mo := mo) (fr := fr) (st := st) (l := l) (x := x1) (y := y1) (m := m) (t := t) (op := op) (io := io) (ir := ir) (it := it) hl mUp_same (hj2 _) ?_))
    rw [← hbz]
    refine u_recv (q_nearer bY hb.1 hb.2 (u_put (Nat.lt_of_lt_of_eq (by decide : 5 < 13) rfl) ?_))
    exact hk
  · rw [cv_lt] at hc
    rw [if_neg (by omega), if_neg (by omega)] at hk
    refine u_getD rfl (u_recv (q_forward (its := its) (mo := mo) (fr := fr) (st := st) (l := l) (x := x1) (y := y1) (m := m) (t := t) (op := op) (io := io) (ir := ir) (it := it) hl mUp_same (hj2 _) ?_))
    rw [← hbz]
    refine u_recv (q_nearer bx hb.1 hb.2 (u_put (Nat.lt_of_lt_of_eq (by decide : 4 < 13) rfl) ?_))
    exact hk
end TICK
