/-! ===== ONE JUMP, A TICK: the reference's tick is the same step ===== -/
def jq (its mo : Nat) (fr st : Int32) (l : UInt32) (x y : Int) (m t op : Nat) (io ir it : Int32) : va_E := .inr (7, [.ref its, .int fr, .int st, .float l, .double (em x), .double (em y), .int (lyr m), .int (Int32.ofNat t), .int (Int32.ofNat op), .int io, .int ir, .int it, .ref mo])
def envR (K : Cfg) (its mo wx wy : Nat) (lic : Int32) (X Y : Nat → Int32) (M : Mem) : Prop := (∃ js : List Value, M its = some (.inr (8, js)) ∧ js[1]? = some (.int lic)) ∧ (∃ ms : List Value, M mo = some (.inr (10, ms)) ∧ ms[3]? = some (.ref wx) ∧ ms[4]? = some (.ref wy)) ∧ M wx = some (.inl (K.2.1 0, 10, .inl X)) ∧ M wy = some (.inl (K.2.1 0, 10, .inl Y))
section TICK
variable {K : Cfg} {M : Mem} {a its mo wx wy m t op : Nat} {b x y : Int} {fr st io ir it lic : Int32} {l : UInt32} {X Y : Nat → Int32}
theorem envR.up {e : va_E} (h : envR K its mo wx wy lic X Y M) (h1 : its ≠ a) (h2 : mo ≠ a) (h3 : wx ≠ a) (h4 : wy ≠ a) : envR K its mo wx wy lic X Y (mUp M a e) := by
  obtain ⟨⟨js, p1, p2⟩, ⟨ms, p3, p4⟩, p5, p6⟩ := h
  exact ⟨⟨js, (mUp_ne h1).trans p1, p2⟩, ⟨ms, (mUp_ne h2).trans p3, p4⟩, (mUp_ne h3).trans p5, (mUp_ne h4).trans p6⟩
theorem q_isDown {k : Int32 → Mem → Prop} (h : M a = some (jq its mo fr st l x y m t op io ir it)) (hm : m ≤ 10) (hk : k (if m = 0 then 1 else 0) M) : f_X6_isDown K a k M := by
  unfold f_X6_isDown
  refine s_getI h rfl (s_if (fun hc => ?_) (fun hc => ?_))
  · rw [lyr_ge hm] at hc
    rw [if_neg (by omega)] at hk
    exact s_as (Or.inl rfl) hk
  · rw [lyr_ge hm] at hc
    rw [if_pos (by omega)] at hk
    exact s_as (Or.inr rfl) hk
theorem q_nearer {k : UInt64 → Mem → Prop} (hx : x.natAbs < 2 ^ 52) (hb : 0 < b) (hb2 : b < 2 ^ 31) (hk : k (em (nearK x b)) M) : f_X6_nearer K a (em x) (em b) k M := by
  unfold f_X6_nearer
  unfold nearK at hk
  rw [em_c0, em_cmp (by omega) (by decide), em_add (by omega) (by omega), em_sub (by omega) (by omega)]
  refine s_if (fun hc => ?_) (fun hc => ?_)
  · rw [cv_le] at hc
    refine s_as (em_nan (by omega)) (s_as ⟨em_nan (by decide), em_nan (by omega)⟩ ?_)
    rw [em_pickF (by decide) (by omega)]
    rw [if_pos (by omega)] at hk
    by_cases h2 : -b ≤ x
    · rw [if_pos h2] at hk
      rw [Int.min_eq_left (by omega)]; exact hk
    · rw [if_neg h2] at hk
      rw [Int.min_eq_right (by omega)]; exact hk
  · rw [cv_le] at hc
    refine s_as (em_nan (by omega)) (s_as ⟨em_nan (by decide), em_nan (by omega)⟩ ?_)
    rw [em_pickT (by decide) (by omega)]
    by_cases h2 : x ≤ b
    · rw [if_pos h2, if_pos (by omega)] at hk
      rw [Int.max_eq_left (by omega)]; exact hk
    · rw [if_neg h2] at hk
      rw [Int.max_eq_right (by omega)]; exact hk
theorem q_forward {k : UInt64 → Mem → Prop} (hl : LD l) (h : M a = some (jq its mo fr st l x y m t op io ir it)) (hj : ∃ js : List Value, M its = some (.inr (8, js)) ∧ js[1]? = some (.int lic)) (hk : k (em (if ir = 0 then fwK lic l else 3 * 2 ^ 24)) M) : f_X6_forward K a k M := by
  obtain ⟨n1, n2, n3, -⟩ := hl.fwd
  have hf := (hl.fw lic).1
  unfold fwBits at hf
  obtain ⟨js, p1, p2⟩ := hj
  unfold f_X6_forward
  refine s_getI h rfl (s_if (fun hc => s_getR h rfl (s_getI p1 p2 (s_if (fun c2 => ?_) (fun c2 => ?_)))) (fun hc => ?_))
  · rw [if_pos hc] at hk
    rw [if_pos c2] at hf
    refine s_getF h rfl (s_as n1 (s_as n2 (s_as n3 ?_)))
    rw [hf]; exact hk
  · rw [if_pos hc] at hk
    rw [if_neg c2] at hf
    refine s_getF h rfl (s_as n1 (s_as n2 ?_))
    rw [hf]; exact hk
  · rw [if_neg hc, ← em_c3] at hk
    exact hk
theorem q_stay {k : Int32 → Mem → Prop} {z : Nat} (hl : LD l) (h : M a = some (jq its mo fr st l x y m t op io ir it)) (hz : z = if io = 0 then (if st = 0 then 2 else 1) else (if ir = 0 then glN l else 4)) (hk : k (Int32.ofNat z) M) : f_X6_stay K a k M := by
  have b18 : (io = 0 ∨ ir = 0) → f_X6_stay_b18 K k a M := fun hc => by
    unfold f_X6_stay_b18
    refine s_getI h rfl (s_if (fun c1 => s_getI h rfl (s_if (fun c2 => ?_) (fun c2 => ?_))) (fun c1 => ?_))
    · rw [if_pos c1, if_pos c2] at hz; subst hz; exact hk
    · rw [if_pos c1, if_neg c2] at hz; subst hz; exact hk
    · rw [if_neg c1, if_pos (hc.resolve_left c1)] at hz
      refine s_getF h rfl (s_as hl.glide.1 ?_)
      rw [hl.gl.1, ← hz]; exact hk
  unfold f_X6_stay
  refine s_getI h rfl (s_if (fun c1 => b18 (Or.inr c1)) (fun c1 => s_getI h rfl (s_if (fun c2 => b18 (Or.inl c2)) (fun c2 => ?_))))
  rw [if_neg c2, if_neg c1] at hz
  subst hz; exact hk
theorem q_steer {k : Mem → Prop} (hl : LD l) (he : envR K its mo wx wy lic X Y M) (e1 : its ≠ a) (e2 : mo ≠ a) (e3 : wx ≠ a) (e4 : wy ≠ a) (h1 : 1 ≤ m) (hm : m ≤ 10) (hX : (X (m - 1)).toInt.natAbs ≤ 20) (hY : (Y (m - 1)).toInt.natAbs ≤ 20) (hx : x.natAbs < 2 ^ 51) (hy : y.natAbs < 2 ^ 51) (hbz : b = if ir = 0 then fwK lic l else 3 * 2 ^ 24)
    (hk : k (mUp M a (jq its mo fr st l (if (x + (X (m - 1)).toInt * 2 ^ 24).natAbs < (y + (Y (m - 1)).toInt * 2 ^ 24).natAbs then x + (X (m - 1)).toInt * 2 ^ 24 else nearK (x + (X (m - 1)).toInt * 2 ^ 24) b) (if (x + (X (m - 1)).toInt * 2 ^ 24).natAbs < (y + (Y (m - 1)).toInt * 2 ^ 24).natAbs then nearK (y + (Y (m - 1)).toInt * 2 ^ 24) b else y + (Y (m - 1)).toInt * 2 ^ 24) m t op io ir it))) : f_X6_steer K a k (mUp M a (jq its mo fr st l x y m t op io ir it)) := by
  have hi : ∀ w : Int32, w.toInt.natAbs ≤ 20 → FP.i2d w = em (w.toInt * 2 ^ 24) := fun w h => em_i2d (by omega)
  have hb : 0 < b ∧ b < 2 ^ 31 := by
    rw [hbz]; split
    · exact (hl.fw lic).2
    · decide
  obtain ⟨hj, ⟨ms, p3, p4, p5⟩, p6, p7⟩ := he
  have hj2 : ∀ e : va_E, ∃ js : List Value, mUp M a e its = some (.inr (8, js)) ∧ js[1]? = some (.int lic) := fun e => by
    obtain ⟨js, q1, q2⟩ := hj
    exact ⟨js, (mUp_ne e1).trans q1, q2⟩
  unfold f_X6_steer
  refine u_getD rfl (u_getR rfl (s_getR ((mUp_ne e2).trans p3) p4 (u_getI rfl (s_ldI ((mUp_ne e3).trans p6) (lyr_in h1 hm) ?_))))
  rw [lyr_nat hm, hi _ hX, em_add (by omega) (by omega)]
  refine s_as (em_nan (by omega)) (u_put (Nat.lt_of_lt_of_eq (by decide : 4 < 13) rfl) (u_getD rfl (u_getR rfl (s_getR ((mUp_ne e2).trans p3) p5 (u_getI rfl (s_ldI ((mUp_ne e4).trans p7) (lyr_in h1 hm) ?_))))))
  rw [lyr_nat hm, hi _ hY, em_add (by omega) (by omega)]
  refine s_as (em_nan (by omega)) (u_put (Nat.lt_of_lt_of_eq (by decide : 5 < 13) rfl) ?_)
  generalize hx1 : x + (X (m - 1)).toInt * 2 ^ 24 = x1 at hk ⊢
  generalize hy1 : y + (Y (m - 1)).toInt * 2 ^ 24 = y1 at hk ⊢
  have bx : x1.natAbs < 2 ^ 52 := by omega
  have bY : y1.natAbs < 2 ^ 52 := by omega
  refine u_getD rfl (s_as (em_nan (by omega)) (u_getD rfl (s_as (em_nan (by omega)) ?_)))
  rw [em_abs (by omega), em_abs (by omega), em_cmp (by omega) (by omega)]
  refine s_if (fun hc => ?_) (fun hc => ?_)
  · rw [cv_lt] at hc
    rw [if_pos (by omega), if_pos (by omega)] at hk
    refine u_getD rfl (u_recv (q_forward (its := its) (mo := mo) (fr := fr) (st := st) (l := l) (x := x1) (y := y1) (m := m) (t := t) (op := op) (io := io) (ir := ir) (it := it) hl mUp_same (hj2 _) ?_))
    rw [← hbz]
    refine u_recv (q_nearer bY hb.1 hb.2 (u_put (Nat.lt_of_lt_of_eq (by decide : 5 < 13) rfl) ?_))
    exact hk
  · rw [cv_lt] at hc
    rw [if_neg (by omega), if_neg (by omega)] at hk
    refine u_getD rfl (u_recv (q_forward (its := its) (mo := mo) (fr := fr) (st := st) (l := l) (x := x1) (y := y1) (m := m) (t := t) (op := op) (io := io) (ir := ir) (it := it) hl mUp_same (hj2 _) ?_))
    rw [← hbz]
    refine u_recv (q_nearer bx hb.1 hb.2 (u_put (Nat.lt_of_lt_of_eq (by decide : 4 < 13) rfl) ?_))
    exact hk
theorem lyr_eq {m op : Nat} (h : m ≤ 10) (ho : op < 2 ^ 30) : lyr m = Int32.ofNat op ↔ m = op + 1 := by
  rw [← Int32.toInt_inj, lyr_toInt h, i_toInt (by omega)]; omega
theorem i_pred {a : Nat} : Int32.ofNat (a + 1) - 1 = Int32.ofNat a := by
  rw [← i_succ]; exact Int32.add_sub_cancel _ _
theorem q_b66raw {k : Mem → Prop} {z : Nat} (hl : LD l) (hm : m ≤ 9) (ht : t ≤ 31) (hop : 1 ≤ op) (hop2 : op ≤ 10) (hz : z = if io = 0 then (if st = 0 then 2 else 1) else (if ir = 0 then glN l else 4)) (hz2 : z ≤ 32)
    (hN : t + 1 < z → k (mUp M a (jq its mo fr st l x y (m + 1) (t + 1) op io ir it)))
    (hA : ¬ t + 1 < z → (io ≠ 0 ∨ m ≠ op + 1) → k (mUp M a (jq its mo fr st l x y m 0 op io ir it)))
    (hB : ¬ t + 1 < z → io = 0 → m = op + 1 → (it = 0 ∨ ir ≠ 0) → k (mUp M a (jq its mo fr st l x y m 0 op 1 ir it)))
    (hC : ¬ t + 1 < z → io = 0 → m = op + 1 → it ≠ 0 → ir = 0 → k (mUp M a (jq its mo fr st l x y m 0 (op - 1) io 1 it))) : f_X6_tick_b66 K k a (mUp M a (jq its mo fr st l x y (m + 1) t op io ir it)) := by
  unfold f_X6_tick_b66
  refine u_getI rfl ?_
  rw [i_succ]
  refine u_put (Nat.lt_of_lt_of_eq (by decide : 7 < 13) rfl) (u_getI rfl (u_recv (q_stay (its := its) (mo := mo) (fr := fr) (st := st) (l := l) (x := x) (y := y) (m := m + 1) (t := t + 1) (op := op) (io := io) (ir := ir) (it := it) hl mUp_same hz ?_)))
  refine s_if (fun hc => ?_) (fun hc => ?_)
  · rw [i_le (by omega) (by omega)] at hc
    refine u_put (Nat.lt_of_lt_of_eq (by decide : 7 < 13) rfl) (u_getI rfl ?_)
    rw [lyr_pred hm]
    refine u_put (Nat.lt_of_lt_of_eq (by decide : 6 < 13) rfl) (u_getI rfl (s_if (fun c1 => u_getI rfl (u_getI rfl (s_if (fun c2 => u_getI rfl (s_if (fun c3 => ?_) (fun c3 => u_getI rfl (s_if (fun c4 => ?_) (fun c4 => ?_))))) (fun c2 => ?_)))) (fun c1 => ?_)))
    · rw [lyr_eq (by omega) (by omega)] at c2
      exact u_putZ (Or.inr rfl) (Nat.lt_of_lt_of_eq (by decide : 9 < 13) rfl) (hB (by omega) c1 c2 (Or.inl c3))
    · rw [lyr_eq (by omega) (by omega)] at c2
      obtain ⟨op, rfl⟩ : ∃ n, op = n + 1 := ⟨op - 1, by omega⟩
      refine u_putZ (Or.inr rfl) (Nat.lt_of_lt_of_eq (by decide : 10 < 13) rfl) (u_getI rfl ?_)
      rw [i_pred]
      exact u_put (Nat.lt_of_lt_of_eq (by decide : 8 < 13) rfl) (hC (by omega) c1 c2 c3 c4)
    · rw [lyr_eq (by omega) (by omega)] at c2
      exact u_putZ (Or.inr rfl) (Nat.lt_of_lt_of_eq (by decide : 9 < 13) rfl) (hB (by omega) c1 c2 (Or.inr c4))
    · rw [lyr_eq (by omega) (by omega)] at c2
      exact hA (by omega) (Or.inr c2)
    · exact hA (by omega) (Or.inl c1)
  · rw [i_le (by omega) (by omega)] at hc
    exact hN (by omega)
def opF (oo : Nat) (tr : Bool) : Nat := if tr = true then oo - 1 else oo
def faF (st : Int32) : Nat := if st = 0 then 2 else 1
def glF (l : UInt32) (tr : Bool) : Nat := if tr = true then 4 else glN l
def fwF (lic : Int32) (l : UInt32) (tr : Bool) : Int := if tr = true then 3 * 2 ^ 24 else fwK lic l
def jr (its mo : Nat) (fr st : Int32) (l : UInt32) (oo : Nat) (tr : Bool) (s : JS) : va_E := jq its mo fr st l s.2.2.1 s.2.2.2 s.1 s.2.1 (if tr = true ∧ s.1 ≤ oo + 1 then oo - 1 else oo) (if s.1 ≤ opF oo tr + 1 then 1 else 0) (if tr = true ∧ s.1 ≤ oo + 1 then 1 else 0) (if tr = true then 1 else 0)
theorem jr_eq {its mo : Nat} {fr st : Int32} {l : UInt32} {oo : Nat} {tr : Bool} {m t : Nat} {x y : Int} {op : Nat} {io ir it : Int32} (h1 : (if tr = true ∧ m ≤ oo + 1 then oo - 1 else oo) = op) (h2 : (if m ≤ opF oo tr + 1 then 1 else 0) = io) (h3 : (if tr = true ∧ m ≤ oo + 1 then 1 else 0) = ir) (h4 : (if tr = true then 1 else 0) = it) : jr its mo fr st l oo tr (m, t, x, y) = jq its mo fr st l x y m t op io ir it := by
  subst h1; subst h2; subst h3; subst h4; rfl
theorem q_b66 {k : Mem → Prop} {oo : Nat} {tr : Bool} (hl : LD l) (o1 : 2 ≤ oo) (o2 : oo ≤ 6) (hm : m ≤ 9) (ht : t ≤ 31) (hk : k (mUp M a (jr its mo fr st l oo tr (stM (opF oo tr) (faF st) (glF l tr) (m + 1) t, stT (opF oo tr) (faF st) (glF l tr) (m + 1) t, x, y)))) : f_X6_tick_b66 K k a (mUp M a (jr its mo fr st l oo tr (m + 1, t, x, y))) := by
  have hgl := hl.gl
  unfold stM stT at hk
  have hst : (if st = 0 then 2 else 1) ≤ 32 := by split <;> decide
  cases tr with
  | false =>
    have eo : opF oo false = oo := rfl
    rw [eo] at hk
    by_cases h1 : m + 1 ≤ oo + 1
    · rw [if_pos h1] at hk
      rw [jr_eq (op := oo) (io := 1) (ir := 0) (it := 0) (by simp) (by rw [eo, if_pos h1]) (by simp) (by simp)]
      refine q_b66raw (z := glN l) hl hm ht (by omega) (by omega) (by simp) hgl.2.1 (fun h => ?_) (fun h _ => ?_) (fun _ h => by simp at h) (fun _ h => by simp at h)
      · rw [show glF l false = glN l from rfl, if_pos h, if_pos h, jr_eq (op := oo) (io := 1) (ir := 0) (it := 0) (by simp) (by rw [eo, if_pos h1]) (by simp) (by simp)] at hk; exact hk
      · rw [show glF l false = glN l from rfl, if_neg h, if_neg h, jr_eq (op := oo) (io := 1) (ir := 0) (it := 0) (by simp) (by rw [eo, if_pos (by omega)]) (by simp) (by simp)] at hk; exact hk
    · rw [if_neg h1] at hk
      rw [jr_eq (op := oo) (io := 0) (ir := 0) (it := 0) (by simp) (by rw [eo, if_neg h1]) (by simp) (by simp)]
      refine q_b66raw (z := faF st) hl hm ht (by omega) (by omega) (by simp [faF]) hst (fun h => ?_) (fun h h3 => ?_) (fun h _ h3 _ => ?_) (fun _ _ _ h => by simp at h)
      · rw [if_pos h, if_pos h, jr_eq (op := oo) (io := 0) (ir := 0) (it := 0) (by simp) (by rw [eo, if_neg h1]) (by simp) (by simp)] at hk; exact hk
      · have h4 : m ≠ oo + 1 := h3.resolve_left (by simp)
        rw [if_neg h, if_neg h, jr_eq (op := oo) (io := 0) (ir := 0) (it := 0) (by simp) (by rw [eo, if_neg (by omega)]) (by simp) (by simp)] at hk; exact hk
      · rw [if_neg h, if_neg h, jr_eq (op := oo) (io := 1) (ir := 0) (it := 0) (by simp) (by rw [eo, if_pos (by omega)]) (by simp) (by simp)] at hk; exact hk
  | true =>
    have eo : opF oo true = oo - 1 := rfl
    rw [eo] at hk
    by_cases h1 : m + 1 ≤ oo - 1 + 1
    · rw [if_pos h1] at hk
      rw [jr_eq (op := oo - 1) (io := 1) (ir := 1) (it := 1) (by rw [if_pos ⟨rfl, by omega⟩]) (by rw [eo, if_pos h1]) (by rw [if_pos ⟨rfl, by omega⟩]) (by simp)]
      refine q_b66raw (z := 4) hl hm ht (by omega) (by omega) (by simp) (by decide) (fun h => ?_) (fun h _ => ?_) (fun _ h => by simp at h) (fun _ h => by simp at h)
      · rw [show glF l true = 4 from rfl, if_pos h, if_pos h, jr_eq (op := oo - 1) (io := 1) (ir := 1) (it := 1) (by rw [if_pos ⟨rfl, by omega⟩]) (by rw [eo, if_pos h1]) (by rw [if_pos ⟨rfl, by omega⟩]) (by simp)] at hk; exact hk
      · rw [show glF l true = 4 from rfl, if_neg h, if_neg h, jr_eq (op := oo - 1) (io := 1) (ir := 1) (it := 1) (by rw [if_pos ⟨rfl, by omega⟩]) (by rw [eo, if_pos (by omega)]) (by rw [if_pos ⟨rfl, by omega⟩]) (by simp)] at hk; exact hk
    · rw [if_neg h1] at hk
      by_cases h2 : m + 1 ≤ oo + 1
      · rw [jr_eq (op := oo - 1) (io := 0) (ir := 1) (it := 1) (by rw [if_pos ⟨rfl, h2⟩]) (by rw [eo, if_neg h1]) (by rw [if_pos ⟨rfl, h2⟩]) (by simp)]
        refine q_b66raw (z := faF st) hl hm ht (by omega) (by omega) (by simp [faF]) hst (fun h => ?_) (fun h h3 => absurd (by omega) (h3.resolve_left (by simp))) (fun h _ h3 _ => ?_) (fun _ _ _ _ h => by simp at h)
        · rw [if_pos h, if_pos h, jr_eq (op := oo - 1) (io := 0) (ir := 1) (it := 1) (by rw [if_pos ⟨rfl, h2⟩]) (by rw [eo, if_neg h1]) (by rw [if_pos ⟨rfl, h2⟩]) (by simp)] at hk; exact hk
        · rw [if_neg h, if_neg h, jr_eq (op := oo - 1) (io := 1) (ir := 1) (it := 1) (by rw [if_pos ⟨rfl, by omega⟩]) (by rw [eo, if_pos (by omega)]) (by rw [if_pos ⟨rfl, by omega⟩]) (by simp)] at hk; exact hk
      · have n2 : ∀ n : Nat, ¬ n ≤ oo + 1 → ¬ (true = true ∧ n ≤ oo + 1) := fun n h h3 => h h3.2
        rw [jr_eq (op := oo) (io := 0) (ir := 0) (it := 1) (by rw [if_neg (n2 _ h2)]) (by rw [eo, if_neg h1]) (by rw [if_neg (n2 _ h2)]) (by simp)]
        refine q_b66raw (z := faF st) hl hm ht (by omega) (by omega) (by simp [faF]) hst (fun h => ?_) (fun h h3 => ?_) (fun h _ _ h4 => by simp at h4) (fun h _ h3 _ _ => ?_)
        · rw [if_pos h, if_pos h, jr_eq (op := oo) (io := 0) (ir := 0) (it := 1) (by rw [if_neg (n2 _ h2)]) (by rw [eo, if_neg h1]) (by rw [if_neg (n2 _ h2)]) (by simp)] at hk; exact hk
        · have h4 : m ≠ oo + 1 := h3.resolve_left (by simp)
          have h5 : ¬ m ≤ oo + 1 := by omega
          rw [if_neg h, if_neg h, jr_eq (op := oo) (io := 0) (ir := 0) (it := 1) (by show (if true = true ∧ m ≤ oo + 1 then oo - 1 else oo) = oo; rw [if_neg (n2 _ h5)]) (by show (if m ≤ opF oo true + 1 then (1 : Int32) else 0) = 0; rw [eo, if_neg (by omega)]) (by show (if true = true ∧ m ≤ oo + 1 then (1 : Int32) else 0) = 0; rw [if_neg (n2 _ h5)]) (by simp)] at hk; exact hk
        · rw [if_neg h, if_neg h, jr_eq (op := oo - 1) (io := 0) (ir := 1) (it := 1) (by show (if true = true ∧ m ≤ oo + 1 then oo - 1 else oo) = _; rw [if_pos ⟨rfl, by omega⟩]) (by show (if m ≤ opF oo true + 1 then (1 : Int32) else 0) = 0; rw [eo, if_neg (by omega)]) (by show (if true = true ∧ m ≤ oo + 1 then (1 : Int32) else 0) = 1; rw [if_pos ⟨rfl, by omega⟩]) (by simp)] at hk; exact hk
end TICK
