/-! ===== the reference's jump: a tick is the step; far, points, meets ===== -/
section REF1
variable {K : Cfg} {M : Mem} {a its mo wx wy oo : Nat} {x y : Int} {fr st lic : Int32} {l : UInt32} {tr : Bool} {X Y : Nat → Int32} {s : JS}
abbrev jF (st : Int32) (lic : Int32) (l : UInt32) (oo : Nat) (tr : Bool) (X Y : Nat → Int32) : JS → JS := stp X Y (opF oo tr) (faF st) (glF l tr) (fwF lic l tr)
theorem faF_le : faF st ≤ 32 := by unfold faF; split <;> decide
theorem glF_le (hl : LD l) : glF l tr ≤ 32 := by
  unfold glF; split
  · decide
  · exact hl.gl.2.1
theorem fwF_ok (hl : LD l) : 0 < fwF lic l tr ∧ fwF lic l tr < 2 ^ 31 := by
  unfold fwF; split
  · decide
  · exact (hl.fw lic).2
theorem opF_le (h : oo ≤ 6) : opF oo tr ≤ 10 := by unfold opF; split <;> omega
theorem q_tick {k : Mem → Prop} {N : Nat} (hl : LD l) (o1 : 2 ≤ oo) (o2 : oo ≤ 6) (he : envR K its mo wx wy lic X Y M) (e1 : its ≠ a) (e2 : mo ≠ a) (e3 : wx ≠ a) (e4 : wy ≠ a) (hX : wbd X) (hY : wbd Y) (h0 : s.1 ≠ 0) (hs : good N s) (hN : N ≤ 100000)
    (hk : k (mUp M a (jr its mo fr st l oo tr (jF st lic l oo tr X Y s)))) : f_X6_tick K a k (mUp M a (jr its mo fr st l oo tr s)) := by
  obtain ⟨m, t, x, y⟩ := s
  obtain ⟨h1, h2, h3, h4⟩ := hs
  dsimp only at h0 h1 h2 h3 h4
  obtain ⟨m, rfl⟩ : ∃ n, m = n + 1 := ⟨m - 1, by omega⟩
  have hi : ∀ w : Int32, w.toInt.natAbs ≤ 20 → FP.i2d w = em (w.toInt * 2 ^ 24) := fun w h => em_i2d (by omega)
  have hXm := hX m (by omega)
  have hYm := hY m (by omega)
  have hx : x.natAbs < 2 ^ 51 := by omega
  have hy : y.natAbs < 2 ^ 51 := by omega
  unfold jF stp at hk
  rw [if_neg h0] at hk
  dsimp only at hk
  rw [Nat.add_sub_cancel] at hk
  unfold stX stY at hk
  unfold f_X6_tick
  have hb66 : ∀ x2 y2 : Int, k (mUp M a (jr its mo fr st l oo tr (stM (opF oo tr) (faF st) (glF l tr) (m + 1) t, stT (opF oo tr) (faF st) (glF l tr) (m + 1) t, x2, y2))) → f_X6_tick_b66 K k a (mUp M a (jr its mo fr st l oo tr (m + 1, t, x2, y2))) := fun x2 y2 h => q_b66 hl o1 o2 (by omega) h2 h
  by_cases hop : m + 1 ≤ opF oo tr + 1
  · rw [if_pos hop, if_pos hop] at hk
    have hjr : ∀ x2 y2 : Int, jr its mo fr st l oo tr (m + 1, t, x2, y2) = jq its mo fr st l x2 y2 (m + 1) t (if tr = true ∧ m + 1 ≤ oo + 1 then oo - 1 else oo) 1 (if tr = true ∧ m + 1 ≤ oo + 1 then 1 else 0) (if tr = true then 1 else 0) := fun x2 y2 => jr_eq rfl (by rw [if_pos hop]) rfl rfl
    have hir : fwF lic l tr = if (if tr = true ∧ m + 1 ≤ oo + 1 then (1 : Int32) else 0) = 0 then fwK lic l else 3 * 2 ^ 24 := by
      unfold fwF
      cases tr with
      | false => simp
      | true =>
        have : m + 1 ≤ oo + 1 := by unfold opF at hop; rw [if_pos rfl] at hop; omega
        show (3 * 2 ^ 24 : Int) = if (if true = true ∧ m + 1 ≤ oo + 1 then (1 : Int32) else 0) = 0 then fwK lic l else 3 * 2 ^ 24
        rw [if_pos (show true = true ∧ m + 1 ≤ oo + 1 from ⟨rfl, this⟩), if_neg (by decide)]
    have hq := q_steer (K := K) (M := M) (a := a) (fr := fr) (st := st) (t := t) (x := x) (y := y) (op := if tr = true ∧ m + 1 ≤ oo + 1 then oo - 1 else oo) (io := 1) (ir := if tr = true ∧ m + 1 ≤ oo + 1 then 1 else 0) (it := if tr = true then 1 else 0) (k := f_X6_tick_b66 K k a) hl he e1 e2 e3 e4 (by omega) h1 hXm hYm hx hy hir
    rw [hjr]
    refine u_getI rfl (s_ifF (by decide) (u_recv (hq ?_)))
    rw [Nat.add_sub_cancel, ← hjr]
    exact hb66 _ _ hk
  · rw [if_neg hop, if_neg hop] at hk
    obtain ⟨-, ⟨ms, p3, p4, p5⟩, p6, p7⟩ := he
    have hjr : ∀ x2 y2 : Int, jr its mo fr st l oo tr (m + 1, t, x2, y2) = jq its mo fr st l x2 y2 (m + 1) t (if tr = true ∧ m + 1 ≤ oo + 1 then oo - 1 else oo) 0 (if tr = true ∧ m + 1 ≤ oo + 1 then 1 else 0) (if tr = true then 1 else 0) := fun x2 y2 => jr_eq rfl (by rw [if_neg hop]) rfl rfl
    rw [hjr]
    refine u_getI rfl (s_ifT rfl (u_getD rfl (u_getR rfl (s_getR ((mUp_ne e2).trans p3) p4 (u_getI rfl (s_ldI ((mUp_ne e3).trans p6) (lyr_in (by omega) h1) ?_))))))
    rw [lyr_nat h1, Nat.add_sub_cancel, hi _ hXm, em_c05, em_mul (by omega) (by decide) (by decide), em_add (by omega) (by omega)]
    refine s_as (em_nan (by omega)) (s_as (em_nan (by omega)) (u_put (Nat.lt_of_lt_of_eq (by decide : 4 < 13) rfl) (u_getD rfl (u_getR rfl (s_getR ((mUp_ne e2).trans p3) p5 (u_getI rfl (s_ldI ((mUp_ne e4).trans p7) (lyr_in (by omega) h1) ?_)))))))
    rw [lyr_nat h1, Nat.add_sub_cancel, hi _ hYm, em_mul (by omega) (by decide) (by decide), em_add (by omega) (by omega)]
    refine s_as (em_nan (by omega)) (s_as (em_nan (by omega)) (u_put (Nat.lt_of_lt_of_eq (by decide : 5 < 13) rfl) ?_))
    have h9 := hb66 _ _ hk
    rw [hjr] at h9
    exact h9
theorem q_isDownS {k : Int32 → Mem → Prop} (h : M a = some (jr its mo fr st l oo tr s)) (hm : s.1 ≤ 10) (hk : k (if s.1 = 0 then 1 else 0) M) : f_X6_isDown K a k M := q_isDown h hm hk
theorem q_far {k : UInt64 → Mem → Prop} (h : M a = some (jr its mo fr st l oo tr s)) (hx : s.2.2.1.natAbs < 2 ^ 52) (hy : s.2.2.2.natAbs < 2 ^ 52) (hk : k (em (farK s.2.2.1 s.2.2.2)) M) : f_X6_far K a k M := by
  unfold f_X6_far
  refine s_getD h rfl (s_as (em_nan (by omega)) (s_getD h rfl (s_as (em_nan (by omega)) ?_)))
  rw [em_abs (by omega), em_abs (by omega)]
  refine s_as ⟨em_nan (by omega), em_nan (by omega)⟩ ?_
  rw [em_pickT (by omega) (by omega)]
  exact hk
theorem q_points {k : Int32 → Mem → Prop} (h : M a = some (jr its mo fr st l oo tr s)) (hx : s.2.2.1.natAbs < 2 ^ 52) (hy : s.2.2.2.natAbs < 2 ^ 52) (hk : k (ptsK s.2.2.1 s.2.2.2) M) : f_X6_points K a k M := by
  have hF := farK_lt hx hy
  unfold f_X6_points
  unfold ptsK at hk
  refine s_recv h (q_far h hx hy ?_)
  rw [em_c5, em_cmp hF (by decide)]
  refine s_if (fun hc => s_recv h (q_far h hx hy ?_)) (fun hc => ?_)
  · rw [cv_gt] at hc
    rw [em_c20, em_cmp hF (by decide)]
    rw [if_neg (by omega)] at hk
    refine s_if (fun hc2 => ?_) (fun hc2 => ?_)
    · rw [cv_gt] at hc2
      rw [if_neg (by omega)] at hk
      exact hk
    · rw [cv_gt] at hc2
      rw [if_pos (by omega)] at hk
      exact hk
  · rw [cv_gt] at hc
    rw [if_pos (by omega)] at hk
    exact hk
theorem q_close {A B : Mem → Prop} {x2 : Int} (hx : x.natAbs < 2 ^ 51) (hx2 : x2.natAbs < 2 ^ 51) (hA : closeZ x x2 = false → A M) (hB : closeZ x x2 = true → B M) : mAs (vf_n64 (FP.dsub (em x) (em x2))) (mAs (vf_n64 (FP.dsub (em x) (em x2))) (mIf (0 ≤ (Op.cmpValue (FP.dcmp ((FP.dsub (em x) (em x2)) &&& 0x7fffffffffffffff) 4621819117588971520) .g)) A B)) M := by
  rw [em_sub (by omega) (by omega), em_abs (by omega)]
  have hs : (((x - x2).natAbs : Int)).natAbs < 2 ^ 53 := by omega
  refine s_as (em_nan (by omega)) (s_as (em_nan (by omega)) ?_)
  cases hz : closeZ x x2 with
  | false => exact p_closeG hs (of_decide_eq_false hz) (hA hz)
  | true => exact p_closeL hs (of_decide_eq_true hz) (hB hz)
theorem q_meets {k : Int32 → Mem → Prop} {a2 its2 mo2 oo2 : Nat} {fr2 st2 : Int32} {l2 : UInt32} {tr2 : Bool} {s2 : JS} {N : Nat} (h : M a = some (jr its mo fr st l oo tr s)) (h2 : M a2 = some (jr its2 mo2 fr2 st2 l2 oo2 tr2 s2)) (hs : good N s) (hs2 : good N s2) (hN : N ≤ 100000)
    (hk : k (if nearZ (opF oo tr) s.1 s.2.2.1 s.2.2.2 (opF oo2 tr2) s2.1 s2.2.2.1 s2.2.2.2 = true then 1 else 0) M) : f_X6_meets K a a2 k M := by
  obtain ⟨g1, -, g3, g4⟩ := hs
  obtain ⟨g5, -, g7, g8⟩ := hs2
  have no : nearZ (opF oo tr) s.1 s.2.2.1 s.2.2.2 (opF oo2 tr2) s2.1 s2.2.2.1 s2.2.2.2 = false → f_X6_meets_b74 K k M := fun hn => by
    rw [if_neg (by rw [hn]; decide)] at hk
    exact s_as (Or.inl rfl) hk
  unfold nearZ at hk no
  unfold f_X6_meets
  refine s_getI h rfl ?_
  by_cases c1 : s.1 ≤ opF oo tr + 1
  · rw [if_pos c1]
    refine s_ifF (by decide) (s_getI h2 rfl ?_)
    by_cases c2 : s2.1 ≤ opF oo2 tr2 + 1
    · rw [if_pos c2]
      refine s_ifF (by decide) (s_recv h (q_isDownS h g1 ?_))
      by_cases c3 : s.1 = 0
      · rw [if_pos c3]
        rw [decide_eq_false (fun hn => by have := hn.2; omega), Bool.false_and] at no
        exact s_ifF (by decide) (no rfl)
      · rw [if_neg c3]
        rw [decide_eq_true ⟨c1, by omega⟩, Bool.true_and] at hk no
        refine s_ifT rfl (s_getI h rfl (s_getI h2 rfl (s_if (fun c4 => ?_) (fun c4 => no ?_))))
        · rw [lyr_inj g1 g5] at c4
          rw [decide_eq_true ⟨c2, by omega⟩, Bool.true_and, decide_eq_true c4, Bool.true_and] at hk no
          refine s_getD h rfl (s_getD h2 rfl (q_close (by omega) (by omega) (fun c5 => no (by rw [c5, Bool.false_and])) (fun c5 => ?_)))
          rw [c5, Bool.true_and] at hk no
          refine s_getD h rfl (s_getD h2 rfl (q_close (by omega) (by omega) (fun c6 => no c6) (fun c6 => ?_)))
          rw [if_pos c6] at hk
          exact s_as (Or.inr rfl) hk
        · rw [lyr_inj g1 g5] at c4
          rw [decide_eq_false c4, Bool.false_and, Bool.and_false]
    · rw [if_neg c2]
      rw [decide_eq_false (p := s2.1 ≤ opF oo2 tr2 + 1 ∧ 1 ≤ s2.1) (fun hn => c2 hn.1), Bool.false_and, Bool.and_false] at no
      exact s_ifT rfl (no rfl)
  · rw [if_neg c1]
    rw [decide_eq_false (p := s.1 ≤ opF oo tr + 1 ∧ 1 ≤ s.1) (fun hn => c1 hn.1), Bool.false_and] at no
    exact s_ifT rfl (no rfl)
end REF1
