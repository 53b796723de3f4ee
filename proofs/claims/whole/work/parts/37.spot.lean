/-! ===== THE CLASS: points from a spot, the best spot, who would meet ===== -/
def sumN (f : Nat → Nat) : Nat → Nat
  | 0 => 0
  | n + 1 => sumN f n + f n
theorem sumN_congr {f g : Nat → Nat} : ∀ n, (∀ j, j < n → f j = g j) → sumN f n = sumN g n := by
  intro n
  induction n with
  | zero => intro _; rfl
  | succ n ih =>
    intro h
    show sumN f n + f n = sumN g n + g n
    rw [ih (fun j hj => h j (by omega)), h n (by omega)]
def ptN (x y : Int) : Nat := if farK x y ≤ 5 * 2 ^ 24 then 3 else if farK x y ≤ 20 * 2 ^ 24 then 1 else 0
theorem ptsK_N (x y : Int) : ptsK x y = Int32.ofNat (ptN x y) := by
  unfold ptsK ptN
  split
  · rfl
  · split <;> rfl
theorem ptN_le (x y : Int) : ptN x y ≤ 3 := by
  unfold ptN
  split
  · omega
  · split <;> omega
/-- a flight as it begins: by the line, the troubles, the spot, the gap -/
def plT (A : CS) (k : Nat) (tr : Bool) : Nat × Nat × Nat × Int := (opF (opN A k) tr, faF (cJ A k 10), glF (ldF A k) tr, fwF (cJ A k 1) (ldF A k) tr)
def flQ (A : CS) (ln : List Nat) (trs : Nat → Bool) (sp : Int) (g9 : Nat) (j : Nat) : JQ := (plT A (ln.getD j 0) (trs j), (if trs j = true then 1 else 0, Int32.ofNat (j * g9), 0), (10, 0, lvX A sp g9 j, 0))
abbrev noT : Nat → Bool := fun _ => false
def endJ (A : CS) (Q : Nat → JQ) (nF j : Nat) : JS := itr (qF A (Q j)) nF (Q j).2.2
def pfN (A : CS) (Q : Nat → JQ) (n nF : Nat) : Nat := sumN (fun j => ptN (endJ A Q nF j).2.2.1 (endJ A Q nF j).2.2.2) n
theorem sumN_le {f : Nat → Nat} {b : Nat} (h : ∀ j, f j ≤ b) : ∀ n, sumN f n ≤ b * n := by
  intro n
  induction n with
  | zero => exact Nat.zero_le _
  | succ n ih =>
    show sumN f n + f n ≤ b * (n + 1)
    have := h n
    rw [Nat.mul_add, Nat.mul_one]; omega
theorem pfN_le (A : CS) (Q : Nat → JQ) (n nF : Nat) : pfN A Q n nF ≤ 3 * n := sumN_le (fun _ => ptN_le _ _) n
theorem lvX_bd {A : CS} {sp : Int} {g9 j : Nat} (hX : wbd (cX A)) (hj : j < 6) (hg : g9 ≤ 9) (hsp : -200 ≤ sp ∧ sp ≤ 200) : -(2500 * 16777216) ≤ lvX A sp g9 j ∧ lvX A sp g9 j ≤ 2500 * 16777216 := by
  have hw : (cX A 9).toInt.natAbs ≤ 20 := hX 9 (by decide)
  have hvg : j * g9 ≤ 45 := Nat.le_trans (Nat.mul_le_mul (show j ≤ 5 by omega) hg) (by decide)
  have hb : 0 ≤ ((j * g9 : Nat) : Int) * (30 - (cX A 9).toInt) ∧ ((j * g9 : Nat) : Int) * (30 - (cX A 9).toInt) ≤ 45 * 50 :=
    ⟨Int.mul_nonneg (by omega) (by omega), Int.mul_le_mul (by omega) (by omega) (by omega) (by omega)⟩
  unfold lvX
  rw [Int.natCast_mul] at hb
  omega
theorem plT_ok {A : CS} {nJ nR : Nat} {ln : List Nat} (hn : cntOk A nJ nR) (ha : abOk A nJ nR ln) (hro : ∀ r, r < nR → rigOk A r) {kk : Nat} (hk : kk ∈ ln) (tr : Bool) (x : Int32 × Int32 × Int32) (s : JS) : qOk (plT A kk tr, x, s) := by
  obtain ⟨a1, a2, a3, a4, a5, a6, a7⟩ := ha kk hk
  have hld := (ld_some a2 hn.2.1 hro a3).2
  exact ⟨opF_le a7, faF_le, glF_le hld, (fwF_ok hld).1, (fwF_ok hld).2⟩
theorem flQ_ok {A : CS} {nJ nR : Nat} {ln : List Nat} (hn : cntOk A nJ nR) (hl : lnOk A nJ ln) (ha : abOk A nJ nR ln) (hro : ∀ r, r < nR → rigOk A r) (hX : wbd (cX A)) {sp : Int} {g9 : Nat} (hg : g9 ≤ 9) (hsp : -200 ≤ sp ∧ sp ≤ 200) (trs : Nat → Bool) : flOk ln.length 2500 (flQ A ln trs sp g9) := by
  intro j hj
  have l1 := hl.1
  have hb := lvX_bd (sp := sp) hX (show j < 6 by omega) hg hsp
  have hvg : j * g9 ≤ 45 := Nat.le_trans (Nat.mul_le_mul (show j ≤ 5 by omega) hg) (by decide)
  refine ⟨plT_ok hn ha hro (getD_mem hj) _ _ _, ⟨Nat.le_refl 10, Nat.zero_le 31, ?_, ?_⟩, rfl, j * g9, hvg, rfl⟩
  · show -(((2500 : Nat) : Int) * 16777216) ≤ lvX A sp g9 j ∧ lvX A sp g9 j ≤ ((2500 : Nat) : Int) * 16777216
    exact hb
  · show -(((2500 : Nat) : Int) * 16777216) ≤ 0 ∧ 0 ≤ ((2500 : Nat) : Int) * 16777216
    omega
section SPOT
variable {K : Cfg} {c : Nat → Nat} {A : CS} {M0 M : Mem} {nJ nR nF : Nat} {ln : List Nat} {QX : String → Mem → Prop}
/-- all leave, as planned -/
theorem c_leave {g9 : Nat} {sp : Int32} {Q0 : Nat → JQ} {trs : Nat → Bool} {k : Mem → Prop} (h : picC K c (repQ A (Int32.ofNat ln.length) Q0) M0 M) (hn6 : ln.length ≤ 6) (hg : g9 ≤ 9) (hsp : -200 ≤ sp.toInt ∧ sp.toInt ≤ 200) (hX : wbd (cX A)) (hp : ∀ j, j < ln.length → (Q0 j).1 = plT A (ln.getD j 0) (trs j) ∧ (Q0 j).2.1.1 = if trs j = true then 1 else 0)
    (hk : ∀ Q2 M2, (∀ j, j < ln.length → Q2 j = flQ A ln trs sp.toInt g9 j) → picC K c (repQ A (Int32.ofNat ln.length) Q2) M0 M2 → k M2) : f_X0_leave K (c 7) sp (Int32.ofNat g9) (c 3) k M := by
  unfold f_X0_leave
  refine c_leave_loop hn6 hg hsp hX ln.length mFuel 0 Q0 M Q0 (Nat.zero_add _) (by show ln.length < 4096; omega) h (fun j hj => absurd hj (Nat.not_lt_zero j)) (fun _ _ => rfl) (fun Q2 M2 h1 h2 => hk Q2 M2 (fun j hj => ?_) h2)
  rw [h1 j hj, (hp j hj).1, (hp j hj).2]
  rfl
theorem c_points_loop {n N : Nat} {Q : Nat → JQ} {k : Int32 → Mem → Prop} (f1 : 365 ≤ nF) (f2 : nF ≤ 900) (hn6 : n ≤ 6) (hc6 : cS A 6 = Int32.ofNat n) (hX : wbd (cX A)) (hY : wbd (cY A)) (hN : N ≤ 20000) (hf : flOk n N Q) :
    ∀ (d fuel v : Nat) (Q1 : Nat → JQ) (M : Mem), v + d = n → d < fuel → picC K c (repQ A (Int32.ofNat n) Q1) M0 M → (∀ j, j < n → (Q1 j).1 = (Q j).1 ∧ (Q1 j).2.1.1 = (Q j).2.1.1) → (∀ j, v ≤ j → j < n → Q1 j = Q j) → (∀ Q3 M3, (∀ j, j < n → (Q3 j).1 = (Q j).1 ∧ (Q3 j).2.1.1 = (Q j).2.1.1) → picC K c (repQ A (Int32.ofNat n) Q3) M0 M3 → k (Int32.ofNat (pfN A Q n nF)) M3) → f_X5_pointsFrom_b18 K k fuel (c 0) (Int32.ofNat (pfN A Q v nF)) (Int32.ofNat v) M := by
  intro d
  induction d with
  | zero =>
    intro fuel v Q1 M hv hfu h hQ hQ0 hk
    obtain ⟨fuel, rfl⟩ : ∃ e, fuel = e + 1 := ⟨fuel - 1, by omega⟩
    have hvn : v = n := by omega
    subst hvn
    show f_X5_pointsFrom_b18_body K k (f_X5_pointsFrom_b18 K k fuel) (c 0) (Int32.ofNat (pfN A Q v nF)) (Int32.ofNat v) M
    unfold f_X5_pointsFrom_b18_body
    refine s_getI h.c0 rfl (s_ifT ?_ (hk Q1 M hQ h))
    show cS A 6 ≤ _
    rw [hc6, i_le (by omega) (by omega)]; omega
  | succ d ih =>
    intro fuel v Q1 M hv hfu h hQ hQ0 hk
    obtain ⟨fuel, rfl⟩ : ∃ e, fuel = e + 1 := ⟨fuel - 1, by omega⟩
    show f_X5_pointsFrom_b18_body K k (f_X5_pointsFrom_b18 K k fuel) (c 0) (Int32.ofNat (pfN A Q v nF)) (Int32.ofNat v) M
    unfold f_X5_pointsFrom_b18_body
    have hvn : v < n := by omega
    have hq : Q1 v = Q v := hQ0 v (Nat.le_refl _) hvn
    obtain ⟨ok, gd, -, -⟩ := hf v hvn
    rw [← hq] at ok gd
    refine s_getI h.c0 rfl (s_ifF ?_ (s_getR h.c0 rfl (s_recv h.c7 (c_jumpAt h (by omega) (s_getR h.c0 rfl (s_recv (h.cq (k := v) (by omega)) (c_comeDownJ (i := v) (nF := nF) (N := N) (by omega) f2 h (by omega) hX hY ok gd (by omega) (fun M h => s_recv (h.cq (k := v) (by omega)) ?_))))))))
    · show ¬ cS A 6 ≤ _
      rw [hc6, i_le (by omega) (by omega)]; omega
    have hcq := h.cq (k := v) (by omega)
    have eq : cQ (setQ (repQ A (Int32.ofNat n) Q1) v ((Q1 v).1, (Q1 v).2.1, itr (qF A (Q1 v)) nF (Q1 v).2.2)) v = ((Q1 v).1, (Q1 v).2.1, itr (qF A (Q1 v)) nF (Q1 v).2.2) := up1_same
    have hcq2 : M (c (9 + v)) = some (jcq ((Q1 v).1, (Q1 v).2.1, itr (qF A (Q1 v)) nF (Q1 v).2.2)) := by rw [← eq]; exact hcq
    have hend : itr (qF A (Q1 v)) nF (Q1 v).2.2 = itr (qF A (Q1 v)) 320 (Q1 v).2.2 := itr_stay (itr_end hX hY ok.2.1 ok.2.2.1 ok.2.2.2.1 gd (pot_le gd)) (by omega)
    have gd2 : good (N + 20 * 320) (itr (qF A (Q1 v)) nF (Q1 v).2.2) := by rw [hend]; exact good_itr hX hY ok.2.1 ok.2.2.1 ok.2.2.2.1 gd
    obtain ⟨-, -, b1, b2⟩ := gd2
    refine p_points hcq2 (show (itr (qF A (Q1 v)) nF (Q1 v).2.2).2.2.1.natAbs < 2 ^ 52 by omega) (show (itr (qF A (Q1 v)) nF (Q1 v).2.2).2.2.2.natAbs < 2 ^ 52 by omega) ?_
    rw [ptsK_N, ← Int32.ofNat_add, i_succ, hq]
    refine ih fuel (v + 1) _ M (by omega) (by omega) h (fun j hj => ?_) (fun j h1 h2 => ?_) hk
    · by_cases hjv : j = v
      · subst hjv
        rw [up1_same]
        exact hQ j hj
      · rw [up1_ne hjv]; exact hQ j hj
    · rw [up1_ne (by omega)]; exact hQ0 j (by omega) h2
theorem c_pointsFrom {g9 : Nat} {sp : Int32} {Q0 : Nat → JQ} {k : Int32 → Mem → Prop} (f1 : 365 ≤ nF) (f2 : nF ≤ 900) (h : picC K c (repQ A (Int32.ofNat ln.length) Q0) M0 M) (hn : cntOk A nJ nR) (hl : lnOk A nJ ln) (ha : abOk A nJ nR ln) (hro : ∀ r, r < nR → rigOk A r) (hX : wbd (cX A)) (hY : wbd (cY A)) (hg : g9 ≤ 9) (hsp : -200 ≤ sp.toInt ∧ sp.toInt ≤ 200) (hp : ∀ j, j < ln.length → (Q0 j).1 = plC A (ln.getD j 0) ∧ (Q0 j).2.1.1 = 0)
    (hk : ∀ Q3 M3, (∀ j, j < ln.length → (Q3 j).1 = plC A (ln.getD j 0) ∧ (Q3 j).2.1.1 = 0) → picC K c (repQ A (Int32.ofNat ln.length) Q3) M0 M3 → k (Int32.ofNat (pfN A (flQ A ln noT sp.toInt g9) ln.length nF)) M3) : f_X5_pointsFrom K (c 0) sp (Int32.ofNat g9) k M := by
  have l1 := hl.1
  unfold f_X5_pointsFrom
  refine s_getR h.c0 rfl (s_getR h.c0 rfl (s_recv h.c7 (c_leave (trs := noT) h l1 hg hsp hX hp (fun Q2 M2 h1 h2 => ?_))))
  exact c_points_loop f1 f2 l1 hl.2.1 hX hY (by decide) (flQ_ok hn hl ha hro hX hg hsp noT) ln.length mFuel 0 Q2 M2 (Nat.zero_add _) (by show ln.length < 4096; omega) h2 (fun j hj => by rw [h1 j hj]; exact ⟨rfl, rfl⟩) (fun j _ hj => h1 j hj) (fun Q3 M3 h3 h4 => hk Q3 M3 h3 h4)
/-- which spot is the best one -/
def keyS (p : Int → Nat) (s : Int) : Int := 1000 * (p s : Int) - 2 * (s.natAbs : Int) - (if 0 < s then 1 else 0)
def isBest (p : Int → Nat) (b : Int) : Prop := (∃ i : Nat, i ≤ 20 ∧ b = 20 * (i : Int) - 200) ∧ ∀ i : Nat, i ≤ 20 → keyS p (20 * (i : Int) - 200) ≤ keyS p b
theorem isBest_one {p : Int → Nat} {b d : Int} (h : isBest p b) (h2 : isBest p d) : b = d := by
  obtain ⟨⟨i, i1, i2⟩, i3⟩ := h
  obtain ⟨⟨j, j1, j2⟩, j3⟩ := h2
  have h4 := i3 j j1
  have h5 := j3 i i1
  rw [← j2] at h4
  rw [← i2] at h5
  unfold keyS at h4 h5
  generalize (p b : Int) = pb at h4 h5
  generalize (p d : Int) = pd at h4 h5
  split at h4 <;> split at h4 <;> omega
theorem iabs_toInt {x : Int32} (h : -1000 ≤ x.toInt) : (iabs x).toInt = (x.toInt.natAbs : Int) := by
  unfold iabs
  by_cases hc : 0 ≤ x
  · rw [if_pos hc]
    have : 0 ≤ x.toInt := Int32.le_iff_toInt_le.mp hc
    omega
  · rw [if_neg hc]
    have h1 : ¬ 0 ≤ x.toInt := fun h9 => hc (Int32.le_iff_toInt_le.mpr h9)
    have h2 := x.toInt_lt
    rw [Int32.toInt_neg, Int.bmod_eq_of_le (by omega) (by omega)]
    omega
theorem c_spot_loop {g9 : Nat} {k : Int32 → Mem → Prop} (f1 : 365 ≤ nF) (f2 : nF ≤ 900) (hn : cntOk A nJ nR) (hl : lnOk A nJ ln) (ha : abOk A nJ nR ln) (hro : ∀ r, r < nR → rigOk A r) (hX : wbd (cX A)) (hY : wbd (cY A)) (hg : g9 ≤ 9) (p : Int → Nat) (hpe : p = fun s => pfN A (flQ A ln noT s g9) ln.length nF)
    (hk : ∀ (b : Int32) Q3 M3, isBest p b.toInt → picC K c (repQ A (Int32.ofNat ln.length) Q3) M0 M3 → k b M3) :
    ∀ (d fuel i : Nat) (b ms s : Int32) (Q0 : Nat → JQ) (M : Mem), i + d = 21 → d < fuel → s.toInt = 20 * (i : Int) - 200 → picC K c (repQ A (Int32.ofNat ln.length) Q0) M0 M → (∀ j, j < ln.length → (Q0 j).1 = plC A (ln.getD j 0) ∧ (Q0 j).2.1.1 = 0) →
      ((i = 0 ∧ b.toInt = 0 ∧ ms.toInt = -1) ∨ (0 < i ∧ ms.toInt = (p b.toInt : Int) ∧ (∃ q : Nat, q < i ∧ b.toInt = 20 * (q : Int) - 200) ∧ ∀ q : Nat, q < i → keyS p (20 * (q : Int) - 200) ≤ keyS p b.toInt)) → f_X5_spot_b20 K k QX fuel (c 0) (Int32.ofNat g9) b ms s M := by
  intro d
  induction d with
  | zero =>
    intro fuel i b ms s Q0 M hid hfu hs h hp hinv
    obtain ⟨fuel, rfl⟩ : ∃ e, fuel = e + 1 := ⟨fuel - 1, by omega⟩
    show f_X5_spot_b20_body K k QX (f_X5_spot_b20 K k QX fuel) (c 0) (Int32.ofNat g9) b ms s M
    unfold f_X5_spot_b20_body
    refine s_ifT ?_ (hk b Q0 M ?_ h)
    · rw [Int32.lt_iff_toInt_lt]; show (200 : Int) < _; omega
    · rcases hinv with h1 | ⟨-, -, ⟨q, h1, h2⟩, h3⟩
      · omega
      · exact ⟨⟨q, by omega, h2⟩, fun i hi => h3 i (by omega)⟩
  | succ d ih =>
    intro fuel i b ms s Q0 M hid hfu hs h hp hinv
    obtain ⟨fuel, rfl⟩ : ∃ e, fuel = e + 1 := ⟨fuel - 1, by omega⟩
    show f_X5_spot_b20_body K k QX (f_X5_spot_b20 K k QX fuel) (c 0) (Int32.ofNat g9) b ms s M
    unfold f_X5_spot_b20_body
    have l1 := hl.1
    refine s_ifF ?_ (s_recv h.c0 (c_pointsFrom f1 f2 h hn hl ha hro hX hY hg (by omega) hp (fun Q3 M3 h3 h4 => ?_)))
    · rw [Int32.lt_iff_toInt_lt]; show ¬ (200 : Int) < _; omega
    have ep : pfN A (flQ A ln noT s.toInt g9) ln.length nF = p s.toInt := by rw [hpe]
    have hple : p s.toInt ≤ 18 := by rw [← ep]; exact Nat.le_trans (pfN_le _ _ _ _) (by omega)
    rw [ep]
    have hr1 : (Int32.ofNat (p s.toInt)).toInt = (p s.toInt : Int) := i_toInt (by omega)
    have hs20 : (s + 20).toInt = 20 * ((i + 1 : Nat) : Int) - 200 := by
      rw [i_add (by show -2147483648 ≤ s.toInt + 20; omega) (by show s.toInt + 20 < 2147483648; omega)]
      show s.toInt + 20 = _; omega
    have take : (∀ q : Nat, q < i → keyS p (20 * (q : Int) - 200) ≤ keyS p s.toInt) → f_X5_spot_b61 K k QX (f_X5_spot_b20 K k QX fuel) (c 0) (Int32.ofNat g9) s (Int32.ofNat (p s.toInt)) M3 := by
      intro hall
      unfold f_X5_spot_b61 f_X5_spot_b67
      refine ih fuel (i + 1) s (Int32.ofNat (p s.toInt)) (s + 20) Q3 M3 (by omega) (by omega) hs20 h4 h3 (Or.inr ⟨by omega, hr1, ⟨i, by omega, hs⟩, fun q hq => ?_⟩)
      by_cases hqi : q = i
      · rw [hqi, ← hs]; exact Int.le_refl _
      · exact hall q (by omega)
    have keep : 0 < i → ms.toInt = (p b.toInt : Int) → (∃ q : Nat, q < i ∧ b.toInt = 20 * (q : Int) - 200) → (∀ q : Nat, q < i → keyS p (20 * (q : Int) - 200) ≤ keyS p b.toInt) → keyS p s.toInt ≤ keyS p b.toInt → f_X5_spot_b67 K k QX (f_X5_spot_b20 K k QX fuel) (c 0) (Int32.ofNat g9) b ms s M3 := by
      intro k1 k2 k3 k4 k5
      unfold f_X5_spot_b67
      obtain ⟨q, q1, q2⟩ := k3
      refine ih fuel (i + 1) b ms (s + 20) Q3 M3 (by omega) (by omega) hs20 h4 h3 (Or.inr ⟨by omega, k2, ⟨q, by omega, q2⟩, fun q hq => ?_⟩)
      by_cases hqi : q = i
      · rw [hqi, ← hs]; exact k5
      · exact k4 q (by omega)
    rcases hinv with ⟨h1, h2, h5⟩ | ⟨h1, h2, ⟨q, h5, h6⟩, h7⟩
    · refine s_ifT ?_ (take (fun q hq => by omega))
      rw [Int32.lt_iff_toInt_lt, hr1, h5]; omega
    · have hcmp : keyS p s.toInt ≤ keyS p b.toInt ∨ keyS p b.toInt ≤ keyS p s.toInt := by omega
      refine s_if (fun c1 => take (fun q2 hq2 => Int.le_trans (h7 q2 hq2) ?_)) (fun c1 => s_if (fun c2 => ?_) (fun c2 => ?_))
      · rw [Int32.lt_iff_toInt_lt, hr1, h2] at c1
        unfold keyS
        split <;> split <;> omega
      · have c2 : (Int32.ofNat (p s.toInt)).toInt = ms.toInt := by rw [c2]
        rw [hr1, h2] at c2
        refine p_abs (p_abs (s_if (fun c3 => keep h1 h2 ⟨q, h5, h6⟩ h7 ?_) (fun c3 => take (fun q2 hq2 => Int.le_trans (h7 q2 hq2) ?_))))
        · rw [Int32.le_iff_toInt_le, iabs_toInt (by omega), iabs_toInt (by omega)] at c3
          unfold keyS
          rw [c2]
          split <;> split <;> omega
        · rw [Int32.le_iff_toInt_le, iabs_toInt (by omega), iabs_toInt (by omega)] at c3
          unfold keyS
          rw [c2]
          split <;> split <;> omega
      · refine keep h1 h2 ⟨q, h5, h6⟩ h7 ?_
        rw [Int32.lt_iff_toInt_lt, hr1, h2] at c1
        have c3 : ¬ (p s.toInt : Int) = (p b.toInt : Int) := fun h9 => c2 (Int32.toInt_inj.mp (by rw [hr1, h2]; exact h9))
        unfold keyS
        split <;> split <;> omega
theorem c_spot {gp : Int32} {k : Int32 → Mem → Prop} (f1 : 365 ≤ nF) (f2 : nF ≤ 900) (h : picC K c A M0 M) (hn : cntOk A nJ nR) (hl : lnOk A nJ ln) (ha : abOk A nJ nR ln) (hro : ∀ r, r < nR → rigOk A r) (hX : wbd (cX A)) (hY : wbd (cY A)) (hx : ¬ inB gp 1 9 → QX xA M)
    (hk : ∀ g9, gp = Int32.ofNat g9 → 1 ≤ g9 → g9 ≤ 9 → ∀ (b : Int32) N Q3 M3, isBest (fun s => pfN A (flQ A ln noT s g9) ln.length nF) b.toInt → picC K c (repQ A N Q3) M0 M3 → k b M3) : f_X5_spot K (c 0) gp k QX M := by
  unfold f_X5_spot
  refine c_check (fun p1 => ?_) hx
  obtain ⟨g9, rfl, g1, g2⟩ := i_num (lo := 1) (hi := 9) (by decide) (by decide) p1
  refine s_recv h.c0 (c_planFlight h hn hl ha hro (fun Q2 M2 h1 h2 => ?_))
  exact c_spot_loop f1 f2 hn hl ha hro hX hY g2 _ rfl (fun b Q3 M3 h3 h4 => hk g9 rfl g1 g2 b _ Q3 M3 h3 h4) 21 mFuel 0 0 (-1) (-200) Q2 M2 rfl (by decide) (by decide) h2 h1 (Or.inl ⟨rfl, by decide, by decide⟩)
theorem c_wouldMeet {gp sp : Int32} {k : Int32 → Mem → Prop} (f1 : 365 ≤ nF) (f2 : nF ≤ 900) (h : picC K c A M0 M) (hn : cntOk A nJ nR) (hl : lnOk A nJ ln) (ha : abOk A nJ nR ln) (hro : ∀ r, r < nR → rigOk A r) (hX : wbd (cX A)) (hY : wbd (cY A)) (hx : ¬ (inB gp 1 9 ∧ inB sp (-200) 200) → QX xA M)
    (hk : ∀ g9, gp = Int32.ofNat g9 → 1 ≤ g9 → g9 ≤ 9 → inB sp (-200) 200 → ∀ N Q3 M3, picC K c (repQ A N Q3) M0 M3 → k (Int32.ofNat (ttQ A (flQ A ln noT sp.toInt g9) ln.length nF)) M3) : f_X5_wouldMeet K (c 0) gp sp k QX M := by
  unfold f_X5_wouldMeet
  refine c_check (fun p1 => c_check (fun p2 => ?_) (fun p2 => hx (fun h9 => p2 h9.2))) (fun p1 => hx (fun h9 => p1 h9.1))
  obtain ⟨g9, rfl, g1, g2⟩ := i_num (lo := 1) (hi := 9) (by decide) (by decide) p1
  have hsp : -200 ≤ sp.toInt ∧ sp.toInt ≤ 200 := ⟨Int32.le_iff_toInt_le.mp p2.1, Int32.le_iff_toInt_le.mp p2.2⟩
  refine s_recv h.c0 (c_planFlight h hn hl ha hro (fun Q2 M2 h1 h2 => s_getR h2.c0 rfl (s_getR h2.c0 rfl (s_recv h2.c7 (c_leave (trs := noT) h2 hl.1 g2 hsp hX h1 (fun Q4 M4 h5 h6 => s_getR h6.c0 rfl (s_getR h6.c0 rfl (s_recv h6.c7 ?_))))))))
  exact c_run f1 f2 hl.1 hX hY (by decide) (flQ_ok hn hl ha hro hX g2 hsp noT) h6 h5 (fun Q5 M5 h7 h8 => hk g9 rfl g1 g2 p2 _ Q5 M5 h8)
end SPOT
