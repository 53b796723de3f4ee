/-! ===== THE REFERENCE: a flight is made ===== -/
def tq (r : Nat → Nat) (nJ nR : Nat) (M0 : Mem) (a : Nat) : Prop := M0 a = none ∧ ∀ i, rv nJ nR i → r i ≠ a
def jE (A : CS) (ln : List Nat) (r : Nat → Nat) (g9 : Nat) (trs : Nat → Bool) (j : Nat) (s : JS) : va_E := jr (r (16 + ln.getD j 0)) (r 0) (Int32.ofNat (j * g9)) (cJ A (ln.getD j 0) 10) (ldF A (ln.getD j 0)) (opN A (ln.getD j 0)) (trs j) s
def isJ (S : Nat → va_E) : Prop := ∀ j, ∃ fs : List Value, S j = .inr (7, fs)
theorem jE_isJ (A : CS) (ln : List Nat) (r : Nat → Nat) (g9 : Nat) (trs : Nat → Bool) (s : Nat → JS) : isJ (fun j => jE A ln r g9 trs j (s j)) := fun _ => ⟨_, rfl⟩
def picT (K : Cfg) (r : Nat → Nat) (nJ nR : Nat) (M0 : Mem) (la lb : Nat) (g : Nat → Nat) (n : Nat) (S : Nat → va_E) (M : Mem) : Prop :=
  (tq r nJ nR M0 la ∧ ∃ md, M la = some (lobj md lb n)) ∧ (n = 0 → lb = K.2.2 1) ∧ (0 < n → lb ≠ K.2.2 1 ∧ tq r nJ nR M0 lb ∧ M lb = some (oarr K (fun j => if j < n then some (g j) else none))) ∧ (∀ j, j < n → tq r nJ nR M0 (g j) ∧ M (g j) = some (S j)) ∧ ∀ i j, i < n → j < n → g i = g j → i = j
theorem lv_dbl {A : CS} {v g9 : Nat} {sp : Int32} (hX : wbd (cX A)) (hv : v ≤ 5) (hg : g9 ≤ 9) (hsp : -200 ≤ sp.toInt ∧ sp.toInt ≤ 200) : vf_n64 (FP.dsub 4629137466983448576 (FP.i2d (cX A 9))) ∧ vf_n64 (FP.dmul (FP.i2d (Int32.ofNat (v * g9))) (FP.dsub 4629137466983448576 (FP.i2d (cX A 9)))) ∧ FP.dadd (FP.i2d sp) (FP.dmul (FP.i2d (Int32.ofNat (v * g9))) (FP.dsub 4629137466983448576 (FP.i2d (cX A 9)))) = em (lvX A sp.toInt g9 v) ∧ vf_n64 (em (lvX A sp.toInt g9 v)) := by
  have hw : (cX A 9).toInt.natAbs ≤ 20 := hX 9 (by decide)
  have hvg : v * g9 ≤ 45 := Nat.le_trans (Nat.mul_le_mul (show v ≤ 5 by omega) hg) (by decide)
  have ew : FP.i2d (cX A 9) = em ((cX A 9).toInt * 2 ^ 24) := em_i2d (by omega)
  have es : FP.i2d sp = em (sp.toInt * 2 ^ 24) := em_i2d (by omega)
  have et : FP.i2d (Int32.ofNat (v * g9)) = em (((v * g9 : Nat) : Int) * 2 ^ 24) := by
    rw [em_i2d (by rw [i_toInt (by omega)]; omega), i_toInt (by omega)]
  have ed : FP.dsub 4629137466983448576 (FP.i2d (cX A 9)) = em ((30 - (cX A 9).toInt) * 2 ^ 24) := by
    rw [ew, em_c30, em_sub (by decide) (by omega)]; congr 1; omega
  have hpos : 0 < (30 - (cX A 9).toInt) * 2 ^ 24 := by omega
  have em1 : FP.dmul (FP.i2d (Int32.ofNat (v * g9))) (FP.dsub 4629137466983448576 (FP.i2d (cX A 9))) = em (((v * g9 : Nat) : Int) * ((30 - (cX A 9).toInt) * 2 ^ 24)) := by
    rw [ed, et, em_mul (by omega) (by omega) hpos]
  have hb : 0 ≤ ((v * g9 : Nat) : Int) * ((30 - (cX A 9).toInt) * 2 ^ 24) ∧ ((v * g9 : Nat) : Int) * ((30 - (cX A 9).toInt) * 2 ^ 24) ≤ 45 * (50 * 2 ^ 24) :=
    ⟨Int.mul_nonneg (by omega) (by omega), Int.mul_le_mul (by omega) (by omega) (by omega) (by omega)⟩
  have ea : FP.dadd (FP.i2d sp) (FP.dmul (FP.i2d (Int32.ofNat (v * g9))) (FP.dsub 4629137466983448576 (FP.i2d (cX A 9)))) = em (lvX A sp.toInt g9 v) := by
    rw [em1, es, em_add (by omega) (by omega)]
    congr 1
    unfold lvX
    rw [Int.add_mul, Int.natCast_mul, Int.mul_assoc ((v : Int) * (g9 : Int))]
    rfl
  exact ⟨by rw [ed]; exact em_nan (by omega), by rw [em1]; exact em_nan (by omega), ea, by rw [← ea, em1, es, em_add (by omega) (by omega)]; exact em_nan (by omega)⟩
section REFG
variable {K : Cfg} {r : Nat → Nat} {nJ nR : Nat} {A : CS} {T : RT} {M0 M : Mem} {ln : List Nat}
theorem picR.chg {M2 : Mem} (h : picR K r nJ nR A T M0 M) (hc : ∀ q, ¬ tq r nJ nR M0 q → M2 q = M q) : picR K r nJ nR A T M0 M2 :=
  ⟨h.1, h.2.1, fun i hi => (hc _ (fun h9 => h9.2 i hi rfl)).trans (h.2.2.1 i hi), fun q e hq hq2 => (hc q (fun h9 => by rw [h9.1] at hq; cases hq)).trans (h.2.2.2 q e hq hq2)⟩
theorem picR.tq (h : picR K r nJ nR A T M0 M) {a : Nat} (ha : M a = none) : tq r nJ nR M0 a := ⟨h.nil0 ha, h.apart ha⟩
/-- one more on the list of a flight -/
theorem t_add {k : Int32 → Mem → Prop} {la lb n x : Nat} {g : Nat → Nat} {S : Nat → va_E} (hK : K.2.2 1 < K.2.2 0) (h : picR K r nJ nR A T M0 M) (hS : isJ S) (ht : picT K r nJ nR M0 la lb g n S M) (hn : n < 10) (hx : M x = some (S n)) (hxt : tq r nJ nR M0 x) (hxg : ∀ j, j < n → g j ≠ x)
    (hk : ∀ lb2 M2, picR K r nJ nR A T M0 M2 → picT K r nJ nR M0 la lb2 (up1 g n x) (n + 1) S M2 → k 1 M2) : f_Jx4a65c_add_9ea2d K la x k M := by
  obtain ⟨⟨t1, md, t2⟩, t3, t4, t5, t6⟩ := id ht
  obtain ⟨fs, hfs⟩ := hS n
  have hgl : ∀ j, j < n → g j ≠ la := fun j hj e => by
    obtain ⟨f2, hf2⟩ := hS j
    have h9 := (t5 j hj).2
    rw [e, t2, hf2] at h9
    have h8 : (0 : Nat) = 7 := congrArg (fun o : Option va_E => match o with | some (.inr q) => q.1 | _ => 0) h9
    omega
  have hxl : x ≠ la := fun e => by
    rw [e, t2, hfs] at hx
    have h8 : (0 : Nat) = 7 := congrArg (fun o : Option va_E => match o with | some (.inr q) => q.1 | _ => 0) hx
    omega
  have fin : ∀ (b : Nat) (M2 : Mem) (f : Nat → Option Nat), b ≠ K.2.2 1 → tq r nJ nR M0 b → b ≠ la → b ≠ x → (∀ j, j < n → g j ≠ b) → (∀ i, i < n → f i = some (g i)) → (∀ i, n ≤ i → f i = none) → M2 la = some (lobj (md + 1) b (n + 1)) → M2 b = some (oarr K (va_up f n (some x))) → (∀ q, q ≠ la → q ≠ b → M2 q = M q) → k 1 M2 := by
    intro b M2 f b1 b2 b3 b4 b5 hf hf2 m1 m2 m3
    refine hk b M2 (h.chg (fun q hq => m3 q (fun e => hq (e ▸ t1)) (fun e => hq (e ▸ b2)))) ⟨⟨t1, _, m1⟩, fun e => by omega, fun _ => ⟨b1, b2, ?_⟩, fun j hj => ?_, fun i j hi hj e => ?_⟩
    · rw [m2]
      show some (oarr K (va_up f n (some x))) = some (oarr K (fun j => if j < n + 1 then some (up1 g n x j) else none))
      congr 2
      funext j
      unfold va_up
      by_cases hj1 : j = n
      · rw [if_pos hj1, if_pos (by omega), hj1, up1_same]
      · rw [if_neg hj1, up1_ne hj1]
        by_cases hj2 : j < n
        · rw [if_pos (by omega), hf j hj2]
        · rw [if_neg (by omega), hf2 j (by omega)]
    · by_cases hj1 : j = n
      · subst hj1
        rw [up1_same]
        exact ⟨hxt, by rw [m3 x hxl b4.symm]; exact hx⟩
      · rw [up1_ne hj1]
        refine ⟨(t5 j (by omega)).1, ?_⟩
        rw [m3 _ (hgl j (by omega)) (b5 j (by omega))]
        exact (t5 j (by omega)).2
    · by_cases hi1 : i = n <;> by_cases hj1 : j = n
      · omega
      · rw [hi1, up1_same, up1_ne hj1] at e
        exact absurd e.symm (hxg j (by omega))
      · rw [hj1, up1_same, up1_ne hi1] at e
        exact absurd e (hxg i (by omega))
      · rw [up1_ne hi1, up1_ne hj1] at e
        exact t6 i j (by omega) (by omega) e
  by_cases h0 : n = 0
  · subst h0
    rw [t3 rfl] at t2
    refine q_add0 t2 (hx.trans (by rw [hfs])) (Or.inl rfl) hK (fun b M2 b1 b2 m1 m2 m3 => fin b M2 (fun _ => none) (by omega) (h.tq b2) (fun e => by rw [e, t2] at b2; cases b2) (fun e => by rw [e, hx] at b2; cases b2) (fun j hj => absurd hj (Nat.not_lt_zero j)) (fun j hj => absurd hj (Nat.not_lt_zero j)) (fun _ _ => rfl) m1 m2 m3)
  · obtain ⟨u1, u2, u3⟩ := t4 (by omega)
    refine q_add1 t2 hn (hx.trans (by rw [hfs])) (Or.inl rfl) u1 u3 (fun M2 m1 m2 m3 => fin lb M2 _ u1 u2 (fun e => ?_) (fun e => ?_) (fun j hj e => ?_) (fun i hi => if_pos hi) (fun i hi => if_neg (by omega)) m1 m2 m3)
    · rw [e, t2] at u3; cases u3
    · rw [e, hx, hfs] at u3; cases u3
    · obtain ⟨f2, hf2⟩ := hS j
      have h9 := (t5 j hj).2
      rw [e, u3, hf2] at h9; cases h9
theorem x_flight {g9 : Nat} {sp : Int32} {k : Nat → Mem → Prop} (hK : K.2.2 1 < K.2.2 0) (h : picR K r nJ nR A T M0 M) (hw : wfS A T nJ nR ln) (hX : wbd (cX A)) (hg : g9 ≤ 9) (hsp : -200 ≤ sp.toInt ∧ sp.toInt ≤ 200)
    (hk : ∀ la lb g M2, picR K r nJ nR A T M0 M2 → picT K r nJ nR M0 la lb g ln.length (fun j => jE A ln r g9 noT j (10, 0, lvX A sp.toInt g9 j, 0)) M2 → k la M2) : f_X9_flight K (r 0) sp (Int32.ofNat g9) k M := by
  obtain ⟨hjs, hro, hl, ha, hlk⟩ := id hw
  have n1 := h.1.1.1
  have l1 := hl.1
  have lp : ∀ (d fuel v u w la lb : Nat) (g : Nat → Nat) (M : Mem), v + d = ln.length → d < fuel → u = 1 + 2 * v → w = 3 + 23 * v → picR K r nJ nR A T M0 M → picT K r nJ nR M0 la lb g v (fun j => jE A ln r g9 noT j (10, 0, lvX A sp.toInt g9 j, 0)) M → f_X9_flight_b11 K k fuel u w (r 0) sp (Int32.ofNat g9) la (Int32.ofNat v) M := by
    intro d
    induction d with
    | zero =>
      intro fuel v u w la lb g M hv hf hu hww h ht
      obtain ⟨fuel, rfl⟩ : ∃ e, fuel = e + 1 := ⟨fuel - 1, by omega⟩
      show f_X9_flight_b11_body K k (f_X9_flight_b11 K k fuel) u w (r 0) sp (Int32.ofNat g9) la (Int32.ofNat v) M
      unfold f_X9_flight_b11_body
      refine s_as (by omega) (s_recv h.r0 (x_aboard h hl ha hlk (s_ifT ?_ (s_as (by omega) ?_))))
      · rw [i_le (by omega) (by omega)]; omega
      · have hvn : v = ln.length := by omega
        subst hvn
        exact hk la lb g M h ht
    | succ d ih =>
      intro fuel v u w la lb g M hv hf hu hww h ht
      obtain ⟨fuel, rfl⟩ : ∃ e, fuel = e + 1 := ⟨fuel - 1, by omega⟩
      show f_X9_flight_b11_body K k (f_X9_flight_b11 K k fuel) u w (r 0) sp (Int32.ofNat g9) la (Int32.ofNat v) M
      unfold f_X9_flight_b11_body
      have hlt : v < ln.length := by omega
      obtain ⟨a1, a2, a3, a4, a5, a6, a7⟩ := ha _ (getD_mem hlt)
      obtain ⟨s1, s2, s3, s4⟩ := st_up ha hlk (getD_mem hlt)
      refine s_as (by omega) (s_recv h.r0 (x_aboard h hl ha hlk (s_ifF ?_ (s_getR h.r0 rfl (s_as (by omega) (s_recv h.r0 (x_at h hw hlt (s_as (by omega) (s_recv h.r1 ?_)))))))))
      · rw [i_le (by omega) (by omega)]; omega
      refine q_gJ h a1 (s_recv (h.rj a1) (s_as (by omega) (fun x hx => ?_)))
      have hM := fresh_none hx
      have htx := h.tq hM
      have hjE : jE A ln r g9 noT v (10, 0, lvX A sp.toInt g9 v, 0) = jr (r (16 + ln.getD v 0)) (r 0) (Int32.ofNat (v * g9)) (cJ A (ln.getD v 0) 10) (ldF A (ln.getD v 0)) (opN A (ln.getD v 0)) false (10, 0, lvX A sp.toInt g9 v, 0) := rfl
      generalize hkk : ln.getD v 0 = kk at a1 a2 a3 a4 a5 a6 a7 s1 s2 s3 s4 hjE
      have hrj : (mUp M x (.inr (7, nilJ))) (r (16 + kk)) = some (.inr (8, rjf A T kk)) := (mUp_ne (htx.2 _ (rv_j a1))).trans (h.rj a1)
      refine s_getI hrj rfl (s_getI hrj rfl (s_getR ((mUp_ne (htx.2 0 (rv_lo (by decide)))).trans h.r0) rfl (s_ldI ((mUp_ne (htx.2 3 (rv_lo (by decide)))).trans h.r3) (i_in (a := 9) (by decide) (by decide)) ?_)))
      obtain ⟨e1, e2, e3, e4⟩ := lv_dbl (v := v) (g9 := g9) (sp := sp) hX (by omega) hg hsp
      rw [show Int32.ofNat v * Int32.ofNat g9 = Int32.ofNat (v * g9) from (Int32.ofNat_mul v g9).symm]
      show mAs (vf_n64 (FP.dsub 4629137466983448576 (FP.i2d (cX A 9)))) (mAs (vf_n64 (FP.dmul (FP.i2d (Int32.ofNat (v * g9))) (FP.dsub 4629137466983448576 (FP.i2d (cX A 9))))) (mAs (vf_n64 (FP.dadd (FP.i2d sp) (FP.dmul (FP.i2d (Int32.ofNat (v * g9))) (FP.dsub 4629137466983448576 (FP.i2d (cX A 9)))))) (mAs (u + 1 ≤ 13 ∧ w + 13 ≤ 141) (f_X6_init K x (r 0) (r (16 + kk)) (tS T kk) (tO T kk) (Int32.ofNat (v * g9)) (FP.dadd (FP.i2d sp) (FP.dmul (FP.i2d (Int32.ofNat (v * g9))) (FP.dsub 4629137466983448576 (FP.i2d (cX A 9))))) (mAs (u + 1 + 1 ≤ 13 ∧ w + 13 + 10 ≤ 141) (mRecv la 0 (f_Jx4a65c_add_9ea2d K la x (fun r11 => f_X9_flight_b11 K k fuel (u + 1 + 1) (w + 13 + 10) (r 0) sp (Int32.ofNat g9) la (Int32.ofNat v + 1)))))))) ) (mUp M x (.inr (7, nilJ)))
      rw [e3, s1, s2, a5]
      refine s_as e1 (s_as e2 (s_as e4 (s_as (by omega) (x_jinit h hM a1 a2 hro a7 (s_as (by omega) ?_)))))
      have h2 := h.tmp (a := x) (e := jr (r (16 + kk)) (r 0) (Int32.ofNat (v * g9)) (cJ A kk 10) (ldF A kk) (opN A kk) false (10, 0, lvX A sp.toInt g9 v, 0)) htx.1 htx.2
      have hne : ∀ q e, M q = some e → q ≠ x := fun q e hq e9 => by rw [e9, hM] at hq; cases hq
      obtain ⟨⟨t1, md, t2⟩, t3, t4, t5, t6⟩ := id ht
      have ht2 : picT K r nJ nR M0 la lb g v (fun j => jE A ln r g9 noT j (10, 0, lvX A sp.toInt g9 j, 0)) (mUp M x (jr (r (16 + kk)) (r 0) (Int32.ofNat (v * g9)) (cJ A kk 10) (ldF A kk) (opN A kk) false (10, 0, lvX A sp.toInt g9 v, 0))) :=
        ⟨⟨t1, md, (mUp_ne (hne _ _ t2)).trans t2⟩, t3, fun h0 => ⟨(t4 h0).1, (t4 h0).2.1, (mUp_ne (hne _ _ (t4 h0).2.2)).trans (t4 h0).2.2⟩, fun j hj => ⟨(t5 j hj).1, (mUp_ne (hne _ _ (t5 j hj).2)).trans (t5 j hj).2⟩, t6⟩
      refine s_recv ((mUp_ne (hne _ _ t2)).trans t2) (t_add hK h2 (jE_isJ A ln r g9 noT _) ht2 (by omega) (by rw [hjE]; exact mUp_same) htx (fun j hj e9 => hne _ _ (t5 j hj).2 e9) (fun lb2 M2 h3 h4 => ?_))
      rw [i_succ]
      exact ih fuel (v + 1) (u + 1 + 1) (w + 13 + 10) la lb2 (up1 g v x) M2 (by omega) (by omega) (by omega) (by omega) h3 h4
  unfold f_X9_flight
  refine s_as (by decide) (fun la hla => s_as (by decide) ?_)
  have hM := fresh_none hla
  have htl := h.tq hM
  unfold f_Jx4a65c_init_da8c8 f_Jxc12de_init_da8c8 f_Jxa1e45_init_da8c8
  refine u_put (by show 0 < 3; decide) (u_put (by show 1 < 3; decide) ?_)
  refine lp ln.length mFuel 0 1 3 la (K.2.2 1) (fun _ => 0) _ (Nat.zero_add _) (by show ln.length < 4096; omega) rfl rfl (h.tmp htl.1 htl.2) ⟨⟨htl, 0, mUp_same⟩, fun _ => rfl, fun h0 => absurd h0 (Nat.lt_irrefl 0), fun j hj => absurd hj (Nat.not_lt_zero j), fun i j hi => absurd hi (Nat.not_lt_zero i)⟩
end REFG
