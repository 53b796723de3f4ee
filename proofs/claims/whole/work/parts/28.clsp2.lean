/-! ===== THE CLASS'S CALLS: lend, pass, wind; what is asked ===== -/
def passF (A : CS) : Nat → Nat → CS
  | 0 => fun _ => A
  | d + 1 => fun v => passF (setJ A v 6 0) d (v + 1)
def ofJF (A : CS) (ln : List Nat) (j : Nat) (w : Int32) : Int32 := if w = 0 then cJ A j 0 else if w = 1 then cJ A j 1 else if w = 2 then cJ A j 2 else if w = 3 then cJ A j 3 else if w = 4 then cJ A j 4 else if w = 5 then cJ A j 5 else if w = 6 then cJ A j 6 else if w = 7 then placeF (Int32.ofNat j) ln 0 else cJ A j 7
def ofRF (A : CS) (nJ r : Nat) (w : Int32) : Int32 := if w = 0 then cG A r 0 else if w = 1 then cG A r 1 else if w = 2 then cG A r 2 else if w = 3 then (if cG A r 3 = 0 then 0 else 1) else holdF A (Int32.ofNat r) nJ 0
def manyF (A : CS) (w : Int32) : Int32 := if w = 0 then cS A 10 else if w = 1 then cS A 1 else if w = 2 then cS A 3 else if w = 3 then grdF A else if w = 4 then cS A 6 else if w = 5 then cS A 11 else if w = 6 then cS A 12 else if w = 7 then cS A 13 else if w = 8 then cS A 14 else if w = 9 then cS A 15 else if w = 10 then cS A 16 else if w = 11 then (if cS A 7 = 0 then 0 else 1) else cS A 17
theorem holdF_cases (A : CS) (r : Int32) : ∀ d v : Nat, holdF A r d v = -1 ∨ ∃ n, v ≤ n ∧ n < v + d ∧ holdF A r d v = Int32.ofNat n ∧ cJ A n 2 = r := by
  intro d
  induction d with
  | zero => intro v; exact Or.inl rfl
  | succ d ih =>
    intro v
    have e : holdF A r (d + 1) v = if cJ A v 2 = r then Int32.ofNat v else holdF A r d (v + 1) := rfl
    by_cases h : cJ A v 2 = r
    · rw [e, if_pos h]; exact Or.inr ⟨v, by omega, by omega, rfl, h⟩
    · rw [e, if_neg h]
      rcases ih (v + 1) with h1 | ⟨n, h1, h2, h3, h4⟩
      · exact Or.inl h1
      · exact Or.inr ⟨n, by omega, by omega, h3, h4⟩
theorem lyr_ofNat {n : Nat} (h : n < 10) : Int32.ofNat n = lyr (n + 1) := by
  rw [← Int32.toInt_inj, i_toInt (by omega), lyr_toInt (by omega)]; omega
section CLSP2
variable {K : Cfg} {c : Nat → Nat} {A : CS} {M0 M : Mem} {nJ nR : Nat} {ln : List Nat} {QX : String → Mem → Prop}
theorem c_lend {r j : Nat} {k : Int32 → Mem → Prop} (h : picC K c A M0 M) (hn : cntOk A nJ nR) (hl : lnOk A nJ ln) (hr : r < nR) (hj : j < nJ)
    (hs : ¬ (placeF (Int32.ofNat j) ln 0 = -1 ∧ placeF (holdF A (Int32.ofNat r) nJ 0) ln 0 = -1) → QX xS M)
    (hk : placeF (Int32.ofNat j) ln 0 = -1 → placeF (holdF A (Int32.ofNat r) nJ 0) ln 0 = -1 → ∀ M2, picC K c (setJ (if holdF A (Int32.ofNat r) nJ 0 = -1 then A else setJ A (holdF A (Int32.ofNat r) nJ 0).toNatClampNeg 2 (-1)) j 2 (Int32.ofNat r)) M0 M2 → k (holdF A (Int32.ofNat r) nJ 0) M2) : f_X5_lend K (c 0) (Int32.ofNat r) (Int32.ofNat j) k QX M := by
  have n1 := hn.1
  unfold f_X5_lend
  refine s_recv h.c0 (c_rigAt h hn hr (s_recv h.c0 (c_jumperAt h hn hj (s_recv h.c0 (c_holderOf h hn (s_recv h.c0 (c_placeOf h hl ?_)))))))
  refine s_if (fun c1 => s_recv h.c0 (c_placeOf h hl (s_if (fun c2 => ?_) (fun c2 => hs (fun h9 => c2 h9.2))))) (fun c1 => hs (fun h9 => c1 h9.1))
  have hk1 := hk c1 c2
  refine s_if (fun c3 => ?_) (fun c3 => ?_)
  · rw [if_pos c3] at hk1
    exact s_putJ2 h (by omega) (fun M h => hk1 M h)
  · rw [if_neg c3] at hk1
    obtain ⟨n, h1, h2, h3, h4⟩ := (holdF_cases A (Int32.ofNat r) nJ 0).resolve_left c3
    rw [h3, i_nat (by omega)] at hk1
    rw [h3]
    exact s_recv h.c0 (c_jumperAt h hn (by omega) (s_putJ2 h (by omega) (fun M h => s_putJ2 h (by omega) (fun M h => hk1 M h))))
theorem c_pass_loop {k : Int32 → Mem → Prop} : ∀ (d fuel v : Nat) (A : CS) (M : Mem), picC K c A M0 M → cntOk A nJ nR → v + d = nJ → d < fuel → (∀ M2, picC K c (passF A d v) M0 M2 → k (cS A 10) M2) → f_X5_pass_b48 K k QX fuel (c 0) (Int32.ofNat v) M := by
  intro d
  induction d with
  | zero =>
    intro fuel v A M h hn hv hf hk
    obtain ⟨n1, n2, n3, n4⟩ := id hn
    obtain ⟨fuel, rfl⟩ : ∃ e, fuel = e + 1 := ⟨fuel - 1, by omega⟩
    show f_X5_pass_b48_body K k QX (f_X5_pass_b48 K k QX fuel) (c 0) (Int32.ofNat v) M
    unfold f_X5_pass_b48_body
    refine s_getI h.c0 rfl (s_ifT ?_ (s_getI h.c0 rfl (hk M h)))
    rw [n3, i_le (by omega) (by omega)]; omega
  | succ d ih =>
    intro fuel v A M h hn hv hf hk
    obtain ⟨n1, n2, n3, n4⟩ := id hn
    obtain ⟨fuel, rfl⟩ : ∃ e, fuel = e + 1 := ⟨fuel - 1, by omega⟩
    show f_X5_pass_b48_body K k QX (f_X5_pass_b48 K k QX fuel) (c 0) (Int32.ofNat v) M
    unfold f_X5_pass_b48_body
    refine s_getI h.c0 rfl (s_ifF ?_ (s_recv h.c0 (c_jumperAt h hn (by omega) (s_putJ6 h (by omega) (fun M h => ?_)))))
    · rw [n3, i_le (by omega) (by omega)]; omega
    rw [i_succ]
    exact ih fuel (v + 1) (setJ A v 6 0) M h ⟨n1, n2, n3, n4⟩ (by omega) (by omega) hk
theorem c_pass {z : Int32} {k : Int32 → Mem → Prop} (h : picC K c A M0 M) (hn : cntOk A nJ nR) (hx : ¬ inB z 1 90 → QX xA M) (hs : inB z 1 90 → (500 < cS A 10 + z ∨ ¬ cS A 6 ≤ 0) → QX xS M)
    (hk : inB z 1 90 → ¬ 500 < cS A 10 + z → cS A 6 ≤ 0 → ∀ M2, picC K c (passF (setS A 10 (cS A 10 + z)) nJ 0) M0 M2 → k (cS A 10 + z) M2) : f_X5_pass K (c 0) z k QX M := by
  unfold f_X5_pass
  refine c_check (fun p1 => s_getI h.c0 rfl (s_if (fun c1 => hs p1 (Or.inl c1)) (fun c1 => s_getI h.c0 rfl (s_if (fun c2 => s_getI h.c0 rfl (s_putS10 h (fun M h => ?_))) (fun c2 => hs p1 (Or.inr c2)))))) hx
  exact c_pass_loop nJ mFuel 0 (setS A 10 (cS A 10 + z)) M h hn (by omega) (by have := hn.1; show nJ < 4096; omega) (hk p1 c1 c2)
theorem c_layer {a : Int32} {k : Mem → Prop} (hk : (∃ n, n < 10 ∧ a = Int32.ofNat n) → k M) (hx : (a < 0 ∨ 10 ≤ a) → QX xI M) : f_X5_checkLayer K a k QX M := by
  unfold f_X5_checkLayer
  refine s_if (fun c1 => hx (Or.inl c1)) (fun c1 => s_if (fun c2 => hk ?_) (fun c2 => hx (Or.inr (i_nlt.mp c2))))
  have h3 : ¬ a.toInt < 0 := fun h => c1 (Int32.lt_iff_toInt_lt.mpr h)
  have h4 : a.toInt < 10 := Int32.lt_iff_toInt_lt.mp c2
  exact ⟨a.toInt.toNat, by omega, by rw [← Int32.toInt_inj, i_toInt (by omega)]; omega⟩
theorem c_wind {a x y : Int32} {k : Int32 → Mem → Prop} (h : picC K c A M0 M) (hi : (a < 0 ∨ 10 ≤ a) → QX xI M) (hx : ∀ n, n < 10 → a = Int32.ofNat n → ¬ (inB x (-20) 20 ∧ inB y (-20) 20) → QX xA M)
    (hk : ∀ n, n < 10 → a = Int32.ofNat n → inB x (-20) 20 → inB y (-20) 20 → ∀ M2, picC K c (setY (setX A n x) n y) M0 M2 → k (grdF (setY (setX A n x) n y)) M2) : f_X5_wind K (c 0) a x y k QX M := by
  unfold f_X5_wind
  refine c_layer (fun hn => ?_) hi
  obtain ⟨n, hn1, rfl⟩ := hn
  refine c_check (fun p1 => c_check (fun p2 => s_getR h.c0 rfl (s_recv h.wd.1 ?_)) (fun p2 => hx n hn1 rfl (fun h9 => p2 h9.2))) (fun p1 => hx n hn1 rfl (fun h9 => p1 h9.1))
  unfold f_X4_tell
  refine s_ifF (i_neg (by omega)) (s_ifF ?_ (s_getR h.wd.1 rfl (s_putX h hn1 (fun M h => s_getR h.wd.1 rfl (s_putY h hn1 (fun M h => s_getR h.c0 rfl (s_recv h.wd.1 (c_ground h (hk n hn1 rfl p1 p2 M h)))))))))
  show ¬ Int32.ofNat 10 ≤ _
  rw [i_le (by omega) (by omega)]; omega
theorem c_ofJumper {j : Nat} {w : Int32} {k : Int32 → Mem → Prop} (h : picC K c A M0 M) (hn : cntOk A nJ nR) (hl : lnOk A nJ ln) (hj : j < nJ) (hx : (w.toInt < 0 ∨ 8 < w.toInt) → QX xA M) (hk : ¬ (w.toInt < 0 ∨ 8 < w.toInt) → k (ofJF A ln j w) M) : f_X5_ofJumper K (c 0) (Int32.ofNat j) w k QX M := by
  have n1 := hn.1
  unfold f_X5_ofJumper
  refine s_recv h.c0 (c_jumperAt h hn hj (s_if hx (fun c0 => ?_)))
  have hk := hk c0
  unfold ofJF at hk
  have hj8 := h.cj (show j < 8 by omega)
  refine s_if (fun q => s_getI hj8 rfl (by rw [if_pos q] at hk; exact hk)) (fun q => ?_); rw [if_neg q] at hk
  refine s_if (fun q => s_getI hj8 rfl (by rw [if_pos q] at hk; exact hk)) (fun q => ?_); rw [if_neg q] at hk
  refine s_if (fun q => s_getI hj8 rfl (by rw [if_pos q] at hk; exact hk)) (fun q => ?_); rw [if_neg q] at hk
  refine s_if (fun q => s_getI hj8 rfl (by rw [if_pos q] at hk; exact hk)) (fun q => ?_); rw [if_neg q] at hk
  refine s_if (fun q => s_getI hj8 rfl (by rw [if_pos q] at hk; exact hk)) (fun q => ?_); rw [if_neg q] at hk
  refine s_if (fun q => s_getI hj8 rfl (by rw [if_pos q] at hk; exact hk)) (fun q => ?_); rw [if_neg q] at hk
  refine s_if (fun q => s_getI hj8 rfl (by rw [if_pos q] at hk; exact hk)) (fun q => ?_); rw [if_neg q] at hk
  refine s_if (fun q => s_recv h.c0 (c_placeOf h hl (by rw [if_pos q] at hk; exact hk))) (fun q => ?_); rw [if_neg q] at hk
  refine s_ifT ?_ (s_getI hj8 rfl hk)
  rename_i q0 q1 q2 q3 q4 q5 q6
  have z : ∀ n : Int32, ¬ w = n → w.toInt ≠ n.toInt := fun n h9 e => h9 (Int32.toInt_inj.mp e)
  have e0 := z _ q0; have e1 := z _ q1; have e2 := z _ q2; have e3 := z _ q3; have e4 := z _ q4; have e5 := z _ q5; have e6 := z _ q6; have e7 := z _ q
  rw [show (0 : Int32).toInt = 0 from rfl] at e0; rw [show (1 : Int32).toInt = 1 from rfl] at e1; rw [show (2 : Int32).toInt = 2 from rfl] at e2; rw [show (3 : Int32).toInt = 3 from rfl] at e3; rw [show (4 : Int32).toInt = 4 from rfl] at e4; rw [show (5 : Int32).toInt = 5 from rfl] at e5; rw [show (6 : Int32).toInt = 6 from rfl] at e6; rw [show (7 : Int32).toInt = 7 from rfl] at e7
  rw [← Int32.toInt_inj]; show w.toInt = 8; omega
end CLSP2
