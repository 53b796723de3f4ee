/-! ===== THE REFERENCE'S CALLS: jumper, rig, lend, pack, renew, pass, wind, hold, gong, board, empty ===== -/
theorem no_of {a : Int32} {n : Nat} (hn : n ≤ 100) (h : a < 0 ∨ Int32.ofNat n ≤ a) : ∀ m, m < n → a ≠ Int32.ofNat m := by
  intro m hm e
  rw [e] at h
  rcases h with h | h
  · exact i_neg (by omega) h
  · rw [i_le (by omega) (by omega)] at h; omega
theorem placeF_neg : ∀ (l : List Nat) (v : Nat), (∀ k ∈ l, k < 1000) → placeF (-1) l v = -1 := by
  intro l
  induction l with
  | nil => intro v _; rfl
  | cons x l ih =>
    intro v hb
    show (if Int32.ofNat x = -1 then Int32.ofNat v else placeF (-1) l (v + 1)) = -1
    rw [if_neg (i_negone x (by have := hb x List.mem_cons_self; omega))]
    exact ih (v + 1) (fun k hk => hb k (List.mem_cons_of_mem _ hk))
/-- what a jumper, a rig is before it is told -/
def iniJ (A : CS) (k : Nat) : Prop := cJ A k 2 = -1 ∧ cJ A k 4 = 0 ∧ cJ A k 5 = 0 ∧ cJ A k 6 = 0 ∧ cJ A k 7 = 0 ∧ cP A k 8 = 0 ∧ cP A k 9 = 0
def iniG (A : CS) (k : Nat) : Prop := cG A k 2 = 0 ∧ cG A k 3 = 0 ∧ cW A k = 0
section REFE
variable {K : Cfg} {r : Nat → Nat} {nJ nR : Nat} {A : CS} {T : RT} {M0 M : Mem} {ln : List Nat}
theorem pl_iff {j : Nat} (hl : lnOk A nJ ln) (ha : abOk A nJ nR ln) (hlk : lk A T nJ ln) (h8 : nJ ≤ 8) (hj : j < nJ) : placeF (Int32.ofNat j) ln 0 = -1 ↔ tS T j = -1 := by
  have hlt : ∀ q ∈ ln, q < 1000 := fun q hq => by have := hl.2.2.2 q hq; omega
  rw [st_iff ha hlk hj]
  constructor
  · intro h hm
    obtain ⟨p, p1, p2⟩ := mem_getD hm
    have h2 := placeF_get ln 0 hlt hlk.1 p1
    rw [p2, h, Nat.zero_add] at h2
    exact i_negone p (by have := hl.1; omega) h2.symm
  · exact fun h => placeF_notin (by omega) ln 0 hlt h
theorem x_jumper {w z : Int32} {k : Int32 → Mem → Prop} (hK : K.2.2 1 < K.2.2 0) (h : picR K r nJ nR A T M0 M) (hini : nJ < 8 → iniJ A nJ) (hx : ¬ (inB w 50 130 ∧ inB z 0 3) → ∀ M2, picR K r nJ nR A (setTh T 1) M0 M2 → k 0 M2) (hs : inB w 50 130 → inB z 0 3 → nJ = 8 → ∀ M2, picR K r nJ nR A (setTh T 2) M0 M2 → k 0 M2)
    (hk : inB w 50 130 → inB z 0 3 → nJ < 8 → ∀ r2 T2 M2, rmore r r2 nJ nR (nJ + 1) nR M0 → r2 0 = r 0 → tH T2 = 0 → tS T2 = up1 (tS T) nJ (-1) → (∀ k, k < nJ → tO T2 k = tO T k) → picR K r2 (nJ + 1) nR (setS (setJ (setJ (setJ A nJ 0 w) nJ 1 z) nJ 3 (cS A 10)) 1 (Int32.ofNat (nJ + 1))) T2 M0 M2 → k (Int32.ofNat nJ) M2) : f_X9_jumper K (r 0) w z k M := by
  unfold f_X9_jumper f_X9_jumper_b26
  refine q_putM0 h (fun M h => x_in (fun p1 => s_ifF (by decide) (x_in (fun p2 => s_ifF (by decide) (r_szJ h (s_if (fun c1 => s_recv h.r0 (x_no h (fun M h => hs p1 p2 ?_ M h))) (fun c1 => s_getR h.r0 rfl (fun x hx1 => ?_))))) (fun p2 => s_ifT rfl (s_recv h.r0 (x_no h (fun M h => hx (fun h9 => p2 h9.2) M h)))))) (fun p1 => s_ifT rfl (s_recv h.r0 (x_no h (fun M h => hx (fun h9 => p1 h9.1) M h)))))
  · have c1 : Int32.ofNat nJ = Int32.ofNat 8 := c1
    have := h.1.1.1
    rwa [i_eq (by omega) (by omega)] at c1
  · have hlt : nJ < 8 := by
      have c1 : ¬ Int32.ofNat nJ = Int32.ofNat 8 := c1
      have := h.1.1.1
      rw [i_eq (by omega) (by omega)] at c1; omega
    have hM := fresh_none hx1
    have hap := h.apart hM
    have hM0 := h.nil0 hM
    obtain ⟨z2, z4, z5, z6, z7, z8, z9⟩ := hini hlt
    refine s_getI ((mUp_ne (hap 0 (rv_lo (by decide)))).trans h.r0) rfl ?_
    unfold f_X7_init
    refine u_put (by show 2 < 12; decide) (u_put (by show 10 < 12; decide) (u_put (by show 0 < 12; decide) (u_put (by show 1 < 12; decide) (u_put (by show 3 < 12; decide) (s_recv ((mUp_ne (hap 1 (rv_lo (by decide)))).trans h.r1) ?_)))))
    have hrj : rjf (setS (setJ (setJ (setJ A nJ 0 w) nJ 1 z) nJ 3 (cS A 10)) 1 (Int32.ofNat (nJ + 1))) (up1 (tS T) nJ (-1), up1 (tO T) nJ 0, 0, t1 T + 1, t2 T) nJ = [.int w, .int z, .int (-1), .int (cS A 10), .int 0, .int 0, .int 0, .int 0, .double 0, .double 0, .int (-1), .int 0] := by
      simp [rjf, setS, setJ, up2, up1, cJ, cP, tS, tO, z2, z4, z5, z6, z7, z8, z9, em_zero]
    have h2 := h.tmp (a := x) (e := .inr (8, [.int w, .int z, .int (-1), .int (cS A 10), .int 0, .int 0, .int 0, .int 0, .double 0, .double 0, .int (-1), .int 0])) hM0 hap
    refine r_addJ (A2 := setS (setJ (setJ (setJ A nJ 0 w) nJ 1 z) nJ 3 (cS A 10)) 1 (Int32.ofNat (nJ + 1))) (T2 := (up1 (tS T) nJ (-1), up1 (tO T) nJ 0, 0, t1 T + 1, t2 T)) hK h2 hlt (by rw [hrj]; exact mUp_same) hap hM0 ⟨rfl, rfl⟩ rfl rfl rfl (fun k hk => ?_) (fun k _ => rfl) (fun r2 M2 e1 e2 h3 => ?_)
    · have hne : k ≠ nJ := by omega
      have e1 : rjf (setS (setJ (setJ (setJ A nJ 0 w) nJ 1 z) nJ 3 (cS A 10)) 1 (Int32.ofNat (nJ + 1))) (up1 (tS T) nJ (-1), up1 (tO T) nJ 0, 0, t1 T + 1, t2 T) k = rjf (setJ (setJ (setJ A nJ 0 w) nJ 1 z) nJ 3 (cS A 10)) T k := by
        show [_, _, _, _, _, _, _, _, _, _, Value.int (up1 (tS T) nJ (-1) k), Value.int (up1 (tO T) nJ 0 k)] = _
        rw [up1_ne hne, up1_ne hne]; rfl
      rw [e1, rjf_J hne, rjf_J hne, rjf_J hne]; rfl
    · rw [← e2]
      refine r_szJ h3 ?_
      rw [i_pred]
      exact hk p1 p2 hlt r2 _ M2 e1 e2 rfl rfl (fun k hk => up1_ne (by omega)) h3
theorem x_rig {w z : Int32} {k : Int32 → Mem → Prop} (hK : K.2.2 1 < K.2.2 0) (h : picR K r nJ nR A T M0 M) (hini : nR < 8 → iniG A nR) (hx : ¬ (inB w 80 300 ∧ inB z 0 60) → ∀ M2, picR K r nJ nR A (setTh T 1) M0 M2 → k 0 M2) (hs : inB w 80 300 → inB z 0 60 → nR = 8 → ∀ M2, picR K r nJ nR A (setTh T 2) M0 M2 → k 0 M2)
    (hk : inB w 80 300 → inB z 0 60 → nR < 8 → ∀ r2 T2 M2, rmore r r2 nJ nR nJ (nR + 1) M0 → r2 0 = r 0 → tH T2 = 0 → tS T2 = tS T → tO T2 = tO T → picR K r2 nJ (nR + 1) (setS (setG (setG A nR 0 w) nR 1 (cS A 10 + z)) 3 (Int32.ofNat (nR + 1))) T2 M0 M2 → k (Int32.ofNat nR) M2) : f_X9_rig K (r 0) w z k M := by
  unfold f_X9_rig f_X9_rig_b27
  refine q_putM0 h (fun M h => x_in (fun p1 => s_ifF (by decide) (x_in (fun p2 => s_ifF (by decide) (r_szG h (s_if (fun c1 => s_recv h.r0 (x_no h (fun M h => hs p1 p2 ?_ M h))) (fun c1 => s_getR h.r0 rfl (fun x hx1 => ?_))))) (fun p2 => s_ifT rfl (s_recv h.r0 (x_no h (fun M h => hx (fun h9 => p2 h9.2) M h)))))) (fun p1 => s_ifT rfl (s_recv h.r0 (x_no h (fun M h => hx (fun h9 => p1 h9.1) M h)))))
  · have c1 : Int32.ofNat nR = Int32.ofNat 8 := c1
    have := h.1.1.2
    rwa [i_eq (by omega) (by omega)] at c1
  · have hlt : nR < 8 := by
      have c1 : ¬ Int32.ofNat nR = Int32.ofNat 8 := c1
      have := h.1.1.2
      rw [i_eq (by omega) (by omega)] at c1; omega
    have hM := fresh_none hx1
    have hap := h.apart hM
    have hM0 := h.nil0 hM
    obtain ⟨z2, z3, z4⟩ := hini hlt
    refine s_getI ((mUp_ne (hap 0 (rv_lo (by decide)))).trans h.r0) rfl ?_
    unfold f_X8_init
    refine u_put (by show 0 < 5; decide) (u_put (by show 1 < 5; decide) (s_recv ((mUp_ne (hap 2 (rv_lo (by decide)))).trans h.r2) ?_))
    have hrj : gfl (setS (setG (setG A nR 0 w) nR 1 (cS A 10 + z)) 3 (Int32.ofNat (nR + 1))) nR = [.int w, .int (cS A 10 + z), .int 0, .int 0, .float 0] := by
      simp [gfl, setS, setG, up2, cG, cW, z2, z3, z4]
    have h2 := h.tmp (a := x) (e := .inr (9, [.int w, .int (cS A 10 + z), .int 0, .int 0, .float 0])) hM0 hap
    refine r_addG (A2 := setS (setG (setG A nR 0 w) nR 1 (cS A 10 + z)) 3 (Int32.ofNat (nR + 1))) (T2 := (tS T, tO T, 0, t1 T, t2 T + 1)) hK h2 hlt (by rw [hrj]; exact mUp_same) hap hM0 ⟨rfl, rfl⟩ rfl rfl rfl (fun k _ => rfl) (fun k hk => ?_) (fun r2 M2 e1 e2 h3 => ?_)
    · have hne : k ≠ nR := by omega
      show gfl (setG (setG A nR 0 w) nR 1 (cS A 10 + z)) k = _
      rw [gfl_G hne, gfl_G hne]
    · rw [← e2]
      refine r_szG h3 ?_
      rw [i_pred]
      exact hk p1 p2 hlt r2 (tS T, tO T, 0, t1 T, t2 T + 1) M2 e1 e2 rfl rfl rfl h3
theorem x_lend {a b : Int32} {k : Int32 → Mem → Prop} (h : picR K r nJ nR A T M0 M) (hl : lnOk A nJ ln) (ha : abOk A nJ nR ln) (hlk : lk A T nJ ln) (h1 : ((∀ m, m < nR → a ≠ Int32.ofNat m) ∨ ∀ m, m < nJ → b ≠ Int32.ofNat m) → ∀ M2, picR K r nJ nR A (setTh T 1) M0 M2 → k 0 M2)
    (h2 : ∀ g j, g < nR → j < nJ → a = Int32.ofNat g → b = Int32.ofNat j → ¬ (placeF (Int32.ofNat j) ln 0 = -1 ∧ placeF (holdF A (Int32.ofNat g) nJ 0) ln 0 = -1) → ∀ M2, picR K r nJ nR A (setTh T 2) M0 M2 → k 0 M2)
    (hk : ∀ g j, g < nR → j < nJ → a = Int32.ofNat g → b = Int32.ofNat j → placeF (Int32.ofNat j) ln 0 = -1 → placeF (holdF A (Int32.ofNat g) nJ 0) ln 0 = -1 → ∀ M2, picR K r nJ nR (setJ (if holdF A (Int32.ofNat g) nJ 0 = -1 then A else setJ A (holdF A (Int32.ofNat g) nJ 0).toNatClampNeg 2 (-1)) j 2 (Int32.ofNat g)) (setTh T 0) M0 M2 → k (holdF A (Int32.ofNat g) nJ 0) M2) : f_X9_lend K (r 0) a b k M := by
  have n1 := h.1.1.1
  unfold f_X9_lend f_X9_lend_b21 f_X9_lend_b78 f_X9_lend_b84 f_X9_lend_b106
  refine q_putM0 h (fun M h => s_recv h.r0 (x_isRig h (fun g g1 g2 => s_ifF (by decide) (s_recv h.r0 (x_isJumper h (fun j j1 j2 => s_ifF (by decide) (s_recv h.r0 (x_holder h ?_))) (fun hno => s_ifT rfl (s_recv h.r0 (x_no h (fun M h => h1 (Or.inr hno) M h))))))) (fun hno => s_ifT rfl (s_recv h.r0 (x_no h (fun M h => h1 (Or.inl hno) M h))))))
  subst g2
  subst j2
  have hp := pl_iff hl ha hlk n1 j1
  have h2 := h2 g j g1 j1 rfl rfl
  have hk := hk g j g1 j1 rfl rfl
  refine r_J h j1 (s_getI (h.rj j1) rfl (s_if (fun c1 => s_if (fun c2 => s_ifT c2 (r_J h j1 ?_)) (fun c2 => ?_)) (fun c1 => s_recv h.r0 (x_no h (fun M h => h2 (fun h9 => c1 (hp.mp h9.1)) M h)))))
  · rw [c2] at hk ⊢
    rw [if_pos rfl] at hk
    exact q_putJ2 h j1 (fun M h => hk (hp.mpr c1) (placeF_neg ln 0 (fun q hq => by have := hl.2.2.2 q hq; omega)) M h)
  · obtain ⟨n, -, e2, e3, e4⟩ := (holdF_cases A (Int32.ofNat g) nJ 0).resolve_left c2
    have hq := pl_iff hl ha hlk n1 (show n < nJ by omega)
    rw [e3] at hk h2 ⊢
    rw [if_neg (i_negone n (by omega)), i_nat (by omega)] at hk
    refine r_J h (by omega) (s_getI (h.rj (by omega)) rfl (s_if (fun c3 => s_ifF (i_negone n (by omega)) (r_J h (by omega) (q_putJ2 h (by omega) (fun M h => r_J h j1 (q_putJ2 h j1 (fun M h => hk (hp.mpr c1) (hq.mpr c3) M h)))))) (fun c3 => s_recv h.r0 (x_no h (fun M h => h2 (fun h9 => c3 (hq.mp h9.2)) M h)))))
theorem x_pack {a b : Int32} {k : Int32 → Mem → Prop} (h : picR K r nJ nR A T M0 M) (h1 : ((∀ m, m < nR → a ≠ Int32.ofNat m) ∨ ∀ m, m < nJ → b ≠ Int32.ofNat m) → ∀ M2, picR K r nJ nR A (setTh T 1) M0 M2 → k 0 M2)
    (h2 : ∀ g j, g < nR → j < nJ → a = Int32.ofNat g → b = Int32.ofNat j → ¬ cG A g 3 = 0 → ∀ M2, picR K r nJ nR A (setTh T 2) M0 M2 → k 0 M2)
    (hk : ∀ g j, g < nR → j < nJ → a = Int32.ofNat g → b = Int32.ofNat j → cG A g 3 = 0 → ∀ M2, picR K r nJ nR (setJ (setG (setG A g 2 (if 0 < 9 - cJ A j 6 then 9 - cJ A j 6 else 0)) g 3 1) j 6 (cJ A j 6 + 1)) (setTh T 0) M0 M2 → k (if 0 < 9 - cJ A j 6 then 9 - cJ A j 6 else 0) M2) : f_X9_pack K (r 0) a b k M := by
  unfold f_X9_pack f_X9_pack_b21
  refine q_putM0 h (fun M h => s_recv h.r0 (x_isRig h (fun g g1 g2 => s_ifF (by decide) (s_recv h.r0 (x_isJumper h (fun j j1 j2 => s_ifF (by decide) ?_) (fun hno => s_ifT rfl (s_recv h.r0 (x_no h (fun M h => h1 (Or.inr hno) M h))))))) (fun hno => s_ifT rfl (s_recv h.r0 (x_no h (fun M h => h1 (Or.inl hno) M h))))))
  subst g2
  subst j2
  have h2 := h2 g j g1 j1 rfl rfl
  have hk := hk g j g1 j1 rfl rfl
  refine r_G h g1 (s_getI (h.rg g1) rfl (s_if (fun c1 => r_J h j1 (s_getI (h.rj j1) rfl ?_)) (fun c1 => s_recv h.r0 (x_no h (fun M h => h2 c1 M h)))))
  have hk1 := hk c1
  unfold f_J9_max_7cf53 f_J9_max_7cf53_b10
  have e : ∀ v : Int32, cG (setJ (setG (setG A g 2 v) g 3 1) j 6 (cJ A j 6 + 1)) g 2 = v := fun v => by
    show (if g = g ∧ 2 = 3 then _ else (if g = g ∧ 2 = 2 then _ else _)) = _
    rw [if_neg (fun e9 => absurd e9.2 (by decide)), if_pos ⟨rfl, rfl⟩]
  refine s_if (fun c2 => q_putG2 h g1 (fun M h => ⟨Or.inr rfl, q_putG3 h g1 (fun M h => r_J h j1 (s_getI (h.rj j1) rfl (q_putJ6 h j1 (fun M h => s_getI (h.rg g1) rfl ?_))))⟩)) (fun c2 => q_putG2 h g1 (fun M h => ⟨Or.inr rfl, q_putG3 h g1 (fun M h => r_J h j1 (s_getI (h.rj j1) rfl (q_putJ6 h j1 (fun M h => s_getI (h.rg g1) rfl ?_))))⟩))
  · have c2 : 0 < 9 - cJ A j 6 := c2
    rw [if_pos c2] at hk1
    have h9 := hk1 M h
    rw [← e (9 - cJ A j 6)] at h9
    exact h9
  · have c2 : ¬ 0 < 9 - cJ A j 6 := c2
    rw [if_neg c2] at hk1
    have h9 := hk1 M h
    rw [← e 0] at h9
    exact h9
theorem x_renew {a : Int32} {k : Int32 → Mem → Prop} (h : picR K r nJ nR A T M0 M) (h1 : (∀ m, m < nR → a ≠ Int32.ofNat m) → ∀ M2, picR K r nJ nR A (setTh T 1) M0 M2 → k 0 M2)
    (hk : ∀ g, g < nR → a = Int32.ofNat g → ∀ M2, picR K r nJ nR (setG A g 1 (cS A 10 + 60)) (setTh T 0) M0 M2 → k (cS A 10 + 60) M2) : f_X9_renew K (r 0) a k M := by
  unfold f_X9_renew
  refine q_putM0 h (fun M h => s_recv h.r0 (x_isRig h (fun g g1 g2 => s_ifF (by decide) ?_) (fun hno => s_ifT rfl (s_recv h.r0 (x_no h (fun M h => h1 hno M h))))))
  subst g2
  exact r_G h g1 (s_getI h.r0 rfl (q_putG1 h g1 (fun M h => s_getI h.r0 rfl (hk g g1 rfl M h))))
theorem x_pass_loop {k : Int32 → Mem → Prop} : ∀ (d fuel v : Nat) (A : CS) (M : Mem), picR K r nJ nR A T M0 M → v + d = nJ → d < fuel → (∀ M2, picR K r nJ nR (passF A d v) T M0 M2 → k (cS A 10) M2) → f_X9_pass_b58 K k fuel (r 0) (Int32.ofNat v) M := by
  intro d
  induction d with
  | zero =>
    intro fuel v A M h hv hf hk
    have n1 := h.1.1.1
    obtain ⟨fuel, rfl⟩ : ∃ e, fuel = e + 1 := ⟨fuel - 1, by omega⟩
    show f_X9_pass_b58_body K k (f_X9_pass_b58 K k fuel) (r 0) (Int32.ofNat v) M
    unfold f_X9_pass_b58_body
    refine r_szJ h (s_ifT ?_ (s_getI h.r0 rfl (hk M h)))
    rw [i_le (by omega) (by omega)]; omega
  | succ d ih =>
    intro fuel v A M h hv hf hk
    have n1 := h.1.1.1
    obtain ⟨fuel, rfl⟩ : ∃ e, fuel = e + 1 := ⟨fuel - 1, by omega⟩
    show f_X9_pass_b58_body K k (f_X9_pass_b58 K k fuel) (r 0) (Int32.ofNat v) M
    unfold f_X9_pass_b58_body
    refine r_szJ h (s_ifF ?_ (r_J h (by omega) (q_putJ6 h (by omega) (fun M h => ?_))))
    · rw [i_le (by omega) (by omega)]; omega
    rw [i_succ]
    exact ih fuel (v + 1) (setJ A v 6 0) M h (by omega) (by omega) hk
theorem x_pass {z : Int32} {k : Int32 → Mem → Prop} (h : picR K r nJ nR A T M0 M) (hl : lnOk A nJ ln) (ha : abOk A nJ nR ln) (hlk : lk A T nJ ln) (hx : ¬ inB z 1 90 → ∀ M2, picR K r nJ nR A (setTh T 1) M0 M2 → k 0 M2) (hs : inB z 1 90 → (500 < cS A 10 + z ∨ ¬ cS A 6 ≤ 0) → ∀ M2, picR K r nJ nR A (setTh T 2) M0 M2 → k 0 M2)
    (hk : inB z 1 90 → ¬ 500 < cS A 10 + z → cS A 6 ≤ 0 → ∀ M2, picR K r nJ nR (passF (setS A 10 (cS A 10 + z)) nJ 0) (setTh T 0) M0 M2 → k (cS A 10 + z) M2) : f_X9_pass K (r 0) z k M := by
  unfold f_X9_pass f_X9_pass_b40
  refine q_putM0 h (fun M h => x_in (fun p1 => s_ifF (by decide) (s_getI h.r0 rfl (s_if (fun c1 => s_recv h.r0 (x_no h (fun M h => hs p1 (Or.inl c1) M h))) (fun c1 => s_recv h.r0 (x_aboard h hl ha hlk ?_))))) (fun p1 => s_ifT rfl (s_recv h.r0 (x_no h (fun M h => hx p1 M h)))))
  rw [← hl.2.1]
  refine s_if (fun c2 => s_getI h.r0 rfl (q_putM5 h (fun M h => ?_))) (fun c2 => s_recv h.r0 (x_no h (fun M h => hs p1 (Or.inr c2) M h)))
  exact x_pass_loop nJ mFuel 0 (setS A 10 (cS A 10 + z)) M h (Nat.zero_add _) (by have := h.1.1.1; show nJ < 4096; omega) (fun M2 h2 => hk p1 c1 c2 M2 h2)
theorem x_wind {a x y : Int32} {k : Int32 → Mem → Prop} (h : picR K r nJ nR A T M0 M) (hi : ¬ inB a 0 9 → ∀ M2, picR K r nJ nR A (setTh T 1) M0 M2 → k 0 M2) (hx : inB a 0 9 → ¬ (inB x (-20) 20 ∧ inB y (-20) 20) → ∀ M2, picR K r nJ nR A (setTh T 2) M0 M2 → k 0 M2)
    (hk : ∀ n, n < 10 → a = Int32.ofNat n → inB x (-20) 20 → inB y (-20) 20 → ∀ M2, picR K r nJ nR (setY (setX A n x) n y) (setTh T 0) M0 M2 → k (grdF (setY (setX A n x) n y)) M2) : f_X9_wind K (r 0) a x y k M := by
  unfold f_X9_wind f_X9_wind_b43
  refine q_putM0 h (fun M h => x_in (fun p0 => s_ifF (by decide) (x_in (fun p1 => s_ifF (by decide) (x_in (fun p2 => s_ifF (by decide) (s_getR h.r0 rfl ?_)) (fun p2 => s_ifT rfl (s_recv h.r0 (x_no h (fun M h => hx p0 (fun h9 => p2 h9.2) M h)))))) (fun p1 => s_ifT rfl (s_recv h.r0 (x_no h (fun M h => hx p0 (fun h9 => p1 h9.1) M h)))))) (fun p0 => s_ifT rfl (s_recv h.r0 (x_no h (fun M h => hi p0 M h)))))
  obtain ⟨n, rfl, -, n2⟩ := i_num (lo := 0) (hi := 9) (by decide) (by decide) p0
  exact q_putX h (by omega) (fun M h => s_getR h.r0 rfl (q_putY h (by omega) (fun M h => s_recv h.r0 (x_ground h (hk n (by omega) rfl p1 p2 M h)))))
theorem x_hold {v : Int32} {k : Int32 → Mem → Prop} (hv : v = 0 ∨ v = 1) (h : picR K r nJ nR A T M0 M) (h7 : cS A 7 = 0 ∨ cS A 7 = 1) (hk : ∀ M2, picR K r nJ nR (setS A 7 v) (setTh T 0) M0 M2 → k (cS A 7) M2) : f_X9_hold K (r 0) v k M := by
  unfold f_X9_hold
  exact q_putM0 h (fun M h => s_getI h.r0 rfl ⟨hv, q_putM12 h (fun M h => s_as h7 (hk M h))⟩)
theorem x_gong {k : Int32 → Mem → Prop} (h : picR K r nJ nR A T M0 M) (hk : ∀ M2, picR K r nJ nR (setS A 17 (cS A 17 + 1)) (setTh T 0) M0 M2 → k (cS A 17 + 1) M2) : f_X9_gong K (r 0) k M := by
  unfold f_X9_gong
  exact q_putM0 h (fun M h => s_getI h.r0 rfl (q_putM13 h (fun M h => s_getI h.r0 rfl (hk M h))))
end REFE
