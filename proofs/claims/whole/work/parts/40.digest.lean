/-! ===== THE CLASS: the checksum ===== -/
def itF (g : Nat → Int64 → Int64) : Nat → Nat → Int64 → Int64
  | 0 => fun _ a => a
  | d + 1 => fun i a => itF g d (i + 1) (g i a)
def dgJ (A : CS) (ln : List Nat) (nJ nR : Nat) (j : Nat) (a : Int64) : Int64 :=
  (((itF (fun i a => a * 31 + (ofJF A ln j (Int32.ofNat i)).toInt64) 9 0 a * 31 + FP.d2l (FP.dmul 4652218415073722368 (em (cP A j 8)))) * 31 + FP.d2l (FP.dmul 4652218415073722368 (em (cP A j 9)))) * 31 + (whyF A ln j).toInt64) * 31 + (bestF A nJ (Int32.ofNat j) j nR 0 (-1) 0).toInt64
def dgR (A : CS) (nJ : Nat) (r : Nat) (a : Int64) : Int64 :=
  itF (fun i a => a * 31 + (ofRF A nJ r (Int32.ofNat i)).toInt64) 5 0 a * 31 + FP.d2l (FP.dmul 4634204016564240384 (FP.f2d (cW A r)))
def dgF (A : CS) (ln : List Nat) (nJ nR : Nat) : Int64 :=
  itF (fun i a => (a * 31 + (cX A i).toInt64) * 31 + (cY A i).toInt64) 10 0 (itF (dgR A nJ) nR 0 (itF (dgJ A ln nJ nR) nJ 0 (itF (fun i a => a * 31 + (manyF A (Int32.ofNat i)).toInt64) 13 0 58311)))
theorem d1024 {k : Int} (hk : k.natAbs < 2 ^ 53) : vf_n64 (FP.dmul 4652218415073722368 (em k)) := by
  have h : (4652218415073722368 : UInt64) = em (1024 * 2 ^ 24) := by decide +kernel
  rw [h]
  exact em_n64 ((FP.Core.notNaN_iff _).mp (FP.Core.dmul_out (em_fin (by decide)) (em_fin hk)))
section DIGEST
variable {K : Cfg} {c : Nat → Nat} {A : CS} {M0 M : Mem} {nJ nR nF : Nat} {ln : List Nat} {QX : String → Mem → Prop}
theorem i_rng {i n : Nat} (h : i ≤ n) (hn : n ≤ 100) : ¬ ((Int32.ofNat i).toInt < 0 ∨ (n : Int) < (Int32.ofNat i).toInt) := by
  rw [i_toInt (by omega)]; omega
theorem c_dgJ_loop {j : Nat} {k : Int64 → Mem → Prop} (hne : K.2.2 2 ≠ K.2.2 3) (h : picC K c A M0 M) (hn : cntOk A nJ nR) (hl : lnOk A nJ ln) (hj : j < nJ) (hjo : jmpOk A nR j) (hro : ∀ r, r < nR → rigOk A r) :
    ∀ (d fuel i : Nat) (a : Int64), i + d = 9 → d < fuel → k ((((itF (fun i a => a * 31 + (ofJF A ln j (Int32.ofNat i)).toInt64) d i a * 31 + FP.d2l (FP.dmul 4652218415073722368 (em (cP A j 8)))) * 31 + FP.d2l (FP.dmul 4652218415073722368 (em (cP A j 9)))) * 31 + (whyF A ln j).toInt64) * 31 + (bestF A nJ (Int32.ofNat j) j nR 0 (-1) 0).toInt64) M → f_X5_digestOfJumper_b6 K k QX fuel (c 0) (Int32.ofNat j) a (Int32.ofNat i) M := by
  intro d
  induction d with
  | zero =>
    intro fuel i a hi hf hk
    obtain ⟨fuel, rfl⟩ : ∃ e, fuel = e + 1 := ⟨fuel - 1, by omega⟩
    show f_X5_digestOfJumper_b6_body K k QX (f_X5_digestOfJumper_b6 K k QX fuel) (c 0) (Int32.ofNat j) a (Int32.ofNat i) M
    unfold f_X5_digestOfJumper_b6_body
    obtain ⟨p1, p2⟩ := hjo.2.2.2
    unfold posOk at p1 p2
    refine s_ifT ?_ (s_recv h.c0 (c_landed h hn hj (s_as ?_ (s_recv h.c0 (c_landed h hn hj (s_as ?_ (s_recv h.c0 (c_refuses hne h hn hl hj hjo hro (s_recv h.c0 (c_best hne h hn hj hjo hro ?_))))))))))
    · show Int32.ofNat 8 < _
      rw [i_lt (by omega) (by omega)]; omega
    · rw [if_pos rfl]; exact d1024 (by omega)
    · rw [if_neg (by decide)]; exact d1024 (by omega)
    · exact hk
  | succ d ih =>
    intro fuel i a hi hf hk
    obtain ⟨fuel, rfl⟩ : ∃ e, fuel = e + 1 := ⟨fuel - 1, by omega⟩
    show f_X5_digestOfJumper_b6_body K k QX (f_X5_digestOfJumper_b6 K k QX fuel) (c 0) (Int32.ofNat j) a (Int32.ofNat i) M
    unfold f_X5_digestOfJumper_b6_body
    refine s_ifF ?_ (s_recv h.c0 (c_ofJumper h hn hl hj (fun h9 => absurd h9 (i_rng (n := 8) (by omega) (by omega))) (fun _ => ?_)))
    · show ¬ Int32.ofNat 8 < _
      rw [i_lt (by omega) (by omega)]; omega
    · rw [i_succ]
      exact ih fuel (i + 1) _ (by omega) (by omega) hk
theorem c_dgR_loop {r b : Nat} {k : Int64 → Mem → Prop} (h : picC K c A M0 M) (hn : cntOk A nJ nR) (hr : r < nR) (hw : wOk b A) (hb : b ≤ 2052) :
    ∀ (d fuel i : Nat) (a : Int64), i + d = 5 → d < fuel → k (itF (fun i a => a * 31 + (ofRF A nJ r (Int32.ofNat i)).toInt64) d i a * 31 + FP.d2l (FP.dmul 4634204016564240384 (FP.f2d (cW A r)))) M → f_X5_digestOfRig_b6 K k QX fuel (c 0) (Int32.ofNat r) a (Int32.ofNat i) M := by
  have n2 := hn.2.1
  intro d
  induction d with
  | zero =>
    intro fuel i a hi hf hk
    obtain ⟨fuel, rfl⟩ : ∃ e, fuel = e + 1 := ⟨fuel - 1, by omega⟩
    show f_X5_digestOfRig_b6_body K k QX (f_X5_digestOfRig_b6 K k QX fuel) (c 0) (Int32.ofNat r) a (Int32.ofNat i) M
    unfold f_X5_digestOfRig_b6_body
    obtain ⟨m, m1, m2⟩ := hw r (by omega)
    obtain ⟨-, -, -, -, -, w6, -⟩ := wf_spec (n := m) (by omega) wf_all
    refine s_ifT ?_ (s_recv h.c0 (c_wear h hn hr hw hb (s_as ?_ hk)))
    · show Int32.ofNat 4 < _
      rw [i_lt (by omega) (by omega)]; omega
    · rw [m2]; exact w6
  | succ d ih =>
    intro fuel i a hi hf hk
    obtain ⟨fuel, rfl⟩ : ∃ e, fuel = e + 1 := ⟨fuel - 1, by omega⟩
    show f_X5_digestOfRig_b6_body K k QX (f_X5_digestOfRig_b6 K k QX fuel) (c 0) (Int32.ofNat r) a (Int32.ofNat i) M
    unfold f_X5_digestOfRig_b6_body
    refine s_ifF ?_ (s_recv h.c0 (c_ofRig h hn hr (fun h9 => absurd h9 (i_rng (n := 4) (by omega) (by omega))) (fun _ => ?_)))
    · show ¬ Int32.ofNat 4 < _
      rw [i_lt (by omega) (by omega)]; omega
    · rw [i_succ]
      exact ih fuel (i + 1) _ (by omega) (by omega) hk
theorem c_dg79 {b : Nat} {k : Int64 → Mem → Prop} (f1 : 365 ≤ nF) (f2 : nF ≤ 900) (h : picC K c A M0 M) (hn : cntOk A nJ nR) (hl : lnOk A nJ ln) (ha : abOk A nJ nR ln) (hro : ∀ r, r < nR → rigOk A r) (hX : wbd (cX A)) (hY : wbd (cY A)) :
    ∀ (d fuel i : Nat) (a : Int64), i + d = 10 → d < fuel → (∀ (sp : Int32) N Q3 M3, isBest (fun s => pfN A (flQ A ln noT s 3) ln.length nF) sp.toInt → picC K c (repQ A N Q3) M0 M3 → k ((itF (fun i a => (a * 31 + (cX A i).toInt64) * 31 + (cY A i).toInt64) d i a * 31 + sp.toInt64) * 31 + (Int32.ofNat (ttQ A (flQ A ln noT 0 3) ln.length nF)).toInt64) M3) → f_X5_digest_b79 K k QX fuel (c 0) a (Int32.ofNat i) M := by
  intro d
  induction d with
  | zero =>
    intro fuel i a hi hf hk
    obtain ⟨fuel, rfl⟩ : ∃ e, fuel = e + 1 := ⟨fuel - 1, by omega⟩
    show f_X5_digest_b79_body K k QX (f_X5_digest_b79 K k QX fuel) (c 0) a (Int32.ofNat i) M
    unfold f_X5_digest_b79_body
    have i3 : inB 3 1 9 := by unfold inB; decide
    have i0 : inB 0 (-200) 200 := by unfold inB; decide
    have e3 : ∀ g9, (3 : Int32) = Int32.ofNat g9 → g9 ≤ 9 → g9 = 3 := fun g9 h1 h2 => by
      have h3 : Int32.ofNat 3 = Int32.ofNat g9 := h1
      rw [i_eq (by omega) (by omega)] at h3; omega
    refine s_ifT ?_ (s_recv h.c0 (c_spot (nF := nF) f1 f2 h hn hl ha hro hX hY (fun h9 => absurd i3 h9) (fun g9 h1 _ h3 sp N Q3 M3 h4 h5 => ?_)))
    · show Int32.ofNat 10 ≤ _
      rw [i_le (by omega) (by omega)]; omega
    · obtain rfl := e3 g9 h1 h3
      refine s_recv h5.c0 (c_wouldMeet (A := repQ A N Q3) (nJ := nJ) (nR := nR) (ln := ln) (nF := nF) f1 f2 h5 hn hl ha hro hX hY (fun h9 => absurd ⟨i3, i0⟩ h9) (fun g9 h1 _ h3 _ N2 Q4 M4 h6 => ?_))
      obtain rfl := e3 g9 h1 h3
      rw [ttQ_xy (A := A) (A2 := repQ A N Q3) rfl rfl]
      exact hk sp N2 Q4 M4 h4 h6
  | succ d ih =>
    intro fuel i a hi hf hk
    obtain ⟨fuel, rfl⟩ : ∃ e, fuel = e + 1 := ⟨fuel - 1, by omega⟩
    show f_X5_digest_b79_body K k QX (f_X5_digest_b79 K k QX fuel) (c 0) a (Int32.ofNat i) M
    unfold f_X5_digest_b79_body
    have hno : ¬ (Int32.ofNat i < 0 ∨ 10 ≤ Int32.ofNat i) := by
      rintro (h9 | h9)
      · exact i_neg (by omega) h9
      · have h9 : Int32.ofNat 10 ≤ Int32.ofNat i := h9
        rw [i_le (by omega) (by omega)] at h9; omega
    refine s_ifF (fun h9 => hno (Or.inr h9)) (s_recv h.c0 (c_ofWind h (fun h9 => absurd h9 hno) (fun n n1 n2 => s_recv h.c0 (c_ofWind h (fun h9 => absurd h9 hno) (fun n' n1' n2' => ?_)))))
    rw [i_eq (by omega) (by omega)] at n2 n2'
    subst n2
    subst n2'
    rw [if_pos rfl, if_neg (by decide), i_succ]
    exact ih fuel (i + 1) _ (by omega) (by omega) hk
theorem c_digest {b : Nat} {k : Int64 → Mem → Prop} (f1 : 365 ≤ nF) (f2 : nF ≤ 900) (hne : K.2.2 2 ≠ K.2.2 3) (h : picC K c A M0 M) (hn : cntOk A nJ nR) (hl : lnOk A nJ ln) (ha : abOk A nJ nR ln) (hjs : ∀ j, j < nJ → jmpOk A nR j) (hro : ∀ r, r < nR → rigOk A r) (hX : wbd (cX A)) (hY : wbd (cY A)) (hw : wOk b A) (hb : b ≤ 2052)
    (hk : ∀ (sp : Int32) N Q3 M3, isBest (fun s => pfN A (flQ A ln noT s 3) ln.length nF) sp.toInt → picC K c (repQ A N Q3) M0 M3 → k ((dgF A ln nJ nR * 31 + sp.toInt64) * 31 + (Int32.ofNat (ttQ A (flQ A ln noT 0 3) ln.length nF)).toInt64) M3) : f_X5_digest K (c 0) k QX M := by
  have n1 := hn.1
  have n2 := hn.2.1
  have l56 : ∀ (d fuel i : Nat) (a : Int64), i + d = nR → d < fuel → (∀ (sp : Int32) N Q3 M3, isBest (fun s => pfN A (flQ A ln noT s 3) ln.length nF) sp.toInt → picC K c (repQ A N Q3) M0 M3 → k ((itF (fun i a => (a * 31 + (cX A i).toInt64) * 31 + (cY A i).toInt64) 10 0 (itF (dgR A nJ) d i a) * 31 + sp.toInt64) * 31 + (Int32.ofNat (ttQ A (flQ A ln noT 0 3) ln.length nF)).toInt64) M3) → f_X5_digest_b56 K k QX fuel (c 0) a (Int32.ofNat i) M := by
    intro d
    induction d with
    | zero =>
      intro fuel i a hi hf hk
      obtain ⟨fuel, rfl⟩ : ∃ e, fuel = e + 1 := ⟨fuel - 1, by omega⟩
      show f_X5_digest_b56_body K k QX (f_X5_digest_b56 K k QX fuel) (c 0) a (Int32.ofNat i) M
      unfold f_X5_digest_b56_body
      refine s_getI h.c0 rfl (s_ifT ?_ ?_)
      · rw [hn.2.2.2, i_le (by omega) (by omega)]; omega
      · exact c_dg79 (b := b) f1 f2 h hn hl ha hro hX hY 10 mFuel 0 a rfl (by decide) hk
    | succ d ih =>
      intro fuel i a hi hf hk
      obtain ⟨fuel, rfl⟩ : ∃ e, fuel = e + 1 := ⟨fuel - 1, by omega⟩
      show f_X5_digest_b56_body K k QX (f_X5_digest_b56 K k QX fuel) (c 0) a (Int32.ofNat i) M
      unfold f_X5_digest_b56_body
      refine s_getI h.c0 rfl (s_ifF ?_ (s_recv h.c0 ?_))
      · rw [hn.2.2.2, i_le (by omega) (by omega)]; omega
      · unfold f_X5_digestOfRig
        refine c_dgR_loop h hn (by omega) hw hb 5 mFuel 0 a rfl (by decide) ?_
        rw [i_succ]
        exact ih fuel (i + 1) _ (by omega) (by omega) hk
  have l33 : ∀ (d fuel i : Nat) (a : Int64), i + d = nJ → d < fuel → (∀ (sp : Int32) N Q3 M3, isBest (fun s => pfN A (flQ A ln noT s 3) ln.length nF) sp.toInt → picC K c (repQ A N Q3) M0 M3 → k ((itF (fun i a => (a * 31 + (cX A i).toInt64) * 31 + (cY A i).toInt64) 10 0 (itF (dgR A nJ) nR 0 (itF (dgJ A ln nJ nR) d i a)) * 31 + sp.toInt64) * 31 + (Int32.ofNat (ttQ A (flQ A ln noT 0 3) ln.length nF)).toInt64) M3) → f_X5_digest_b33 K k QX fuel (c 0) a (Int32.ofNat i) M := by
    intro d
    induction d with
    | zero =>
      intro fuel i a hi hf hk
      obtain ⟨fuel, rfl⟩ : ∃ e, fuel = e + 1 := ⟨fuel - 1, by omega⟩
      show f_X5_digest_b33_body K k QX (f_X5_digest_b33 K k QX fuel) (c 0) a (Int32.ofNat i) M
      unfold f_X5_digest_b33_body
      refine s_getI h.c0 rfl (s_ifT ?_ ?_)
      · rw [hn.2.2.1, i_le (by omega) (by omega)]; omega
      · exact l56 nR mFuel 0 a (Nat.zero_add _) (by show nR < 4096; omega) hk
    | succ d ih =>
      intro fuel i a hi hf hk
      obtain ⟨fuel, rfl⟩ : ∃ e, fuel = e + 1 := ⟨fuel - 1, by omega⟩
      show f_X5_digest_b33_body K k QX (f_X5_digest_b33 K k QX fuel) (c 0) a (Int32.ofNat i) M
      unfold f_X5_digest_b33_body
      refine s_getI h.c0 rfl (s_ifF ?_ (s_recv h.c0 ?_))
      · rw [hn.2.2.1, i_le (by omega) (by omega)]; omega
      · unfold f_X5_digestOfJumper
        refine c_dgJ_loop hne h hn hl (by omega) (hjs i (by omega)) hro 9 mFuel 0 a rfl (by decide) ?_
        rw [i_succ]
        exact ih fuel (i + 1) _ (by omega) (by omega) hk
  have l6 : ∀ (d fuel i : Nat) (a : Int64), i + d = 13 → d < fuel → (∀ (sp : Int32) N Q3 M3, isBest (fun s => pfN A (flQ A ln noT s 3) ln.length nF) sp.toInt → picC K c (repQ A N Q3) M0 M3 → k ((itF (fun i a => (a * 31 + (cX A i).toInt64) * 31 + (cY A i).toInt64) 10 0 (itF (dgR A nJ) nR 0 (itF (dgJ A ln nJ nR) nJ 0 (itF (fun i a => a * 31 + (manyF A (Int32.ofNat i)).toInt64) d i a))) * 31 + sp.toInt64) * 31 + (Int32.ofNat (ttQ A (flQ A ln noT 0 3) ln.length nF)).toInt64) M3) → f_X5_digest_b6 K k QX fuel (c 0) a (Int32.ofNat i) M := by
    intro d
    induction d with
    | zero =>
      intro fuel i a hi hf hk
      obtain ⟨fuel, rfl⟩ : ∃ e, fuel = e + 1 := ⟨fuel - 1, by omega⟩
      show f_X5_digest_b6_body K k QX (f_X5_digest_b6 K k QX fuel) (c 0) a (Int32.ofNat i) M
      unfold f_X5_digest_b6_body
      refine s_ifT ?_ ?_
      · show Int32.ofNat 12 < _
        rw [i_lt (by omega) (by omega)]; omega
      · exact l33 nJ mFuel 0 a (Nat.zero_add _) (by show nJ < 4096; omega) hk
    | succ d ih =>
      intro fuel i a hi hf hk
      obtain ⟨fuel, rfl⟩ : ∃ e, fuel = e + 1 := ⟨fuel - 1, by omega⟩
      show f_X5_digest_b6_body K k QX (f_X5_digest_b6 K k QX fuel) (c 0) a (Int32.ofNat i) M
      unfold f_X5_digest_b6_body
      refine s_ifF ?_ (s_recv h.c0 (c_many h (fun h9 => absurd h9 (i_rng (n := 12) (by omega) (by omega))) (fun _ => ?_)))
      · show ¬ Int32.ofNat 12 < _
        rw [i_lt (by omega) (by omega)]; omega
      · rw [i_succ]
        exact ih fuel (i + 1) _ (by omega) (by omega) hk
  unfold f_X5_digest
  exact l6 13 mFuel 0 58311 rfl (by decide) hk
end DIGEST
