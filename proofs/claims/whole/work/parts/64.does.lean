/-! ===== BOTH SIDES: the calls that change ===== -/
section DOES
variable {K : Cfg} {c : Nat → Nat} {vo vd i mo nF : Nat} {x : Int64} {y : UInt64} {th : Int32} {M : Mem}
theorem done_u {r : Nat → Nat} {nJ nR : Nat} {A A2 : CS} {T T2 : RT} {ln : List Nat} {b : Nat} {v : Int32} {M2 : Mem} (hH : Hf K c r nJ nR A A2 T vo vd x y M) (h2 : picR K r nJ nR A2 T2 M M2) (ht : tH T2 = v) (hp : Pure A2 T2 nJ nR ln b (i + 1)) : InvT K c (r 0) vo vd (i + 1) v x y M2 := ⟨r, nJ, nR, ln, A2, T2, b, rfl, ht, hH.ref h2, hp⟩
theorem J_jumper {w z : Int32} {P : Int32 → Mem → Prop} {R : Int32 → Int32 → Mem → Prop} (hK : K.2.2 1 < K.2.2 0) (hI : InvT K c mo vo vd i th x y M) (hP : ∀ k1 M, mRecv mo 10 (f_X9_jumper K mo w z (fun r2 => R k1 r2)) M → P k1 M) (hR : ∀ k1 v2 x y M2, InvT K c mo vo vd (i + 1) k1 x y M2 → (k1 = 0 → x = v2.toInt64) → R k1 v2 M2) : f_L_jumper K (c 0) w z vo P M := by
  obtain ⟨r, nJ, nR, ln, A, T, b, rfl, ht, hH, hp⟩ := hI
  obtain ⟨hn, hw, hX, hY, h7, hwk, hb, iJ, iG⟩ := id hp
  obtain ⟨hjs, hro, hl, ha, hlk⟩ := id hw
  obtain ⟨n1, n2, n3, n4⟩ := id hn
  have hini : nJ < 8 → iniJ A nJ := fun h8 => iJ nJ (Nat.le_refl _) h8
  unfold f_L_jumper
  refine s_recv hH.c0 (c_jumper hH.1 hn (fun hx => Or.inl ⟨rfl, hP 1 M (s_recv hH.r0 ?_)⟩) (fun p1 p2 h8 => Or.inr ⟨rfl, hP 2 M (s_recv hH.r0 ?_)⟩) (fun p1 p2 h8 M2 h2 => (hH.cls h2).setL (fun M3 h3 => hP 0 M3 (s_recv h3.r0 ?_))))
  · exact x_jumper hK hH.2.1 hini (fun _ M2 h2 => hR 1 0 x y M2 (done_q hH hp h2) (fun h9 => absurd h9 no1)) (fun p1 p2 => absurd ⟨p1, p2⟩ hx) (fun p1 p2 => absurd ⟨p1, p2⟩ hx)
  · exact x_jumper hK hH.2.1 hini (fun hx => absurd ⟨p1, p2⟩ hx) (fun _ _ _ M2 h2 => hR 2 0 x y M2 (done_q hH hp h2) (fun h9 => absurd h9 no2)) (fun _ _ h9 => absurd h8 (by omega))
  · refine x_jumper hK h3.2.1 hini (fun hx => absurd ⟨p1, p2⟩ hx) (fun _ _ h9 => absurd h8 (by omega)) (fun _ _ _ r2 T2 M4 e1 e2 e3 e4 e5 h4 => ?_)
    rw [← e2] at hR
    refine hR 0 _ _ y M4 ⟨r2, nJ + 1, nR, ln, _, T2, b, rfl, e3, h3.refm h4 e1, ?_⟩ (fun _ => rfl)
    have hm : ∀ k, k ≠ nJ → ∀ j, cJ (setS (setJ (setJ (setJ A nJ 0 w) nJ 1 z) nJ 3 (cS A 10)) 1 (Int32.ofNat (nJ + 1))) k j = cJ A k j := fun k hk j => by
      show up2 (up2 (up2 (cJ A) nJ 0 w) nJ 1 z) nJ 3 (cS A 10) k j = _
      rw [up2_ne hk, up2_ne hk, up2_ne hk]
    obtain ⟨z2, z4, z5, z6, z7, z8, z9⟩ := hini h8
    have j2 : cJ (setS (setJ (setJ (setJ A nJ 0 w) nJ 1 z) nJ 3 (cS A 10)) 1 (Int32.ofNat (nJ + 1))) nJ 2 = -1 := by
      show up2 (up2 (up2 (cJ A) nJ 0 w) nJ 1 z) nJ 3 (cS A 10) nJ 2 = _
      rw [up2_ne1 (by decide), up2_ne1 (by decide), up2_ne1 (by decide)]; exact z2
    have j0 : cJ (setS (setJ (setJ (setJ A nJ 0 w) nJ 1 z) nJ 3 (cS A 10)) 1 (Int32.ofNat (nJ + 1))) nJ 0 = w := by
      show up2 (up2 (up2 (cJ A) nJ 0 w) nJ 1 z) nJ 3 (cS A 10) nJ 0 = _
      rw [up2_ne1 (by decide), up2_ne1 (by decide), up2_at]
    have j1 : cJ (setS (setJ (setJ (setJ A nJ 0 w) nJ 1 z) nJ 3 (cS A 10)) 1 (Int32.ofNat (nJ + 1))) nJ 1 = z := by
      show up2 (up2 (up2 (cJ A) nJ 0 w) nJ 1 z) nJ 3 (cS A 10) nJ 1 = _
      rw [up2_ne1 (by decide), up2_at]
    have jo : ∀ k, k < nJ + 1 → jmpOk (setS (setJ (setJ (setJ A nJ 0 w) nJ 1 z) nJ 3 (cS A 10)) 1 (Int32.ofNat (nJ + 1))) nR k := fun k hk => by
      by_cases hk1 : k = nJ
      · subst hk1
        refine ⟨by rw [j0]; exact ⟨Int32.le_iff_toInt_le.mp p1.1, Int32.le_iff_toInt_le.mp p1.2⟩, by rw [j1]; exact ⟨Int32.le_iff_toInt_le.mp p2.1, Int32.le_iff_toInt_le.mp p2.2⟩, Or.inl j2, ?_, ?_⟩
        · show posOk (cP A k 8)
          rw [z8]; unfold posOk; omega
        · show posOk (cP A k 9)
          rw [z9]; unfold posOk; omega
      · have h9 := hjs k (by omega)
        unfold jmpOk at h9 ⊢
        rw [hm k hk1, hm k hk1, hm k hk1]; exact h9
    have ke : ∀ k ∈ ln, keyF (setS (setJ (setJ (setJ A nJ 0 w) nJ 1 z) nJ 3 (cS A 10)) 1 (Int32.ofNat (nJ + 1))) k = keyF A k := fun k hk => by
      have hk1 : k ≠ nJ := by have := hl.2.2.2 k hk; omega
      exact keyF_congr (hm k hk1 0) (hm k hk1 1) (hm k hk1 2) (hm k hk1 10) (fun _ => rfl)
    refine ⟨⟨by omega, n2, rfl, n4⟩, ⟨jo, hro, ⟨hl.1, hl.2.1, hl.2.2.1, fun k hk => by have := hl.2.2.2 k hk; omega⟩, fun k hk => ?_, hlk.1, hlk.2.1.imp_of_mem (fun h8 h9 hr => by rw [ke _ h8, ke _ h9]; exact hr), fun k hk => ?_⟩, hX, hY, h7, hwk, by omega, fun k h1 h2 => ?_, iG⟩
    · obtain ⟨a1, a2, a3, a4, a5⟩ := ha k hk
      have hk1 : k ≠ nJ := by omega
      refine ⟨by omega, jo k (by omega), by rw [hm k hk1]; exact a3, by rw [hm k hk1]; exact a4, ?_⟩
      unfold opN
      rw [hm k hk1]; exact a5
    · by_cases hk1 : k = nJ
      · subst hk1
        rw [e4]
        exact Or.inr ⟨fun h9 => absurd (hl.2.2.2 k h9) (Nat.lt_irrefl k), up1_same⟩
      · rw [e4, up1_ne hk1, e5 k (by omega), hm k hk1, hm k hk1]
        exact hlk.2.2 k (by omega)
    · exact iniJ_congr (A := A) (hm k (by omega)) (fun _ => rfl) (iJ k (by omega) h2)
theorem J_rig {w z : Int32} {P : Int32 → Mem → Prop} {R : Int32 → Int32 → Mem → Prop} (hK : K.2.2 1 < K.2.2 0) (hI : InvT K c mo vo vd i th x y M) (hP : ∀ k1 M, mRecv mo 10 (f_X9_rig K mo w z (fun r2 => R k1 r2)) M → P k1 M) (hR : ∀ k1 v2 x y M2, InvT K c mo vo vd (i + 1) k1 x y M2 → (k1 = 0 → x = v2.toInt64) → R k1 v2 M2) : f_L_rig K (c 0) w z vo P M := by
  obtain ⟨r, nJ, nR, ln, A, T, b, rfl, ht, hH, hp⟩ := hI
  obtain ⟨hn, hw, hX, hY, h7, hwk, hb, iJ, iG⟩ := id hp
  obtain ⟨hjs, hro, hl, ha, hlk⟩ := id hw
  obtain ⟨n1, n2, n3, n4⟩ := id hn
  have hini : nR < 8 → iniG A nR := fun h8 => iG nR (Nat.le_refl _) h8
  unfold f_L_rig
  refine s_recv hH.c0 (c_rig hH.1 hn (fun hx => Or.inl ⟨rfl, hP 1 M (s_recv hH.r0 ?_)⟩) (fun p1 p2 h8 => Or.inr ⟨rfl, hP 2 M (s_recv hH.r0 ?_)⟩) (fun p1 p2 h8 M2 h2 => (hH.cls h2).setL (fun M3 h3 => hP 0 M3 (s_recv h3.r0 ?_))))
  · exact x_rig hK hH.2.1 hini (fun _ M2 h2 => hR 1 0 x y M2 (done_q hH hp h2) (fun h9 => absurd h9 no1)) (fun p1 p2 => absurd ⟨p1, p2⟩ hx) (fun p1 p2 => absurd ⟨p1, p2⟩ hx)
  · exact x_rig hK hH.2.1 hini (fun hx => absurd ⟨p1, p2⟩ hx) (fun _ _ _ M2 h2 => hR 2 0 x y M2 (done_q hH hp h2) (fun h9 => absurd h9 no2)) (fun _ _ h9 => absurd h8 (by omega))
  · refine x_rig hK h3.2.1 hini (fun hx => absurd ⟨p1, p2⟩ hx) (fun _ _ h9 => absurd h8 (by omega)) (fun _ _ _ r2 T2 M4 e1 e2 e3 e4 e5 h4 => ?_)
    rw [← e2] at hR
    refine hR 0 _ _ y M4 ⟨r2, nJ, nR + 1, ln, _, T2, b, rfl, e3, h3.refm h4 e1, ?_⟩ (fun _ => rfl)
    have hm : ∀ k, k ≠ nR → ∀ j, cG (setS (setG (setG A nR 0 w) nR 1 (cS A 10 + z)) 3 (Int32.ofNat (nR + 1))) k j = cG A k j := fun k hk j => by
      show up2 (up2 (cG A) nR 0 w) nR 1 (cS A 10 + z) k j = _
      rw [up2_ne hk, up2_ne hk]
    obtain ⟨z2, z3, z4⟩ := hini h8
    have g0 : cG (setS (setG (setG A nR 0 w) nR 1 (cS A 10 + z)) 3 (Int32.ofNat (nR + 1))) nR 0 = w := by
      show up2 (up2 (cG A) nR 0 w) nR 1 (cS A 10 + z) nR 0 = _
      rw [up2_ne1 (by decide), up2_at]
    have g3 : cG (setS (setG (setG A nR 0 w) nR 1 (cS A 10 + z)) 3 (Int32.ofNat (nR + 1))) nR 3 = 0 := by
      show up2 (up2 (cG A) nR 0 w) nR 1 (cS A 10 + z) nR 3 = _
      rw [up2_ne1 (by decide), up2_ne1 (by decide)]; exact z3
    have jo : ∀ k, k < nJ → jmpOk (setS (setG (setG A nR 0 w) nR 1 (cS A 10 + z)) 3 (Int32.ofNat (nR + 1))) (nR + 1) k := fun k hk => by
      obtain ⟨q1, q2, q3, q4⟩ := hjs k hk
      refine ⟨q1, q2, ?_, q4⟩
      rcases q3 with h9 | ⟨g, h8, h9⟩
      · exact Or.inl h9
      · exact Or.inr ⟨g, by omega, h9⟩
    have ke : ∀ k ∈ ln, keyF (setS (setG (setG A nR 0 w) nR 1 (cS A 10 + z)) 3 (Int32.ofNat (nR + 1))) k = keyF A k := fun k hk => by
      obtain ⟨a1, a2, a3, a4, a5⟩ := ha k hk
      have hr := (rig_of a2 a3 n2).2
      have hld : ldF (setS (setG (setG A nR 0 w) nR 1 (cS A 10 + z)) 3 (Int32.ofNat (nR + 1))) k = ldF A k := by
        show (if cJ A k 2 = -1 then 0 else ldO (cJ A k 0) (cG (setS (setG (setG A nR 0 w) nR 1 (cS A 10 + z)) 3 (Int32.ofNat (nR + 1))) (rigN A k) 0)) = _
        rw [hm _ (by omega)]; rfl
      unfold keyF
      rw [hld]
      rfl
    refine ⟨⟨n1, by omega, n3, rfl⟩, ⟨jo, fun g hg => ?_, hl, fun k hk => ?_, hlk.1, hlk.2.1.imp_of_mem (fun h8 h9 hr => by rw [ke _ h8, ke _ h9]; exact hr), fun k hk => by rw [e4, e5]; exact hlk.2.2 k hk⟩, hX, hY, h7, hwk, by omega, iJ, fun k h1 h2 => ?_⟩
    · by_cases hg1 : g = nR
      · subst hg1
        exact ⟨by rw [g0]; exact ⟨Int32.le_iff_toInt_le.mp p1.1, Int32.le_iff_toInt_le.mp p1.2⟩, Or.inl g3⟩
      · have h9 := hro g (by omega)
        unfold rigOk at h9 ⊢
        rw [hm g hg1, hm g hg1]; exact h9
    · obtain ⟨a1, a2, a3, a4, a5⟩ := ha k hk
      exact ⟨a1, jo k a1, a3, a4, a5⟩
    · exact iniG_congr (A := A) (hm k (by omega)) rfl (iG k (by omega) h2)
theorem J_lend {a d : Int32} {P : Int32 → Mem → Prop} {R : Int32 → Int32 → Mem → Prop} (hI : InvT K c mo vo vd i th x y M) (hP : ∀ k1 M, mRecv mo 10 (f_X9_lend K mo a d (fun r2 => R k1 r2)) M → P k1 M) (hR : ∀ k1 v2 x y M2, InvT K c mo vo vd (i + 1) k1 x y M2 → (k1 = 0 → x = v2.toInt64) → R k1 v2 M2) : f_L_lend K (c 0) a d vo P M := by
  obtain ⟨r, nJ, nR, ln, A, T, b, rfl, ht, hH, hp⟩ := hI
  obtain ⟨hn, hw, hX, hY, h7, hwk, hb, iJ, iG⟩ := id hp
  obtain ⟨hjs, hro, hl, ha, hlk⟩ := id hw
  obtain ⟨n1, n2, n3, n4⟩ := id hn
  unfold f_L_lend
  refine s_recv hH.c0 ?_
  rcases i_split a nR n2 with ⟨g, hg, rfl⟩ | hno
  · rcases i_split d nJ n1 with ⟨j, hj, rfl⟩ | hno2
    · have nob : ∀ {α : Prop}, ((∀ m, m < nR → Int32.ofNat g ≠ Int32.ofNat m) ∨ ∀ m, m < nJ → Int32.ofNat j ≠ Int32.ofNat m) → α := fun h9 => h9.elim (fun h8 => absurd rfl (h8 g hg)) (fun h8 => absurd rfl (h8 j hj))
      refine c_lend hH.1 hn hl hg hj (fun hs => Or.inr ⟨rfl, hP 2 M (s_recv hH.r0 ?_)⟩) (fun p1 p2 M2 h2 => (hH.cls h2).setL (fun M3 h3 => hP 0 M3 (s_recv h3.r0 ?_)))
      · refine x_lend hH.2.1 hl ha hlk (fun h9 => nob h9) (fun g2 j2 hg2 hj2 e1 e2 _ M2 h2 => hR 2 0 x y M2 (done_q hH hp h2) (fun h9 => absurd h9 no2)) (fun g2 j2 hg2 hj2 e1 e2 q1 q2 => ?_)
        obtain rfl := inj8 n2 hg hg2 e1
        obtain rfl := inj8 n1 hj hj2 e2
        exact absurd ⟨q1, q2⟩ hs
      · refine x_lend h3.2.1 hl ha hlk (fun h9 => nob h9) (fun g2 j2 hg2 hj2 e1 e2 hs => ?_) (fun g2 j2 hg2 hj2 e1 e2 q1 q2 M4 h4 => ?_)
        · obtain rfl := inj8 n2 hg hg2 e1
          obtain rfl := inj8 n1 hj hj2 e2
          exact absurd ⟨p1, p2⟩ hs
        · obtain rfl := inj8 n2 hg hg2 e1
          obtain rfl := inj8 n1 hj hj2 e2
          have hjn : j ∉ ln := fun hm => by
            have h9 := (pl_iff hl ha hlk n1 hj).mp q1
            exact (st_iff ha hlk hj).mp h9 hm
          have hh := holdF_cases A (Int32.ofNat g) nJ 0
          have hhn : ∀ n, holdF A (Int32.ofNat g) nJ 0 = Int32.ofNat n → n < nJ → n ∉ ln := fun n e hn9 hm => by
            rw [e] at q2
            have h9 := (pl_iff hl ha hlk n1 hn9).mp q2
            exact (st_iff ha hlk hn9).mp h9 hm
          have hJ : ∀ k q, cJ (setJ (if holdF A (Int32.ofNat g) nJ 0 = -1 then A else setJ A (holdF A (Int32.ofNat g) nJ 0).toNatClampNeg 2 (-1)) j 2 (Int32.ofNat g)) k q = cJ A k q ∨ (q = 2 ∧ k < nJ ∧ k ∉ ln ∧ (cJ (setJ (if holdF A (Int32.ofNat g) nJ 0 = -1 then A else setJ A (holdF A (Int32.ofNat g) nJ 0).toNatClampNeg 2 (-1)) j 2 (Int32.ofNat g)) k q = -1 ∨ cJ (setJ (if holdF A (Int32.ofNat g) nJ 0 = -1 then A else setJ A (holdF A (Int32.ofNat g) nJ 0).toNatClampNeg 2 (-1)) j 2 (Int32.ofNat g)) k q = Int32.ofNat g)) := by
            intro k q
            by_cases hc : k = j ∧ q = 2
            · obtain ⟨rfl, rfl⟩ := hc
              exact Or.inr ⟨rfl, hj, hjn, Or.inr up2_at⟩
            · have e0 : cJ (setJ (if holdF A (Int32.ofNat g) nJ 0 = -1 then A else setJ A (holdF A (Int32.ofNat g) nJ 0).toNatClampNeg 2 (-1)) j 2 (Int32.ofNat g)) k q = cJ (if holdF A (Int32.ofNat g) nJ 0 = -1 then A else setJ A (holdF A (Int32.ofNat g) nJ 0).toNatClampNeg 2 (-1)) k q := by
                show up2 _ j 2 _ k q = _
                unfold up2
                rw [if_neg hc]
              rw [e0]
              rcases hh with e | ⟨n, -, e2, e3, e4⟩
              · rw [if_pos e]; exact Or.inl rfl
              · rw [e3, if_neg (i_negone n (by omega)), i_nat (by omega)]
                by_cases hc2 : k = n ∧ q = 2
                · obtain ⟨rfl, rfl⟩ := hc2
                  exact Or.inr ⟨rfl, by omega, hhn k e3 (by omega), Or.inl up2_at⟩
                · refine Or.inl ?_
                  show up2 (cJ A) n 2 (-1) k q = _
                  unfold up2
                  rw [if_neg hc2]
          have hS : cS (setJ (if holdF A (Int32.ofNat g) nJ 0 = -1 then A else setJ A (holdF A (Int32.ofNat g) nJ 0).toNatClampNeg 2 (-1)) j 2 (Int32.ofNat g)) = cS A ∧ cP (setJ (if holdF A (Int32.ofNat g) nJ 0 = -1 then A else setJ A (holdF A (Int32.ofNat g) nJ 0).toNatClampNeg 2 (-1)) j 2 (Int32.ofNat g)) = cP A ∧ cG (setJ (if holdF A (Int32.ofNat g) nJ 0 = -1 then A else setJ A (holdF A (Int32.ofNat g) nJ 0).toNatClampNeg 2 (-1)) j 2 (Int32.ofNat g)) = cG A ∧ cW (setJ (if holdF A (Int32.ofNat g) nJ 0 = -1 then A else setJ A (holdF A (Int32.ofNat g) nJ 0).toNatClampNeg 2 (-1)) j 2 (Int32.ofNat g)) = cW A ∧ cX (setJ (if holdF A (Int32.ofNat g) nJ 0 = -1 then A else setJ A (holdF A (Int32.ofNat g) nJ 0).toNatClampNeg 2 (-1)) j 2 (Int32.ofNat g)) = cX A ∧ cY (setJ (if holdF A (Int32.ofNat g) nJ 0 = -1 then A else setJ A (holdF A (Int32.ofNat g) nJ 0).toNatClampNeg 2 (-1)) j 2 (Int32.ofNat g)) = cY A ∧ cL (setJ (if holdF A (Int32.ofNat g) nJ 0 = -1 then A else setJ A (holdF A (Int32.ofNat g) nJ 0).toNatClampNeg 2 (-1)) j 2 (Int32.ofNat g)) = cL A := by
            split <;> exact ⟨rfl, rfl, rfl, rfl, rfl, rfl, rfl⟩
          generalize hA2 : setJ (if holdF A (Int32.ofNat g) nJ 0 = -1 then A else setJ A (holdF A (Int32.ofNat g) nJ 0).toNatClampNeg 2 (-1)) j 2 (Int32.ofNat g) = A2 at h3 h4 hJ hS
          obtain ⟨s1, s2, s3, s4, s5, s6, s7⟩ := hS
          have hJo : ∀ k q, q ≠ 2 → cJ A2 k q = cJ A k q := fun k q hq => (hJ k q).resolve_right (fun h9 => hq h9.1)
          refine hR 0 _ _ y M4 (done_u h3 h4 rfl (hp.keep (by rw [s1]) (by rw [s1]) (by rw [s1]) (by rw [s1]; exact h7) (fun k hk => ⟨hJo k 0 (by decide), hJo k 1 (by decide), hJo k 10 (by decide), hJo k 11 (by decide)⟩) (fun k hk => ?_) s2 (fun g => by rw [s3]) (fun g _ => by rw [s3]; exact Or.inl rfl) s4 (by rw [s5]; exact hX) (by rw [s6]; exact hY) s7 ⟨rfl, rfl⟩ (fun k h1 h2 => iniJ_congr (A := A) (fun q => (hJ k q).resolve_right (fun h9 => by omega)) (fun q => by rw [s2]) (iJ k h1 h2)) (fun k h1 h2 => iniG_congr (A := A) (fun q => by rw [s3]) (by rw [s4]) (iG k h1 h2)))) (fun _ => rfl)
          rcases hJ k 2 with e | ⟨-, -, e1, e2 | e2⟩
          · exact Or.inl e
          · exact Or.inr ⟨e1, Or.inl e2⟩
          · exact Or.inr ⟨e1, Or.inr ⟨g, hg, e2⟩⟩
    · unfold f_X5_lend
      exact s_recv hH.c0 (c_rigAt hH.1 hn hg (s_recv hH.c0 (c_jumperAtX hH.1 hn hno2 (Or.inl ⟨rfl, hP 1 M (s_recv hH.r0 (x_lend hH.2.1 hl ha hlk (fun _ M2 h2 => hR 1 0 x y M2 (done_q hH hp h2) (fun h9 => absurd h9 no1)) (fun g j hg hj e1 e2 => absurd e2 (no_of (by omega) hno2 j hj)) (fun g j hg hj e1 e2 => absurd e2 (no_of (by omega) hno2 j hj))))⟩))))
  · unfold f_X5_lend
    exact s_recv hH.c0 (c_rigAtX hH.1 hn hno (Or.inl ⟨rfl, hP 1 M (s_recv hH.r0 (x_lend hH.2.1 hl ha hlk (fun _ M2 h2 => hR 1 0 x y M2 (done_q hH hp h2) (fun h9 => absurd h9 no1)) (fun g j hg hj e1 e2 => absurd e1 (no_of (by omega) hno g hg)) (fun g j hg hj e1 e2 => absurd e1 (no_of (by omega) hno g hg))))⟩))
theorem J_pack {a d : Int32} {P : Int32 → Mem → Prop} {R : Int32 → Int32 → Mem → Prop} (hI : InvT K c mo vo vd i th x y M) (hP : ∀ k1 M, mRecv mo 10 (f_X9_pack K mo a d (fun r2 => R k1 r2)) M → P k1 M) (hR : ∀ k1 v2 x y M2, InvT K c mo vo vd (i + 1) k1 x y M2 → (k1 = 0 → x = v2.toInt64) → R k1 v2 M2) : f_L_pack K (c 0) a d vo P M := by
  obtain ⟨r, nJ, nR, ln, A, T, b, rfl, ht, hH, hp⟩ := hI
  obtain ⟨hn, hw, hX, hY, h7, hwk, hb, iJ, iG⟩ := id hp
  obtain ⟨n1, n2, n3, n4⟩ := id hn
  unfold f_L_pack
  refine s_recv hH.c0 ?_
  rcases i_split a nR n2 with ⟨g, hg, rfl⟩ | hno
  · rcases i_split d nJ n1 with ⟨j, hj, rfl⟩ | hno2
    · have nob : ∀ {α : Prop}, ((∀ m, m < nR → Int32.ofNat g ≠ Int32.ofNat m) ∨ ∀ m, m < nJ → Int32.ofNat j ≠ Int32.ofNat m) → α := fun h9 => h9.elim (fun h8 => absurd rfl (h8 g hg)) (fun h8 => absurd rfl (h8 j hj))
      refine c_pack hH.1 hn hg hj (fun hs => Or.inr ⟨rfl, hP 2 M (s_recv hH.r0 ?_)⟩) (fun p1 M2 h2 => (hH.cls h2).setL (fun M3 h3 => hP 0 M3 (s_recv h3.r0 ?_)))
      · refine x_pack hH.2.1 (fun h9 => nob h9) (fun g2 j2 hg2 hj2 e1 e2 _ M2 h2 => hR 2 0 x y M2 (done_q hH hp h2) (fun h9 => absurd h9 no2)) (fun g2 j2 hg2 hj2 e1 e2 q1 => ?_)
        obtain rfl := inj8 n2 hg hg2 e1
        exact absurd q1 hs
      · refine x_pack h3.2.1 (fun h9 => nob h9) (fun g2 j2 hg2 hj2 e1 e2 hs => ?_) (fun g2 j2 hg2 hj2 e1 e2 q1 M4 h4 => ?_)
        · obtain rfl := inj8 n2 hg hg2 e1
          exact absurd p1 hs
        · obtain rfl := inj8 n2 hg hg2 e1
          obtain rfl := inj8 n1 hj hj2 e2
          have hG : ∀ v : Int32, ∀ k q, q ≠ 2 → q ≠ 3 → up2 (up2 (cG A) g 2 v) g 3 1 k q = cG A k q := fun v k q q1 q2 => by rw [up2_ne1 q2, up2_ne1 q1]
          refine hR 0 _ _ y M4 (done_u h3 h4 rfl (hp.keep rfl rfl rfl h7 (fun k hk => ⟨up2_ne1 (by decide), up2_ne1 (by decide), up2_ne1 (by decide), up2_ne1 (by decide)⟩) (fun k hk => Or.inl (up2_ne1 (by decide))) rfl (fun q => hG _ q 0 (by decide) (by decide)) (fun q hq => ?_) rfl hX hY rfl ⟨rfl, rfl⟩ (fun k h1 h2 => iniJ_congr (A := A) (fun q => up2_ne (by omega)) (fun _ => rfl) (iJ k h1 h2)) (fun k h1 h2 => iniG_congr (A := A) (fun q => ?_) rfl (iG k h1 h2)))) (fun _ => rfl)
          · show up2 (up2 (cG A) g 2 _) g 3 1 q 3 = cG A q 3 ∨ up2 (up2 (cG A) g 2 _) g 3 1 q 3 = 1
            by_cases hqg : q = g
            · rw [hqg, up2_at]; exact Or.inr rfl
            · rw [up2_ne hqg, up2_ne hqg]; exact Or.inl rfl
          · show up2 (up2 (cG A) g 2 _) g 3 1 k q = _
            rw [up2_ne (by omega), up2_ne (by omega)]
    · unfold f_X5_pack
      exact s_recv hH.c0 (c_rigAt hH.1 hn hg (s_recv hH.c0 (c_jumperAtX hH.1 hn hno2 (Or.inl ⟨rfl, hP 1 M (s_recv hH.r0 (x_pack hH.2.1 (fun _ M2 h2 => hR 1 0 x y M2 (done_q hH hp h2) (fun h9 => absurd h9 no1)) (fun g j hg hj e1 e2 => absurd e2 (no_of (by omega) hno2 j hj)) (fun g j hg hj e1 e2 => absurd e2 (no_of (by omega) hno2 j hj))))⟩))))
  · unfold f_X5_pack
    exact s_recv hH.c0 (c_rigAtX hH.1 hn hno (Or.inl ⟨rfl, hP 1 M (s_recv hH.r0 (x_pack hH.2.1 (fun _ M2 h2 => hR 1 0 x y M2 (done_q hH hp h2) (fun h9 => absurd h9 no1)) (fun g j hg hj e1 e2 => absurd e1 (no_of (by omega) hno g hg)) (fun g j hg hj e1 e2 => absurd e1 (no_of (by omega) hno g hg))))⟩))
theorem J_renew {a : Int32} {P : Int32 → Mem → Prop} {R : Int32 → Int32 → Mem → Prop} (hI : InvT K c mo vo vd i th x y M) (hP : ∀ k1 M, mRecv mo 10 (f_X9_renew K mo a (fun r2 => R k1 r2)) M → P k1 M) (hR : ∀ k1 v2 x y M2, InvT K c mo vo vd (i + 1) k1 x y M2 → (k1 = 0 → x = v2.toInt64) → R k1 v2 M2) : f_L_renew K (c 0) a vo P M := by
  obtain ⟨r, nJ, nR, ln, A, T, b, rfl, ht, hH, hp⟩ := hI
  obtain ⟨hn, hw, hX, hY, h7, hwk, hb, iJ, iG⟩ := id hp
  obtain ⟨n1, n2, n3, n4⟩ := id hn
  unfold f_L_renew
  refine s_recv hH.c0 ?_
  rcases i_split a nR n2 with ⟨g, hg, rfl⟩ | hno
  · refine c_renew hH.1 hn hg (fun M2 h2 => (hH.cls h2).setL (fun M3 h3 => hP 0 M3 (s_recv h3.r0 (x_renew h3.2.1 (fun h9 => absurd rfl (h9 g hg)) (fun g2 hg2 e1 M4 h4 => ?_)))))
    obtain rfl := inj8 n2 hg hg2 e1
    exact hR 0 _ _ y M4 (done_u h3 h4 rfl (hp.keep rfl rfl rfl h7 (fun k hk => ⟨rfl, rfl, rfl, rfl⟩) (fun k hk => Or.inl rfl) rfl (fun q => up2_ne1 (by decide)) (fun q hq => Or.inl (up2_ne1 (by decide))) rfl hX hY rfl ⟨rfl, rfl⟩ (fun k h1 h2 => iniJ_congr (A := A) (fun q => rfl) (fun _ => rfl) (iJ k h1 h2)) (fun k h1 h2 => iniG_congr (A := A) (fun q => up2_ne (by omega)) rfl (iG k h1 h2)))) (fun _ => rfl)
  · unfold f_X5_renew
    exact s_recv hH.c0 (c_rigAtX hH.1 hn hno ⟨rfl, hP 1 M (s_recv hH.r0 (x_renew hH.2.1 (fun _ M2 h2 => hR 1 0 x y M2 (done_q hH hp h2) (fun h9 => absurd h9 no1)) (fun g hg e1 => absurd e1 (no_of (by omega) hno g hg))))⟩)
theorem J_pass {z : Int32} {P : Int32 → Mem → Prop} {R : Int32 → Int32 → Mem → Prop} (hI : InvT K c mo vo vd i th x y M) (hP : ∀ k1 M, mRecv mo 10 (f_X9_pass K mo z (fun r2 => R k1 r2)) M → P k1 M) (hR : ∀ k1 v2 x y M2, InvT K c mo vo vd (i + 1) k1 x y M2 → (k1 = 0 → x = v2.toInt64) → R k1 v2 M2) : f_L_pass K (c 0) z vo P M := by
  obtain ⟨r, nJ, nR, ln, A, T, b, rfl, ht, hH, hp⟩ := hI
  obtain ⟨hn, hw, hX, hY, h7, hwk, hb, iJ, iG⟩ := id hp
  obtain ⟨hjs, hro, hl, ha, hlk⟩ := id hw
  obtain ⟨n1, n2, n3, n4⟩ := id hn
  unfold f_L_pass
  refine s_recv hH.c0 (c_pass hH.1 hn (fun hx => Or.inl ⟨rfl, hP 1 M (s_recv hH.r0 ?_)⟩) (fun p1 hs => Or.inr ⟨rfl, hP 2 M (s_recv hH.r0 ?_)⟩) (fun p1 p2 p3 M2 h2 => (hH.cls h2).setL (fun M3 h3 => hP 0 M3 (s_recv h3.r0 ?_))))
  · exact x_pass hH.2.1 hl ha hlk (fun _ M2 h2 => hR 1 0 x y M2 (done_q hH hp h2) (fun h9 => absurd h9 no1)) (fun p1 => absurd p1 hx) (fun p1 => absurd p1 hx)
  · exact x_pass hH.2.1 hl ha hlk (fun hx => absurd p1 hx) (fun _ _ M2 h2 => hR 2 0 x y M2 (done_q hH hp h2) (fun h9 => absurd h9 no2)) (fun _ q1 q2 => hs.elim (fun h9 => absurd h9 q1) (fun h9 => absurd q2 h9))
  · refine x_pass h3.2.1 hl ha hlk (fun hx => absurd p1 hx) (fun _ hs => hs.elim (fun h9 => absurd h9 p2) (fun h9 => absurd p3 h9)) (fun _ _ _ M4 h4 => ?_)
    obtain ⟨s1, s2, s3, s4, s5, s6, s7, s8, s9⟩ := passF_S nJ 0 (setS A 10 (cS A 10 + z))
    generalize hA2 : passF (setS A 10 (cS A 10 + z)) nJ 0 = A2 at h3 h4 s1 s2 s3 s4 s5 s6 s7 s8 s9
    exact hR 0 _ _ y M4 (done_u h3 h4 rfl (hp.keep (by rw [s1]; rfl) (by rw [s1]; rfl) (by rw [s1]; rfl) (by rw [s1]; exact h7) (fun k hk => ⟨s8 k 0 (by decide), s8 k 1 (by decide), s8 k 10 (by decide), s8 k 11 (by decide)⟩) (fun k hk => Or.inl (s8 k 2 (by decide))) s2 (fun q => by rw [s3]; rfl) (fun q hq => Or.inl (by rw [s3]; rfl)) s4 (by rw [s5]; exact hX) (by rw [s6]; exact hY) s7 ⟨rfl, rfl⟩ (fun k h1 h2 => iniJ_congr (A := A) (fun q => s9 k q (by omega)) (fun q => by rw [s2]; rfl) (iJ k h1 h2)) (fun k h1 h2 => iniG_congr (A := A) (fun q => by rw [s3]; rfl) (by rw [s4]; rfl) (iG k h1 h2)))) (fun _ => rfl)
theorem J_wind {a w z : Int32} {P : Int32 → Mem → Prop} {R : Int32 → Int32 → Mem → Prop} (hI : InvT K c mo vo vd i th x y M) (hP : ∀ k1 M, mRecv mo 10 (f_X9_wind K mo a w z (fun r2 => R k1 r2)) M → P k1 M) (hR : ∀ k1 v2 x y M2, InvT K c mo vo vd (i + 1) k1 x y M2 → (k1 = 0 → x = v2.toInt64) → R k1 v2 M2) : f_L_wind K (c 0) a w z vo P M := by
  obtain ⟨r, nJ, nR, ln, A, T, b, rfl, ht, hH, hp⟩ := hI
  obtain ⟨hn, hw, hX, hY, h7, hwk, hb, iJ, iG⟩ := id hp
  unfold f_L_wind
  have lin : ∀ n, n < 10 → inB (Int32.ofNat n) 0 9 := fun n hn9 => ⟨by rw [Int32.le_iff_toInt_le, i_toInt (by omega)]; show (0 : Int) ≤ n; omega, by show _ ≤ Int32.ofNat 9; rw [i_le (by omega) (by omega)]; omega⟩
  refine s_recv hH.c0 (c_wind hH.1 (fun hno => Or.inl ⟨rfl, hP 1 M (s_recv hH.r0 ?_)⟩) (fun n hn1 e hx => Or.inr ⟨rfl, hP 2 M (s_recv hH.r0 ?_)⟩) (fun n hn1 e p1 p2 M2 h2 => (hH.cls h2).setL (fun M3 h3 => hP 0 M3 (s_recv h3.r0 ?_))))
  · have h9 := lay_iff.mp hno
    exact x_wind hH.2.1 (fun _ M2 h2 => hR 1 0 x y M2 (done_q hH hp h2) (fun h9 => absurd h9 no1)) (fun p0 => absurd p0 h9) (fun n hn1 e => absurd (by rw [e]; exact lin n hn1) h9)
  · exact x_wind hH.2.1 (fun p0 => absurd (by rw [e]; exact lin n hn1) p0) (fun _ _ M2 h2 => hR 2 0 x y M2 (done_q hH hp h2) (fun h9 => absurd h9 no2)) (fun _ _ _ p1 p2 => absurd ⟨p1, p2⟩ hx)
  · refine x_wind h3.2.1 (fun p0 => absurd (by rw [e]; exact lin n hn1) p0) (fun _ hx => absurd ⟨p1, p2⟩ hx) (fun n2 hn2 e2 _ _ M4 h4 => ?_)
    rw [e, i_eq (by omega) (by omega)] at e2
    subst e2
    have bd : ∀ {w : Int32}, inB w (-20) 20 → w.toInt.natAbs ≤ 20 := fun {w} h9 => by
      have h1 : (-20 : Int) ≤ w.toInt := Int32.le_iff_toInt_le.mp h9.1
      have h2 : w.toInt ≤ (20 : Int) := Int32.le_iff_toInt_le.mp h9.2
      omega
    refine hR 0 _ _ y M4 (done_u h3 h4 rfl (hp.keep rfl rfl rfl h7 (fun k hk => ⟨rfl, rfl, rfl, rfl⟩) (fun k hk => Or.inl rfl) rfl (fun q => rfl) (fun q hq => Or.inl rfl) rfl (fun q hq => ?_) (fun q hq => ?_) rfl ⟨rfl, rfl⟩ iJ iG)) (fun _ => rfl)
    · show (upd (cX A) n w q).toInt.natAbs ≤ 20
      by_cases hqn : q = n
      · rw [hqn, upd_at]; exact bd p1
      · rw [upd_ne hqn]; exact hX q hq
    · show (upd (cY A) n z q).toInt.natAbs ≤ 20
      by_cases hqn : q = n
      · rw [hqn, upd_at]; exact bd p2
      · rw [upd_ne hqn]; exact hY q hq
theorem J_hold {v : Int32} {P : Int32 → Mem → Prop} {R : Int32 → Int32 → Mem → Prop} (hv : v = 0 ∨ v = 1) (hI : InvT K c mo vo vd i th x y M) (hP : ∀ k1 M, mRecv mo 10 (f_X9_hold K mo v (fun r2 => R k1 r2)) M → P k1 M) (hR : ∀ v2 x y M2, InvT K c mo vo vd (i + 1) 0 x y M2 → R v2 v2 M2) : mRecv (c 0) 6 (f_X5_hold K (c 0) v P) M := by
  obtain ⟨r, nJ, nR, ln, A, T, b, rfl, ht, hH, hp⟩ := hI
  obtain ⟨hn, hw, hX, hY, h7, hwk, hb, iJ, iG⟩ := id hp
  refine s_recv hH.c0 (c_hold hv hH.1 (fun M2 h2 _ => hP _ M2 (s_recv (hH.cls h2).r0 (x_hold hv (hH.cls h2).2.1 h7 (fun M3 h3 => hR _ x y M3 (done_u (hH.cls h2) h3 rfl (hp.keep rfl rfl rfl hv (fun k hk => ⟨rfl, rfl, rfl, rfl⟩) (fun k hk => Or.inl rfl) rfl (fun q => rfl) (fun q hq => Or.inl rfl) rfl hX hY rfl ⟨rfl, rfl⟩ iJ iG)))))) h7)
theorem J_gong {P : Int32 → Mem → Prop} {R : Int32 → Int32 → Mem → Prop} (hI : InvT K c mo vo vd i th x y M) (hP : ∀ k1 M, mRecv mo 10 (f_X9_gong K mo (fun r2 => R k1 r2)) M → P k1 M) (hR : ∀ v2 x y M2, InvT K c mo vo vd (i + 1) 0 x y M2 → R v2 v2 M2) : mRecv (c 0) 6 (f_X5_gong K (c 0) P) M := by
  obtain ⟨r, nJ, nR, ln, A, T, b, rfl, ht, hH, hp⟩ := hI
  obtain ⟨hn, hw, hX, hY, h7, hwk, hb, iJ, iG⟩ := id hp
  refine s_recv hH.c0 (c_gong hH.1 (fun M2 h2 => hP _ M2 (s_recv (hH.cls h2).r0 (x_gong (hH.cls h2).2.1 (fun M3 h3 => hR _ x y M3 (done_u (hH.cls h2) h3 rfl (hp.keep rfl rfl rfl h7 (fun k hk => ⟨rfl, rfl, rfl, rfl⟩) (fun k hk => Or.inl rfl) rfl (fun q => rfl) (fun q hq => Or.inl rfl) rfl hX hY rfl ⟨rfl, rfl⟩ iJ iG)))))))
theorem J_empty {P : Int32 → Mem → Prop} {R : Int32 → Int32 → Mem → Prop} (hI : InvT K c mo vo vd i th x y M) (hP : ∀ k1 M, mRecv mo 10 (f_X9_empty K mo (fun r2 => R k1 r2)) M → P k1 M) (hR : ∀ v2 x y M2, InvT K c mo vo vd (i + 1) 0 x y M2 → R v2 v2 M2) : mRecv (c 0) 6 (f_X5_empty K (c 0) P) M := by
  obtain ⟨r, nJ, nR, ln, A, T, b, rfl, ht, hH, hp⟩ := hI
  obtain ⟨hn, hw, hX, hY, h7, hwk, hb, iJ, iG⟩ := id hp
  obtain ⟨hjs, hro, hl, ha, hlk⟩ := id hw
  refine s_recv hH.c0 (c_empty hH.1 (fun M2 h2 => hP _ M2 (s_recv (hH.cls h2).r0 (x_empty (hH.cls h2).2.1 hl ha hlk (fun T2 M3 e1 e2 h3 => ?_)))))
  rw [← hl.2.1]
  refine hR _ x y M3 ⟨r, nJ, nR, [], setS A 6 0, T2, b, rfl, e2, ((hH.cls h2).ref h3).cg rfl ⟨rfl, rfl⟩ rfl rfl (fun _ _ => rfl) (fun _ _ => rfl), ?_⟩
  exact ⟨hn, ⟨hjs, hro, ⟨by decide, rfl, fun p hp => absurd hp (Nat.not_lt_zero p), fun k hk => absurd hk List.not_mem_nil⟩, fun k hk => absurd hk List.not_mem_nil, List.nodup_nil, List.Pairwise.nil, fun k hk => Or.inr ⟨List.not_mem_nil, e1 k hk⟩⟩, hX, hY, h7, hwk, by show b + 4 * 0 ≤ _; omega, iJ, iG⟩
theorem J_board {a st op : Int32} {P : Int32 → Mem → Prop} {R : Int32 → Int32 → Mem → Prop} (hne : K.2.2 2 ≠ K.2.2 3) (hI : InvT K c mo vo vd i th x y M) (hP : ∀ k1 M, mRecv mo 10 (f_X9_board K mo a st op (fun r2 => R k1 r2)) M → P k1 M) (hR : ∀ k1 v2 x y M2, InvT K c mo vo vd (i + 1) k1 x y M2 → (k1 = 0 → x = v2.toInt64) → R k1 v2 M2) : f_L_board K (c 0) a st op vo P M := by
  obtain ⟨r, nJ, nR, ln, A, T, b, rfl, ht, hH, hp⟩ := hI
  obtain ⟨hn, hw, hX, hY, h7, hwk, hb, iJ, iG⟩ := id hp
  obtain ⟨hjs, hro, hl, ha, hlk⟩ := id hw
  have n1 := hn.1
  unfold f_L_board
  refine s_recv hH.c0 ?_
  rcases i_split a nJ n1 with ⟨j, hj, rfl⟩ | hno
  · have bad : ∀ {α : Prop}, (∀ m, m < nJ → Int32.ofNat j ≠ Int32.ofNat m) → α := fun h9 => absurd rfl (h9 j hj)
    have uni : ∀ {j2}, j2 < nJ → Int32.ofNat j = Int32.ofNat j2 → j = j2 := fun h8 h9 => inj8 n1 hj h8 h9
    refine c_board hne hH.1 hn hl ha hj (hjs j hj) hro h7 (fun hx => Or.inr (Or.inl ⟨rfl, hP 2 M (s_recv hH.r0 ?_)⟩)) (fun p1 p2 hs => Or.inr (Or.inr ⟨rfl, hP 3 M (s_recv hH.r0 ?_)⟩)) (fun p1 p2 p3 p4 p5 => hH.setL (fun M3 h3 => hP 0 M3 (s_recv h3.r0 ?_))) (fun p1 p2 p3 p4 p5 p L M2 q1 q2 q3 q4 h2 => (hH.cls h2).setL (fun M3 h3 => hP 0 M3 (s_recv h3.r0 ?_)))
    · refine x_board hH.2.1 hw (fun h9 => bad h9) (fun j2 hj2 e _ M2 h2 => hR 2 0 x y M2 (done_q hH hp h2) (fun h9 => absurd h9 no2)) (fun j2 hj2 e r1 r2 => ?_) (fun j2 hj2 e r1 r2 => ?_) (fun j2 hj2 e r1 r2 => ?_)
      all_goals (obtain rfl := uni hj2 e; exact absurd ⟨r1, r2⟩ hx)
    · refine x_board hH.2.1 hw (fun h9 => bad h9) (fun j2 hj2 e hx => ?_) (fun j2 hj2 e r1 r2 _ M2 h2 => hR 3 0 x y M2 (done_q hH hp h2) (fun h9 => absurd h9 no3)) (fun j2 hj2 e r1 r2 r3 r4 => ?_) (fun j2 hj2 e r1 r2 r3 r4 => ?_)
      · obtain rfl := uni hj2 e; exact absurd ⟨p1, p2⟩ hx
      · exact hs.elim (fun h9 => absurd r3 h9) (fun h9 => absurd h9 (by omega))
      · exact hs.elim (fun h9 => absurd r3 h9) (fun h9 => absurd h9 (by omega))
    · refine x_board h3.2.1 hw (fun h9 => bad h9) (fun j2 hj2 e hx => ?_) (fun j2 hj2 e r1 r2 hs => ?_) (fun j2 hj2 e r1 r2 r3 r4 r5 M4 h4 => ?_) (fun j2 hj2 e r1 r2 r3 r4 r5 => ?_)
      · obtain rfl := uni hj2 e; exact absurd ⟨p1, p2⟩ hx
      · exact hs.elim (fun h9 => absurd p3 h9) (fun h9 => absurd h9 (by omega))
      · obtain rfl := uni hj2 e
        exact hR 0 _ _ y M4 (done_q h3 hp h4) (fun _ => rfl)
      · obtain rfl := uni hj2 e; exact absurd r5 p5
    · refine x_board h3.2.1 hw (fun h9 => bad h9) (fun j2 hj2 e hx => ?_) (fun j2 hj2 e r1 r2 hs => ?_) (fun j2 hj2 e r1 r2 r3 r4 r5 => ?_) (fun j2 hj2 e r1 r2 r3 r4 r5 M4 h4 => ?_)
      · obtain rfl := uni hj2 e; exact absurd ⟨p1, p2⟩ hx
      · exact hs.elim (fun h9 => absurd p3 h9) (fun h9 => absurd h9 (by omega))
      · obtain rfl := uni hj2 e; exact absurd p5 r5
      · obtain rfl := uni hj2 e
        have hlo : ∀ k q, q < 10 → cJ (setS (repL (stA A j st op) L) 6 (Int32.ofNat (ln.length + 1))) k q = cJ A k q := fun k q hq => stA_lo hq
        refine hR 0 _ _ y M4 ⟨r, nJ, nR, insAt ln p j, _, _, b, rfl, rfl, (h3.ref h4).cg rfl ⟨rfl, rfl⟩ rfl rfl (fun k _ => ?_) (fun _ _ => rfl), hp.board hj p1 p2 p4 p5 q1 q2 q3 q4⟩ (fun _ => rfl)
        unfold rjf
        rw [hlo k 0 (by decide), hlo k 1 (by decide), hlo k 2 (by decide), hlo k 3 (by decide), hlo k 4 (by decide), hlo k 5 (by decide), hlo k 6 (by decide), hlo k 7 (by decide)]
        rfl
  · unfold f_X5_board
    exact s_recv hH.c0 (c_jumperAtX hH.1 hn hno (Or.inl ⟨rfl, hP 1 M (s_recv hH.r0 (x_board hH.2.1 hw (fun _ M2 h2 => hR 1 0 x y M2 (done_q hH hp h2) (fun h9 => absurd h9 no1)) (fun j hj e => absurd e (no_of (by omega) hno j hj)) (fun j hj e => absurd e (no_of (by omega) hno j hj)) (fun j hj e => absurd e (no_of (by omega) hno j hj)) (fun j hj e => absurd e (no_of (by omega) hno j hj))))⟩))
theorem J_fly {sp gp : Int32} {P : Int32 → Mem → Prop} {R : Int32 → Int32 → Mem → Prop} (f1 : 365 ≤ nF) (f2 : nF ≤ 900) (hi : i < 512) (hK : K.2.2 1 < K.2.2 0) (hI : InvT K c mo vo vd i th x y M) (hP : ∀ k1 M, mRecv mo 10 (f_X9_fly K mo sp gp (fun r2 => R k1 r2)) M → P k1 M) (hR : ∀ k1 v2 x y M2, InvT K c mo vo vd (i + 1) k1 x y M2 → (k1 = 0 → x = v2.toInt64) → R k1 v2 M2) : f_L_fly K (c 0) sp gp vo P M := by
  obtain ⟨r, nJ, nR, ln, A, T, b, rfl, ht, hH, hp⟩ := hI
  obtain ⟨hn, hw, hX, hY, h7, hwk, hb, iJ, iG⟩ := id hp
  obtain ⟨hjs, hro, hl, ha, hlk⟩ := id hw
  have hb2 : b + 4 * ln.length ≤ 2048 := by omega
  unfold f_L_fly
  refine s_recv hH.c0 (c_fly (nF := nF) f1 f2 hH.1 hn hl ha hro hX hY hwk hb2 (fun hx => Or.inl ⟨rfl, hP 1 M (s_recv hH.r0 ?_)⟩) (fun p1 p2 hs => Or.inr ⟨rfl, hP 2 M (s_recv hH.r0 ?_)⟩) (fun p1 g9 e g1 g2 p3 p4 N Q5 M2 xy hxy B hB h2 => (hH.cls h2).setL (fun M3 h3 => hP 0 M3 (s_recv h3.r0 ?_))))
  · exact x_fly (nF := nF) 0 (fun _ => ((0, 0, 0, 0), (0, 0, 0), (0, 0, 0, 0))) f1 f2 hK hH.2.1 hw hn hX hY hwk hb2 (fun _ M2 h2 => hR 1 0 x y M2 (done_q hH hp h2) (fun h9 => absurd h9 no1)) (fun p1 p2 => absurd ⟨p1, p2⟩ hx) (fun p1 g9 e g1 g2 => absurd ⟨p1, by rw [e]; exact g_in g1 g2⟩ hx)
  · exact x_fly (nF := nF) 0 (fun _ => ((0, 0, 0, 0), (0, 0, 0), (0, 0, 0, 0))) f1 f2 hK hH.2.1 hw hn hX hY hwk hb2 (fun hx => absurd ⟨p1, p2⟩ hx) (fun _ _ _ M2 h2 => hR 2 0 x y M2 (done_q hH hp h2) (fun h9 => absurd h9 no2)) (fun _ g9 e g1 g2 q3 q4 => hs.elim (fun h9 => absurd q3 h9) (fun h9 => absurd h9 (by omega)))
  · refine x_fly (nF := nF) N Q5 f1 f2 hK h3.2.1 hw hn hX hY hwk hb2 (fun hx => absurd ⟨p1, by rw [e]; exact g_in g1 g2⟩ hx) (fun _ _ hs => hs.elim (fun h9 => absurd p3 h9) (fun h9 => absurd h9 (by omega))) (fun _ g9' e' g1' g2' _ _ xy2 hxy2 B2 hB2 T2 M4 t1 t2 h4 => ?_)
    rw [e, i_eq (by omega) (by omega)] at e'
    subst e'
    have exy : xy2 = xy := hxy2.trans hxy.symm
    subst exy
    have eB : B2 = B := hB2.trans hB.symm
    subst eB
    have hsp : -200 ≤ sp.toInt ∧ sp.toInt ≤ 200 := ⟨Int32.le_iff_toInt_le.mp p1.1, Int32.le_iff_toInt_le.mp p1.2⟩
    have hf := flQ_ok hn hl ha hro hX g2 hsp (trB A ln)
    have hpos : ∀ v, v < ln.length → posOk (xy2 v).1 ∧ posOk (xy2 v).2 := fun v hv => by
      obtain ⟨-, -, b1, b2⟩ := (ps_last f1 f2 hX hY hf hv).2
      rw [hxy]
      unfold xyQ posOk
      dsimp only
      omega
    have hpu := hp.fly (N := N) (Q := Q5) (m := cS A 16 + Int32.ofNat (ttQ A (flQ A ln (trB A ln) sp.toInt g9) ln.length nF)) hb2 hpos t1 (cS B2 12 + 1)
    rw [← hB] at hpu
    exact hR 0 _ _ y M4 ⟨r, nJ, nR, [], _, T2, b + 4 * ln.length, rfl, t2, (h3.ref h4).cg rfl ⟨rfl, rfl⟩ rfl rfl (fun _ _ => rfl) (fun _ _ => rfl), hpu⟩ (fun _ => rfl)
end DOES
