/-! ===== BOTH SIDES: what is asked ===== -/
theorem rng_iff {w : Int32} {n : Nat} (hn : n ≤ 100) : (w.toInt < 0 ∨ (n : Int) < w.toInt) ↔ ¬ inB w 0 (Int32.ofNat n) := by
  unfold inB
  rw [Int32.le_iff_toInt_le, Int32.le_iff_toInt_le, i_toInt (by omega)]
  show _ ↔ ¬ ((0 : Int) ≤ w.toInt ∧ _)
  omega
theorem inj8 {j j2 n : Nat} (hn : n ≤ 8) (h : j < n) (h2 : j2 < n) (e : Int32.ofNat j = Int32.ofNat j2) : j = j2 := (i_eq (by omega) (by omega)).mp e
theorem no1 : ¬ (1 : Int32) = 0 := by decide
theorem no2 : ¬ (2 : Int32) = 0 := by decide
theorem no3 : ¬ (3 : Int32) = 0 := by decide
theorem lay_iff {a : Int32} : (a < 0 ∨ 10 ≤ a) ↔ ¬ inB a 0 9 := by
  unfold inB
  rw [Int32.lt_iff_toInt_lt, Int32.le_iff_toInt_le, Int32.le_iff_toInt_le, Int32.le_iff_toInt_le]
  show a.toInt < (0 : Int) ∨ (10 : Int) ≤ a.toInt ↔ ¬ ((0 : Int) ≤ a.toInt ∧ a.toInt ≤ 9)
  omega
section ASKS
variable {K : Cfg} {c : Nat → Nat} {vo vd i mo nF : Nat} {x : Int64} {y : UInt64} {th : Int32} {M : Mem}
theorem J_ofJumper {a w : Int32} {P : Int32 → Mem → Prop} {R : Int32 → Int32 → Mem → Prop} (hI : InvT K c mo vo vd i th x y M) (hP : ∀ k1 M, mRecv mo 10 (f_X9_ofJumper K mo a w (fun r2 => R k1 r2)) M → P k1 M) (hR : ∀ k1 v2 x y M2, InvT K c mo vo vd (i + 1) k1 x y M2 → (k1 = 0 → x = v2.toInt64) → R k1 v2 M2) : f_L_ofJumper K (c 0) a w vo P M := by
  obtain ⟨r, nJ, nR, ln, A, T, b, rfl, ht, hH, hp⟩ := hI
  obtain ⟨hn, hw, hX, hY, h7, hwk, hb, iJ, iG⟩ := id hp
  have n1 := hn.1
  unfold f_L_ofJumper
  refine s_recv hH.c0 ?_
  rcases i_split a nJ n1 with ⟨j, hj, rfl⟩ | hno
  · refine c_ofJumper hH.1 hn hw.2.2.1 hj (fun hx => Or.inr ⟨rfl, hP 2 M (s_recv hH.r0 ?_)⟩) (fun hx => hH.setL (fun M2 h2 => hP 0 M2 (s_recv h2.r0 ?_)))
    · have hx2 := (rng_iff (n := 8) (by decide)).mp hx
      exact x_ofJumper hH.2.1 hw (fun h9 => absurd rfl (h9 j hj)) (fun j2 hj2 e hno M2 h2 => hR 2 0 x y M2 (done_q hH hp h2) (fun h9 => absurd h9 no2)) (fun j2 m hj2 e hm e2 => absurd ⟨by rw [e2, Int32.le_iff_toInt_le, i_toInt (by omega)]; show (0 : Int) ≤ m; omega, by rw [e2]; show Int32.ofNat m ≤ Int32.ofNat 8; rw [i_le (by omega) (by omega)]; omega⟩ hx2)
    · have hx2 : inB w 0 8 := Classical.byContradiction fun h9 => hx ((rng_iff (n := 8) (by decide)).mpr h9)
      refine x_ofJumper h2.2.1 hw (fun h9 => absurd rfl (h9 j hj)) (fun j2 hj2 e hno => absurd hx2 hno) (fun j2 m hj2 e hm e2 M3 h3 => hR 0 _ _ y M3 (done_q h2 hp h3) (fun _ => ?_))
      obtain rfl := inj8 n1 hj hj2 e
      rw [e2]
  · unfold f_X5_ofJumper
    exact s_recv hH.c0 (c_jumperAtX hH.1 hn hno (Or.inl ⟨rfl, hP 1 M (s_recv hH.r0 (x_ofJumper hH.2.1 hw (fun _ M2 h2 => hR 1 0 x y M2 (done_q hH hp h2) (fun h9 => absurd h9 no1)) (fun j hj e => absurd e (no_of (by omega) hno j hj)) (fun j m hj e => absurd e (no_of (by omega) hno j hj))))⟩))
theorem J_loading {a : Int32} {P : Int32 → Mem → Prop} {R : Int32 → UInt64 → Mem → Prop} (hI : InvT K c mo vo vd i th x y M) (hP : ∀ k1 M, mRecv mo 10 (f_X9_loading__ K mo a (fun r2 => R k1 r2)) M → P k1 M) (hR : ∀ k1 v2 x y M2, InvT K c mo vo vd (i + 1) k1 x y M2 → (k1 = 0 → y = v2 ∧ FP.dcmp v2 v2 = some .eq) → R k1 v2 M2) : f_L_loading K (c 0) a vd P M := by
  obtain ⟨r, nJ, nR, ln, A, T, b, rfl, ht, hH, hp⟩ := hI
  obtain ⟨hn, hw, hX, hY, h7, hwk, hb, iJ, iG⟩ := id hp
  have n1 := hn.1
  unfold f_L_loading
  refine s_recv hH.c0 ?_
  rcases i_split a nJ n1 with ⟨j, hj, rfl⟩ | hno
  · refine c_loading hH.1 hn hj (hw.1 j hj) hw.2.1 (hH.setD (fun M2 h2 => hP 0 M2 (s_recv h2.r0 (x_loading__ h2.2.1 hw.1 hw.2.1 (fun h9 => absurd rfl (h9 j hj)) (fun j2 hj2 e M3 h3 => hR 0 _ _ _ M3 (done_q h2 hp h3) (fun _ => ?_))))))
    obtain rfl := inj8 n1 hj hj2 e
    refine ⟨rfl, ?_⟩
    by_cases h2 : cJ A j 2 = -1
    · unfold ldF
      rw [if_pos h2]
      decide +kernel
    · obtain ⟨k, k1, k2, k3⟩ := (ld_some (hw.1 j hj) hn.2.1 hw.2.1 h2).2.dbl
      rw [k3]
      exact em_self (by omega)
  · unfold f_X5_loading
    exact s_recv hH.c0 (c_jumperAtX hH.1 hn hno ⟨rfl, hP 1 M (s_recv hH.r0 (x_loading__ hH.2.1 hw.1 hw.2.1 (fun _ v M2 h2 => hR 1 v x y M2 (done_q hH hp h2) (fun h9 => absurd h9 no1)) (fun j hj e => absurd e (no_of (by omega) hno j hj))))⟩)
theorem J_landed {a z : Int32} {P : Int32 → Mem → Prop} {R : Int32 → UInt64 → Mem → Prop} (hI : InvT K c mo vo vd i th x y M) (hP : ∀ k1 M, mRecv mo 10 (f_X9_landed K mo a z (fun r2 => R k1 r2)) M → P k1 M) (hR : ∀ k1 v2 x y M2, InvT K c mo vo vd (i + 1) k1 x y M2 → (k1 = 0 → y = v2 ∧ FP.dcmp v2 v2 = some .eq) → R k1 v2 M2) : f_L_landed K (c 0) a z vd P M := by
  obtain ⟨r, nJ, nR, ln, A, T, b, rfl, ht, hH, hp⟩ := hI
  obtain ⟨hn, hw, hX, hY, h7, hwk, hb, iJ, iG⟩ := id hp
  have n1 := hn.1
  unfold f_L_landed
  refine s_recv hH.c0 ?_
  rcases i_split a nJ n1 with ⟨j, hj, rfl⟩ | hno
  · refine c_landed hH.1 hn hj (hH.setD (fun M2 h2 => hP 0 M2 (s_recv h2.r0 (x_landed h2.2.1 (fun h9 => absurd rfl (h9 j hj)) (fun j2 hj2 e M3 h3 => hR 0 _ _ _ M3 (done_q h2 hp h3) (fun _ => ?_))))))
    obtain rfl := inj8 n1 hj hj2 e
    obtain ⟨q1, q2⟩ := (hw.1 j hj).2.2.2
    unfold posOk at q1 q2
    refine ⟨rfl, em_self ?_⟩
    split <;> omega
  · unfold f_X5_landed
    exact s_recv hH.c0 (c_jumperAtX hH.1 hn hno ⟨rfl, hP 1 M (s_recv hH.r0 (x_landed hH.2.1 (fun _ v M2 h2 => hR 1 v x y M2 (done_q hH hp h2) (fun h9 => absurd h9 no1)) (fun j hj e => absurd e (no_of (by omega) hno j hj))))⟩)
theorem J_refuses {a : Int32} {P : Int32 → Mem → Prop} {R : Int32 → Int32 → Mem → Prop} (hne : K.2.2 2 ≠ K.2.2 3) (hI : InvT K c mo vo vd i th x y M) (hP : ∀ k1 M, mRecv mo 10 (f_X9_refuses K mo a (fun r2 => R k1 r2)) M → P k1 M) (hR : ∀ k1 v2 x y M2, InvT K c mo vo vd (i + 1) k1 x y M2 → (k1 = 0 → x = v2.toInt64) → R k1 v2 M2) : f_L_refuses K (c 0) a vo P M := by
  obtain ⟨r, nJ, nR, ln, A, T, b, rfl, ht, hH, hp⟩ := hI
  obtain ⟨hn, hw, hX, hY, h7, hwk, hb, iJ, iG⟩ := id hp
  have n1 := hn.1
  unfold f_L_refuses
  refine s_recv hH.c0 ?_
  rcases i_split a nJ n1 with ⟨j, hj, rfl⟩ | hno
  · refine c_refuses hne hH.1 hn hw.2.2.1 hj (hw.1 j hj) hw.2.1 (hH.setL (fun M2 h2 => hP 0 M2 (s_recv h2.r0 (x_refuses h2.2.1 hw (fun h9 => absurd rfl (h9 j hj)) (fun j2 hj2 e M3 h3 => hR 0 _ _ y M3 (done_q h2 hp h3) (fun _ => ?_))))))
    obtain rfl := inj8 n1 hj hj2 e
    rfl
  · unfold f_X5_refuses f_X5_whyNot
    exact s_recv hH.c0 (s_recv hH.c0 (c_jumperAtX hH.1 hn hno ⟨rfl, hP 1 M (s_recv hH.r0 (x_refuses hH.2.1 hw (fun _ M2 h2 => hR 1 0 x y M2 (done_q hH hp h2) (fun h9 => absurd h9 no1)) (fun j hj e => absurd e (no_of (by omega) hno j hj))))⟩))
theorem J_ofRig {a w : Int32} {P : Int32 → Mem → Prop} {R : Int32 → Int32 → Mem → Prop} (hI : InvT K c mo vo vd i th x y M) (hP : ∀ k1 M, mRecv mo 10 (f_X9_ofRig K mo a w (fun r2 => R k1 r2)) M → P k1 M) (hR : ∀ k1 v2 x y M2, InvT K c mo vo vd (i + 1) k1 x y M2 → (k1 = 0 → x = v2.toInt64) → R k1 v2 M2) : f_L_ofRig K (c 0) a w vo P M := by
  obtain ⟨r, nJ, nR, ln, A, T, b, rfl, ht, hH, hp⟩ := hI
  obtain ⟨hn, hw, hX, hY, h7, hwk, hb, iJ, iG⟩ := id hp
  have n1 := hn.2.1
  unfold f_L_ofRig
  refine s_recv hH.c0 ?_
  rcases i_split a nR n1 with ⟨j, hj, rfl⟩ | hno
  · refine c_ofRig hH.1 hn hj (fun hx => Or.inr ⟨rfl, hP 2 M (s_recv hH.r0 ?_)⟩) (fun hx => hH.setL (fun M2 h2 => hP 0 M2 (s_recv h2.r0 ?_)))
    · have hx2 := (rng_iff (n := 4) (by decide)).mp hx
      exact x_ofRig hH.2.1 hw.2.1 (fun h9 => absurd rfl (h9 j hj)) (fun j2 hj2 e hno M2 h2 => hR 2 0 x y M2 (done_q hH hp h2) (fun h9 => absurd h9 no2)) (fun j2 m hj2 e hm e2 => absurd ⟨by rw [e2, Int32.le_iff_toInt_le, i_toInt (by omega)]; show (0 : Int) ≤ m; omega, by rw [e2]; show Int32.ofNat m ≤ Int32.ofNat 4; rw [i_le (by omega) (by omega)]; omega⟩ hx2)
    · have hx2 : inB w 0 4 := Classical.byContradiction fun h9 => hx ((rng_iff (n := 4) (by decide)).mpr h9)
      refine x_ofRig h2.2.1 hw.2.1 (fun h9 => absurd rfl (h9 j hj)) (fun j2 hj2 e hno => absurd hx2 hno) (fun j2 m hj2 e hm e2 M3 h3 => hR 0 _ _ y M3 (done_q h2 hp h3) (fun _ => ?_))
      obtain rfl := inj8 n1 hj hj2 e
      rw [e2]
  · unfold f_X5_ofRig
    exact s_recv hH.c0 (c_rigAtX hH.1 hn hno (Or.inl ⟨rfl, hP 1 M (s_recv hH.r0 (x_ofRig hH.2.1 hw.2.1 (fun _ M2 h2 => hR 1 0 x y M2 (done_q hH hp h2) (fun h9 => absurd h9 no1)) (fun j hj e => absurd e (no_of (by omega) hno j hj)) (fun j m hj e => absurd e (no_of (by omega) hno j hj))))⟩))
theorem J_wear {a : Int32} {P : Int32 → Mem → Prop} {R : Int32 → UInt64 → Mem → Prop} (hi : i ≤ 512) (hI : InvT K c mo vo vd i th x y M) (hP : ∀ k1 M, mRecv mo 10 (f_X9_wear K mo a (fun r2 => R k1 r2)) M → P k1 M) (hR : ∀ k1 v2 x y M2, InvT K c mo vo vd (i + 1) k1 x y M2 → (k1 = 0 → y = v2 ∧ FP.dcmp v2 v2 = some .eq) → R k1 v2 M2) : f_L_wear K (c 0) a vd P M := by
  obtain ⟨r, nJ, nR, ln, A, T, b, rfl, ht, hH, hp⟩ := hI
  obtain ⟨hn, hw, hX, hY, h7, hwk, hb, iJ, iG⟩ := id hp
  have n1 := hn.2.1
  unfold f_L_wear
  refine s_recv hH.c0 ?_
  rcases i_split a nR n1 with ⟨j, hj, rfl⟩ | hno
  · refine c_wear hH.1 hn hj hwk (by omega) (hH.setD (fun M2 h2 => hP 0 M2 (s_recv h2.r0 (x_wear h2.2.1 hwk (by omega) (fun h9 => absurd rfl (h9 j hj)) (fun j2 hj2 e M3 h3 => hR 0 _ _ _ M3 (done_q h2 hp h3) (fun _ => ?_))))))
    obtain rfl := inj8 n1 hj hj2 e
    obtain ⟨m, m1, m2⟩ := hwk j (by omega)
    refine ⟨rfl, ?_⟩
    rw [m2]
    exact (wf_spec (n := m) (by omega) wf_all).2.2.2.2.2.2.2.2
  · unfold f_X5_wear
    exact s_recv hH.c0 (c_rigAtX hH.1 hn hno ⟨rfl, hP 1 M (s_recv hH.r0 (x_wear hH.2.1 hwk (by omega) (fun _ v M2 h2 => hR 1 v x y M2 (done_q hH hp h2) (fun h9 => absurd h9 no1)) (fun j hj e => absurd e (no_of (by omega) hno j hj))))⟩)
theorem J_ofWind {a z : Int32} {P : Int32 → Mem → Prop} {R : Int32 → Int32 → Mem → Prop} (hI : InvT K c mo vo vd i th x y M) (hP : ∀ k1 M, mRecv mo 10 (f_X9_ofWind K mo a z (fun r2 => R k1 r2)) M → P k1 M) (hR : ∀ k1 v2 x y M2, InvT K c mo vo vd (i + 1) k1 x y M2 → (k1 = 0 → x = v2.toInt64) → R k1 v2 M2) : f_L_ofWind K (c 0) a z vo P M := by
  obtain ⟨r, nJ, nR, ln, A, T, b, rfl, ht, hH, hp⟩ := hI
  obtain ⟨hn, hw, hX, hY, h7, hwk, hb, iJ, iG⟩ := id hp
  unfold f_L_ofWind
  refine s_recv hH.c0 (c_ofWind hH.1 (fun hno => ⟨rfl, hP 1 M (s_recv hH.r0 ?_)⟩) (fun n hn1 e => hH.setL (fun M2 h2 => hP 0 M2 (s_recv h2.r0 ?_))))
  · refine x_ofWind hH.2.1 (fun _ M2 h2 => hR 1 0 x y M2 (done_q hH hp h2) (fun h9 => absurd h9 no1)) (fun n hn1 e => ?_)
    exact absurd e (no_of (n := 10) (by decide) hno n hn1)
  · refine x_ofWind h2.2.1 (fun hno => absurd (lay_iff.mpr hno) (fun h9 => no_of (n := 10) (by decide) h9 n hn1 e)) (fun n2 hn2 e2 M3 h3 => hR 0 _ _ y M3 (done_q h2 hp h3) (fun _ => ?_))
    rw [e, i_eq (by omega) (by omega)] at e2
    subst e2
    rfl
theorem J_many {w : Int32} {P : Int32 → Mem → Prop} {R : Int32 → Int32 → Mem → Prop} (hI : InvT K c mo vo vd i th x y M) (hP : ∀ k1 M, mRecv mo 10 (f_X9_many K mo w (fun r2 => R k1 r2)) M → P k1 M) (hR : ∀ k1 v2 x y M2, InvT K c mo vo vd (i + 1) k1 x y M2 → (k1 = 0 → x = v2.toInt64) → R k1 v2 M2) : f_L_many K (c 0) w vo P M := by
  obtain ⟨r, nJ, nR, ln, A, T, b, rfl, ht, hH, hp⟩ := hI
  obtain ⟨hn, hw, hX, hY, h7, hwk, hb, iJ, iG⟩ := id hp
  obtain ⟨hjs, hro, hl, ha, hlk⟩ := id hw
  unfold f_L_many
  refine s_recv hH.c0 (c_many hH.1 (fun hx => ⟨rfl, hP 1 M (s_recv hH.r0 ?_)⟩) (fun hx => hH.setL (fun M2 h2 => hP 0 M2 (s_recv h2.r0 ?_))))
  · have hx2 := (rng_iff (n := 12) (by decide)).mp hx
    exact x_many hH.2.1 hl ha hlk hn (fun _ M2 h2 => hR 1 0 x y M2 (done_q hH hp h2) (fun h9 => absurd h9 no1)) (fun m hm e2 => absurd ⟨by rw [e2, Int32.le_iff_toInt_le, i_toInt (by omega)]; show (0 : Int) ≤ m; omega, by rw [e2]; show Int32.ofNat m ≤ Int32.ofNat 12; rw [i_le (by omega) (by omega)]; omega⟩ hx2)
  · have hx2 : inB w 0 12 := Classical.byContradiction fun h9 => hx ((rng_iff (n := 12) (by decide)).mpr h9)
    refine x_many h2.2.1 hl ha hlk hn (fun hno => absurd hx2 hno) (fun m hm e2 M3 h3 => hR 0 _ _ y M3 (done_q h2 hp h3) (fun _ => ?_))
    rw [e2]
theorem J_order {a : Int32} {P : Int32 → Mem → Prop} {R : Int32 → Int32 → Mem → Prop} (hI : InvT K c mo vo vd i th x y M) (hP : ∀ k1 M, mRecv mo 10 (f_X9_order K mo a (fun r2 => R k1 r2)) M → P k1 M) (hR : ∀ k1 v2 x y M2, InvT K c mo vo vd (i + 1) k1 x y M2 → (k1 = 0 → x = v2.toInt64) → R k1 v2 M2) : f_L_order K (c 0) a vo P M := by
  obtain ⟨r, nJ, nR, ln, A, T, b, rfl, ht, hH, hp⟩ := hI
  obtain ⟨hn, hw, hX, hY, h7, hwk, hb, iJ, iG⟩ := id hp
  obtain ⟨hjs, hro, hl, ha, hlk⟩ := id hw
  have l1 := hl.1
  unfold f_L_order
  refine s_recv hH.c0 ?_
  rcases i_split a ln.length (by omega) with ⟨p, hp2, rfl⟩ | hno
  · refine c_order hH.1 hl hp2 (hH.setL (fun M2 h2 => hP 0 M2 (s_recv h2.r0 (x_order h2.2.1 hw (fun h9 => absurd rfl (h9 p hp2)) (fun p2 hp3 e M3 h3 => hR 0 _ _ y M3 (done_q h2 hp h3) (fun _ => ?_))))))
    obtain rfl := inj8 (by omega) hp2 hp3 e
    rfl
  · exact c_orderX hH.1 hl hno ⟨rfl, hP 1 M (s_recv hH.r0 (x_order hH.2.1 hw (fun _ M2 h2 => hR 1 0 x y M2 (done_q hH hp h2) (fun h9 => absurd h9 no1)) (fun p hp2 e => absurd e (no_of (by omega) hno p hp2))))⟩
theorem J_best {a : Int32} {P : Int32 → Mem → Prop} {R : Int32 → Int32 → Mem → Prop} (hne : K.2.2 2 ≠ K.2.2 3) (hI : InvT K c mo vo vd i th x y M) (hP : ∀ k1 M, mRecv mo 10 (f_X9_best K mo a (fun r2 => R k1 r2)) M → P k1 M) (hR : ∀ k1 v2 x y M2, InvT K c mo vo vd (i + 1) k1 x y M2 → (k1 = 0 → x = v2.toInt64) → R k1 v2 M2) : f_L_best K (c 0) a vo P M := by
  obtain ⟨r, nJ, nR, ln, A, T, b, rfl, ht, hH, hp⟩ := hI
  obtain ⟨hn, hw, hX, hY, h7, hwk, hb, iJ, iG⟩ := id hp
  have n1 := hn.1
  unfold f_L_best
  refine s_recv hH.c0 ?_
  rcases i_split a nJ n1 with ⟨j, hj, rfl⟩ | hno
  · refine c_best hne hH.1 hn hj (hw.1 j hj) hw.2.1 (hH.setL (fun M2 h2 => hP 0 M2 (s_recv h2.r0 (x_best h2.2.1 hw.1 hw.2.1 (fun h9 => absurd rfl (h9 j hj)) (fun j2 hj2 e M3 h3 => hR 0 _ _ y M3 (done_q h2 hp h3) (fun _ => ?_))))))
    obtain rfl := inj8 n1 hj hj2 e
    rfl
  · unfold f_X5_best
    exact s_recv hH.c0 (c_jumperAtX hH.1 hn hno ⟨rfl, hP 1 M (s_recv hH.r0 (x_best hH.2.1 hw.1 hw.2.1 (fun _ M2 h2 => hR 1 0 x y M2 (done_q hH hp h2) (fun h9 => absurd h9 no1)) (fun j hj e => absurd e (no_of (by omega) hno j hj))))⟩)
theorem J_wouldLand {a st op sp z : Int32} {P : Int32 → Mem → Prop} {R : Int32 → UInt64 → Mem → Prop} (f1 : 365 ≤ nF) (f2 : nF ≤ 900) (hI : InvT K c mo vo vd i th x y M) (hP : ∀ k1 M, mRecv mo 10 (f_X9_wouldLand K mo a st op sp z (fun r2 => R k1 r2)) M → P k1 M) (hR : ∀ k1 v2 x y M2, InvT K c mo vo vd (i + 1) k1 x y M2 → (k1 = 0 → y = v2 ∧ FP.dcmp v2 v2 = some .eq) → R k1 v2 M2) : f_L_wouldLand K (c 0) a st op sp z vd P M := by
  obtain ⟨r, nJ, nR, ln, A, T, b, rfl, ht, hH, hp⟩ := hI
  obtain ⟨hn, hw, hX, hY, h7, hwk, hb, iJ, iG⟩ := id hp
  obtain ⟨hjs, hro, hl, ha, hlk⟩ := id hw
  have n1 := hn.1
  unfold f_L_wouldLand
  refine s_recv hH.c0 ?_
  rcases i_split a nJ n1 with ⟨j, hj, rfl⟩ | hno
  · have bad : ∀ {α : Prop}, (∀ m, m < nJ → Int32.ofNat j ≠ Int32.ofNat m) → α := fun h9 => absurd rfl (h9 j hj)
    refine c_wouldLand (nF := nF) (by omega) f2 hH.1 hn hj (hjs j hj) hro hX hY (fun hx => Or.inr (Or.inl ⟨rfl, hP 2 M (s_recv hH.r0 ?_)⟩)) (fun p1 p2 p3 p4 => Or.inr (Or.inr ⟨rfl, hP 3 M (s_recv hH.r0 ?_)⟩)) (fun p1 p3 o9 e9 o1 o2 p4 hld q M2 h2 => (hH.cls h2).setD (fun M3 h3 => hP 0 M3 (s_recv h3.r0 ?_)))
    · exact x_wouldLand (nF := nF) (by omega) f2 hH.2.1 hjs hro hX hY (fun h9 => bad h9) (fun j2 hj2 e hx2 v M2 h2 => hR 2 v x y M2 (done_q hH hp h2) (fun h9 => absurd h9 no2)) (fun j2 hj2 e p1 p2 p3 p4 => absurd ⟨p1, p2, p3⟩ hx) (fun j2 hj2 e p1 p3 o9 e9 o1 o2 p4 => absurd ⟨p1, ⟨by rw [e9]; show Int32.ofNat 2 ≤ _; rw [i_le (by omega) (by omega)]; exact o1, by rw [e9]; show _ ≤ Int32.ofNat 6; rw [i_le (by omega) (by omega)]; exact o2⟩, p3⟩ hx)
    · exact x_wouldLand (nF := nF) (by omega) f2 hH.2.1 hjs hro hX hY (fun h9 => bad h9) (fun j2 hj2 e hx2 => absurd ⟨p1, p2, p3⟩ hx2) (fun j2 hj2 e p1 p2 p3 p4 v M2 h2 => hR 3 v x y M2 (done_q hH hp h2) (fun h9 => absurd h9 no3)) (fun j2 hj2 e q1 q3 o9 e9 o1 o2 q4 => by
        obtain rfl := inj8 n1 hj hj2 e
        exact absurd p4 q4)
    · have p2 : inB op 2 6 := ⟨by rw [e9]; show Int32.ofNat 2 ≤ _; rw [i_le (by omega) (by omega)]; exact o1, by rw [e9]; show _ ≤ Int32.ofNat 6; rw [i_le (by omega) (by omega)]; exact o2⟩
      refine x_wouldLand (nF := nF) (by omega) f2 h3.2.1 hjs hro hX hY (fun h9 => bad h9) (fun j2 hj2 e hx2 => absurd ⟨p1, p2, p3⟩ hx2) (fun j2 hj2 e q1 q2 q3 q4 => by
        obtain rfl := inj8 n1 hj hj2 e
        exact absurd q4 p4) (fun j2 hj2 e q1 q3 o9' e9' o1' o2' q4 M4 h4 => hR 0 _ x _ M4 (done_rep (N := cN A) (Q := up1 (cQ A) 6 q) h3 hp h4) (fun _ => ?_))
      obtain rfl := inj8 n1 hj hj2 e
      rw [e9, i_eq (by omega) (by omega)] at e9'
      subst e9'
      refine ⟨rfl, em_self ?_⟩
      have hsp : -200 ≤ sp.toInt ∧ sp.toInt ≤ 200 := ⟨Int32.le_iff_toInt_le.mp p3.1, Int32.le_iff_toInt_le.mp p3.2⟩
      have gd0 : good 200 (10, 0, sp.toInt * 16777216, 0) := ⟨Nat.le_refl 10, Nat.zero_le 31, ⟨by show -(((200 : Nat) : Int) * 16777216) ≤ sp.toInt * 16777216; omega, by show sp.toInt * 16777216 ≤ ((200 : Nat) : Int) * 16777216; omega⟩, ⟨by show -(((200 : Nat) : Int) * 16777216) ≤ 0; omega, by show 0 ≤ ((200 : Nat) : Int) * 16777216; omega⟩⟩
      obtain ⟨-, -, g3, g4⟩ := good_itr (n := nF) (o := opF o9 false) hX hY (faF_le (st := st)) (glF_le hld (tr := false)) (fwF_ok hld (lic := cJ A j 1) (tr := false)).1 gd0
      split
      · have : (itr (jF st (cJ A j 1) (ldF A j) o9 false (cX A) (cY A)) nF (10, 0, sp.toInt * 16777216, 0)).2.2.1.natAbs < 2 ^ 53 := by unfold jF; omega
        exact this
      · have : (itr (jF st (cJ A j 1) (ldF A j) o9 false (cX A) (cY A)) nF (10, 0, sp.toInt * 16777216, 0)).2.2.2.natAbs < 2 ^ 53 := by unfold jF; omega
        exact this
  · unfold f_X5_wouldLand
    exact s_recv hH.c0 (c_jumperAtX hH.1 hn hno (Or.inl ⟨rfl, hP 1 M (s_recv hH.r0 (x_wouldLand (nF := nF) (by omega) f2 hH.2.1 hjs hro hX hY (fun _ v M2 h2 => hR 1 v x y M2 (done_q hH hp h2) (fun h9 => absurd h9 no1)) (fun j hj e => absurd e (no_of (by omega) hno j hj)) (fun j hj e => absurd e (no_of (by omega) hno j hj)) (fun j hj e => absurd e (no_of (by omega) hno j hj))))⟩))
theorem J_takes {a st op : Int32} {P : Int32 → Mem → Prop} {R : Int32 → Int32 → Mem → Prop} (f1 : 365 ≤ nF) (f2 : nF ≤ 900) (hI : InvT K c mo vo vd i th x y M) (hP : ∀ k1 M, mRecv mo 10 (f_X9_takes K mo a st op (fun r2 => R k1 r2)) M → P k1 M) (hR : ∀ k1 v2 x y M2, InvT K c mo vo vd (i + 1) k1 x y M2 → (k1 = 0 → x = v2.toInt64) → R k1 v2 M2) : f_L_takes K (c 0) a st op vo P M := by
  obtain ⟨r, nJ, nR, ln, A, T, b, rfl, ht, hH, hp⟩ := hI
  obtain ⟨hn, hw, hX, hY, h7, hwk, hb, iJ, iG⟩ := id hp
  obtain ⟨hjs, hro, hl, ha, hlk⟩ := id hw
  have n1 := hn.1
  unfold f_L_takes
  refine s_recv hH.c0 ?_
  rcases i_split a nJ n1 with ⟨j, hj, rfl⟩ | hno
  · have bad : ∀ {α : Prop}, (∀ m, m < nJ → Int32.ofNat j ≠ Int32.ofNat m) → α := fun h9 => absurd rfl (h9 j hj)
    refine c_takes (nF := nF) (by omega) f2 hH.1 hn hj (hjs j hj) hro hX hY (fun hx => Or.inr (Or.inl ⟨rfl, hP 2 M (s_recv hH.r0 ?_)⟩)) (fun p1 p2 p4 => Or.inr (Or.inr ⟨rfl, hP 3 M (s_recv hH.r0 ?_)⟩)) (fun p1 o9 e9 o1 o2 p4 hld q M2 h2 => (hH.cls h2).setL (fun M3 h3 => hP 0 M3 (s_recv h3.r0 ?_)))
    · exact x_takes (nF := nF) (by omega) f2 hH.2.1 hjs hro hX hY (fun h9 => bad h9) (fun j2 hj2 e hx2 M2 h2 => hR 2 0 x y M2 (done_q hH hp h2) (fun h9 => absurd h9 no2)) (fun j2 hj2 e p1 p2 p4 => absurd ⟨p1, p2⟩ hx) (fun j2 hj2 e p1 o9 e9 o1 o2 p4 => absurd ⟨p1, ⟨by rw [e9]; show Int32.ofNat 2 ≤ _; rw [i_le (by omega) (by omega)]; exact o1, by rw [e9]; show _ ≤ Int32.ofNat 6; rw [i_le (by omega) (by omega)]; exact o2⟩⟩ hx)
    · exact x_takes (nF := nF) (by omega) f2 hH.2.1 hjs hro hX hY (fun h9 => bad h9) (fun j2 hj2 e hx2 => absurd ⟨p1, p2⟩ hx2) (fun j2 hj2 e p1 p2 p4 M2 h2 => hR 3 0 x y M2 (done_q hH hp h2) (fun h9 => absurd h9 no3)) (fun j2 hj2 e q1 o9 e9 o1 o2 q4 => by
        obtain rfl := inj8 n1 hj hj2 e
        exact absurd p4 q4)
    · have p2 : inB op 2 6 := ⟨by rw [e9]; show Int32.ofNat 2 ≤ _; rw [i_le (by omega) (by omega)]; exact o1, by rw [e9]; show _ ≤ Int32.ofNat 6; rw [i_le (by omega) (by omega)]; exact o2⟩
      refine x_takes (nF := nF) (by omega) f2 h3.2.1 hjs hro hX hY (fun h9 => bad h9) (fun j2 hj2 e hx2 => absurd ⟨p1, p2⟩ hx2) (fun j2 hj2 e q1 q2 q4 => by
        obtain rfl := inj8 n1 hj hj2 e
        exact absurd q4 p4) (fun j2 hj2 e q1 o9' e9' o1' o2' q4 M4 h4 => hR 0 _ _ y M4 (done_rep (N := cN A) (Q := up1 (cQ A) 6 q) h3 hp h4) (fun _ => ?_))
      obtain rfl := inj8 n1 hj hj2 e
      rw [e9, i_eq (by omega) (by omega)] at e9'
      subst e9'
      rfl
  · unfold f_X5_takes
    exact s_recv hH.c0 (c_jumperAtX hH.1 hn hno (Or.inl ⟨rfl, hP 1 M (s_recv hH.r0 (x_takes (nF := nF) (by omega) f2 hH.2.1 hjs hro hX hY (fun _ M2 h2 => hR 1 0 x y M2 (done_q hH hp h2) (fun h9 => absurd h9 no1)) (fun j hj e => absurd e (no_of (by omega) hno j hj)) (fun j hj e => absurd e (no_of (by omega) hno j hj)) (fun j hj e => absurd e (no_of (by omega) hno j hj))))⟩))
theorem g_in {g9 : Nat} (h1 : 1 ≤ g9) (h2 : g9 ≤ 9) : inB (Int32.ofNat g9) 1 9 := ⟨by show Int32.ofNat 1 ≤ _; rw [i_le (by omega) (by omega)]; exact h1, by show _ ≤ Int32.ofNat 9; rw [i_le (by omega) (by omega)]; exact h2⟩
theorem J_spot {gp : Int32} {P : Int32 → Mem → Prop} {R : Int32 → Int32 → Mem → Prop} (f1 : 365 ≤ nF) (f2 : nF ≤ 900) (hK : K.2.2 1 < K.2.2 0) (hI : InvT K c mo vo vd i th x y M) (hP : ∀ k1 M, mRecv mo 10 (f_X9_spot K mo gp (fun r2 => R k1 r2)) M → P k1 M) (hR : ∀ k1 v2 x y M2, InvT K c mo vo vd (i + 1) k1 x y M2 → (k1 = 0 → x = v2.toInt64) → R k1 v2 M2) : f_L_spot K (c 0) gp vo P M := by
  obtain ⟨r, nJ, nR, ln, A, T, b, rfl, ht, hH, hp⟩ := hI
  obtain ⟨hn, hw, hX, hY, h7, hwk, hb, iJ, iG⟩ := id hp
  obtain ⟨hjs, hro, hl, ha, hlk⟩ := id hw
  unfold f_L_spot
  refine s_recv hH.c0 (c_spot (nF := nF) f1 f2 hH.1 hn hl ha hro hX hY (fun hx => ⟨rfl, hP 1 M (s_recv hH.r0 ?_)⟩) (fun g9 e g1 g2 bb N Q3 M2 hbest h2 => (hH.cls h2).setL (fun M3 h3 => hP 0 M3 (s_recv h3.r0 ?_))))
  · exact x_spot (nF := nF) f1 f2 hK hH.2.1 hw hn hX hY (fun _ M2 h2 => hR 1 0 x y M2 (done_q hH hp h2) (fun h9 => absurd h9 no1)) (fun g9 e g1 g2 => absurd (by rw [e]; exact g_in g1 g2) hx)
  · refine x_spot (nF := nF) f1 f2 hK h3.2.1 hw hn hX hY (fun hx => absurd (by rw [e]; exact g_in g1 g2) hx) (fun g9' e' g1' g2' b2 M4 hb2 h4 => hR 0 _ _ y M4 (done_rep h3 hp h4) (fun _ => ?_))
    rw [e, i_eq (by omega) (by omega)] at e'
    subst e'
    have e2 : bb = b2 := Int32.toInt_inj.mp (isBest_one hbest hb2)
    rw [e2]
theorem J_wouldMeet {gp sp : Int32} {P : Int32 → Mem → Prop} {R : Int32 → Int32 → Mem → Prop} (f1 : 365 ≤ nF) (f2 : nF ≤ 900) (hK : K.2.2 1 < K.2.2 0) (hI : InvT K c mo vo vd i th x y M) (hP : ∀ k1 M, mRecv mo 10 (f_X9_wouldMeet K mo gp sp (fun r2 => R k1 r2)) M → P k1 M) (hR : ∀ k1 v2 x y M2, InvT K c mo vo vd (i + 1) k1 x y M2 → (k1 = 0 → x = v2.toInt64) → R k1 v2 M2) : f_L_wouldMeet K (c 0) gp sp vo P M := by
  obtain ⟨r, nJ, nR, ln, A, T, b, rfl, ht, hH, hp⟩ := hI
  obtain ⟨hn, hw, hX, hY, h7, hwk, hb, iJ, iG⟩ := id hp
  obtain ⟨hjs, hro, hl, ha, hlk⟩ := id hw
  unfold f_L_wouldMeet
  refine s_recv hH.c0 (c_wouldMeet (nF := nF) f1 f2 hH.1 hn hl ha hro hX hY (fun hx => ⟨rfl, hP 1 M (s_recv hH.r0 ?_)⟩) (fun g9 e g1 g2 ps N Q3 M2 h2 => (hH.cls h2).setL (fun M3 h3 => hP 0 M3 (s_recv h3.r0 ?_))))
  · exact x_wouldMeet (nF := nF) f1 f2 hK hH.2.1 hw hn hX hY (fun _ M2 h2 => hR 1 0 x y M2 (done_q hH hp h2) (fun h9 => absurd h9 no1)) (fun g9 e g1 g2 ps => absurd ⟨by rw [e]; exact g_in g1 g2, ps⟩ hx)
  · refine x_wouldMeet (nF := nF) f1 f2 hK h3.2.1 hw hn hX hY (fun hx => absurd ⟨by rw [e]; exact g_in g1 g2, ps⟩ hx) (fun g9' e' g1' g2' ps' M4 h4 => hR 0 _ _ y M4 (done_rep h3 hp h4) (fun _ => ?_))
    rw [e, i_eq (by omega) (by omega)] at e'
    subst e'
    rfl
theorem J_digest {P : Int64 → Mem → Prop} {R : Int64 → Int64 → Mem → Prop} {QX : String → Mem → Prop} (f1 : 365 ≤ nF) (f2 : nF ≤ 900) (hi : i ≤ 512) (hK : K.2.2 1 < K.2.2 0) (hne : K.2.2 2 ≠ K.2.2 3) (hI : InvT K c mo vo vd i th x y M) (hP : ∀ k1 M, mRecv mo 10 (f_X9_digest K mo (fun r2 => R k1 r2)) M → P k1 M) (hR : ∀ v x y M2, InvT K c mo vo vd (i + 1) 0 x y M2 → R v v M2) : mRecv (c 0) 6 (f_X5_digest K (c 0) P QX) M := by
  obtain ⟨r, nJ, nR, ln, A, T, b, rfl, ht, hH, hp⟩ := hI
  obtain ⟨hn, hw, hX, hY, h7, hwk, hb, iJ, iG⟩ := id hp
  obtain ⟨hjs, hro, hl, ha, hlk⟩ := id hw
  refine s_recv hH.c0 (c_digest (nF := nF) f1 f2 hne hH.1 hn hl ha hjs hro hX hY hwk (by omega) (fun sp N Q3 M2 hb1 h2 => hP _ M2 (s_recv (hH.cls h2).r0 ?_)))
  refine x_digest (nF := nF) f1 f2 hK (hH.cls h2).2.1 hw hn hX hY hwk (by omega) (fun sp2 M3 hb2 h3 => ?_)
  have e2 : sp = sp2 := Int32.toInt_inj.mp (isBest_one hb1 hb2)
  rw [e2]
  exact hR _ x y M3 (done_rep (hH.cls h2) hp h3)
end ASKS
