/-! ===== BOTH SIDES TOGETHER ===== -/
def outL (K : Cfg) (vo : Nat) (x : Int64) (M : Mem) : Prop := ∃ f : Nat → Int64, M vo = some (.inl (K.2.1 1, 1, .inr (.inl f))) ∧ f 0 = x
def outD (K : Cfg) (vd : Nat) (y : UInt64) (M : Mem) : Prop := ∃ f : Nat → UInt64, M vd = some (.inl (K.2.1 2, 1, .inr (.inr (.inr (.inl f))))) ∧ f 0 = y
def Hf (K : Cfg) (c r : Nat → Nat) (nJ nR : Nat) (A A2 : CS) (T : RT) (vo vd : Nat) (x : Int64) (y : UInt64) (M : Mem) : Prop :=
  picC K c A2 M M ∧ picR K r nJ nR A T M M ∧ (∀ q, rv nJ nR q → ∀ j, j < 32 → r q ≠ c j) ∧ (outL K vo x M ∧ outD K vd y M) ∧ (∀ j, j < 32 → vo ≠ c j ∧ vd ≠ c j) ∧ (∀ q, rv nJ nR q → r q ≠ vo ∧ r q ≠ vd) ∧ vo ≠ vd
/-- what holds of the store alone -/
def Pure (A : CS) (T : RT) (nJ nR : Nat) (ln : List Nat) (b i : Nat) : Prop :=
  cntOk A nJ nR ∧ wfS A T nJ nR ln ∧ wbd (cX A) ∧ wbd (cY A) ∧ (cS A 7 = 0 ∨ cS A 7 = 1) ∧ wOk b A ∧ b + 4 * ln.length ≤ 4 * i ∧ (∀ k, nJ ≤ k → k < 8 → iniJ A k) ∧ (∀ k, nR ≤ k → k < 8 → iniG A k)
def InvT (K : Cfg) (c : Nat → Nat) (mo vo vd i : Nat) (th : Int32) (x : Int64) (y : UInt64) (M : Mem) : Prop := ∃ r nJ nR ln A T b, r 0 = mo ∧ tH T = th ∧ Hf K c r nJ nR A A T vo vd x y M ∧ Pure A T nJ nR ln b i
section PAIR
variable {K : Cfg} {c r : Nat → Nat} {nJ nR : Nat} {A A2 : CS} {T : RT} {vo vd : Nat} {x : Int64} {y : UInt64} {M : Mem} {ln : List Nat} {b i mo : Nat}
theorem Hf.c0 (h : Hf K c r nJ nR A A2 T vo vd x y M) : M (c 0) = some (.inr (6, sfl c A2)) := h.1.c0
theorem Hf.r0 (h : Hf K c r nJ nR A A2 T vo vd x y M) : M (r 0) = some (.inr (10, rmod r A T)) := h.2.1.r0
theorem Hf.cls {A3 : CS} {M2 : Mem} (h : Hf K c r nJ nR A A2 T vo vd x y M) (h2 : picC K c A3 M M2) : Hf K c r nJ nR A A3 T vo vd x y M2 := by
  obtain ⟨h1, hr, hd, ⟨⟨f, f1, f2⟩, g, g1, g2⟩, hv, hw, hvd⟩ := h
  refine ⟨⟨h2.1, h2.2.1, fun _ _ => rfl⟩, ⟨hr.1, hr.2.1, fun q hq => (h2.2.2 _ (fun j hj => hd q hq j hj)).trans (hr.2.2.1 q hq), fun _ _ hq _ => hq⟩, hd, ⟨⟨f, (h2.2.2 _ (fun j hj => (hv j hj).1)).trans f1, f2⟩, g, (h2.2.2 _ (fun j hj => (hv j hj).2)).trans g1, g2⟩, hv, hw, hvd⟩
theorem Hf.setL {v : Int64} {k : Mem → Prop} (h : Hf K c r nJ nR A A2 T vo vd x y M) (hk : ∀ M2, Hf K c r nJ nR A A2 T vo vd v y M2 → k M2) : mStL K vo 0 v k M := by
  obtain ⟨h1, hr, hd, ⟨⟨f, f1, f2⟩, g, g1, g2⟩, hv, hw, hvd⟩ := h
  refine ⟨1, f, f1, i_in (a := 0) (by decide) (by decide), hk _ ⟨⟨h1.1, fun j hj => (mUp_ne (hv j hj).1.symm).trans (h1.2.1 j hj), fun _ _ => rfl⟩, ⟨hr.1, hr.2.1, fun q hq => (mUp_ne (hw q hq).1).trans (hr.2.2.1 q hq), fun _ _ hq _ => hq⟩, hd, ⟨⟨_, mUp_same, ?_⟩, g, (mUp_ne hvd.symm).trans g1, g2⟩, hv, hw, hvd⟩⟩
  show vp_updL f (Int32.ofNat 0).toNatClampNeg v 0 = v
  rw [i_nat (by decide)]
  rfl
theorem Hf.setD {v : UInt64} {k : Mem → Prop} (h : Hf K c r nJ nR A A2 T vo vd x y M) (hk : ∀ M2, Hf K c r nJ nR A A2 T vo vd x v M2 → k M2) : mStD K vd 0 v k M := by
  obtain ⟨h1, hr, hd, ⟨⟨f, f1, f2⟩, g, g1, g2⟩, hv, hw, hvd⟩ := h
  refine ⟨1, g, g1, i_in (a := 0) (by decide) (by decide), hk _ ⟨⟨h1.1, fun j hj => (mUp_ne (hv j hj).2.symm).trans (h1.2.1 j hj), fun _ _ => rfl⟩, ⟨hr.1, hr.2.1, fun q hq => (mUp_ne (hw q hq).2).trans (hr.2.2.1 q hq), fun _ _ hq _ => hq⟩, hd, ⟨⟨f, (mUp_ne hvd).trans f1, f2⟩, _, mUp_same, ?_⟩, hv, hw, hvd⟩⟩
  show vf_upd g (Int32.ofNat 0).toNatClampNeg v 0 = v
  rw [i_nat (by decide)]
  unfold vf_upd
  simp
theorem Hf.refm {r2 : Nat → Nat} {nJ2 nR2 : Nat} {A3 : CS} {T2 : RT} {M2 : Mem} (h : Hf K c r nJ nR A A2 T vo vd x y M) (h2 : picR K r2 nJ2 nR2 A3 T2 M M2) (hm : rmore r r2 nJ nR nJ2 nR2 M) : Hf K c r2 nJ2 nR2 A3 A2 T2 vo vd x y M2 := by
  obtain ⟨h1, hr, hd, ⟨⟨f, f1, f2⟩, g, g1, g2⟩, hv, hw, hvd⟩ := h
  have hd2 : ∀ q, rv nJ2 nR2 q → ∀ j, j < 32 → r2 q ≠ c j := fun q hq j hj e => by
    rcases hm q hq with ⟨m1, m2⟩ | m1
    · rw [m2] at e; exact hd q m1 j hj e
    · rw [e, h1.2.1 j hj] at m1; cases m1
  have hw2 : ∀ q, rv nJ2 nR2 q → r2 q ≠ vo ∧ r2 q ≠ vd := fun q hq => by
    rcases hm q hq with ⟨m1, m2⟩ | m1
    · rw [m2]; exact hw q m1
    · exact ⟨fun e => (by rw [e, f1] at m1; cases m1), fun e => (by rw [e, g1] at m1; cases m1)⟩
  exact ⟨⟨h1.1, fun j hj => h2.2.2.2 _ _ (h1.2.1 j hj) (fun q hq e => hd2 q hq j hj e.symm), fun _ _ => rfl⟩, h2.re, hd2, ⟨⟨f, h2.2.2.2 _ _ f1 (fun q hq e => (hw2 q hq).1 e.symm), f2⟩, g, h2.2.2.2 _ _ g1 (fun q hq e => (hw2 q hq).2 e.symm), g2⟩, hv, hw2, hvd⟩
theorem Hf.ref {A3 : CS} {T2 : RT} {M2 : Mem} (h : Hf K c r nJ nR A A2 T vo vd x y M) (h2 : picR K r nJ nR A3 T2 M M2) : Hf K c r nJ nR A3 A2 T2 vo vd x y M2 := h.refm h2 (fun _ hq => Or.inl ⟨hq, rfl⟩)
theorem Hf.cg {A3 : CS} {T2 : RT} (h : Hf K c r nJ nR A A2 T vo vd x y M) (h0 : rmod r A3 T2 = rmod r A T) (hm : t1 T2 = t1 T ∧ t2 T2 = t2 T) (h3 : cX A3 = cX A) (h4 : cY A3 = cY A) (hj : ∀ k, k < nJ → rjf A3 T2 k = rjf A T k) (hg : ∀ k, k < nR → gfl A3 k = gfl A k) : Hf K c r nJ nR A3 A2 T2 vo vd x y M := by
  obtain ⟨h1, hr, hrest⟩ := h
  exact ⟨h1, hr.congr h0 hm h3 h4 hj hg, hrest⟩
theorem Pure.th {v : Int32} (h : Pure A T nJ nR ln b i) : Pure A (setTh T v) nJ nR ln b (i + 1) := by
  obtain ⟨h1, h2, h3, h4, h5, h6, h7, h8, h9⟩ := h
  exact ⟨h1, h2, h3, h4, h5, h6, by omega, h8, h9⟩
theorem Pure.rep {v N : Int32} {Q : Nat → JQ} (h : Pure A T nJ nR ln b i) : Pure (repQ A N Q) (setTh T v) nJ nR ln b (i + 1) := by
  obtain ⟨h1, h2, h3, h4, h5, h6, h7, h8, h9⟩ := h
  exact ⟨h1, h2, h3, h4, h5, h6, by omega, h8, h9⟩
/-- a call that changes nothing -/
theorem done_q {v : Int32} {M2 : Mem} (hH : Hf K c r nJ nR A A T vo vd x y M) (hp : Pure A T nJ nR ln b i) (h2 : picR K r nJ nR A (setTh T v) M M2) : InvT K c (r 0) vo vd (i + 1) v x y M2 := ⟨r, nJ, nR, ln, A, setTh T v, b, rfl, rfl, hH.ref h2, hp.th⟩
theorem done_rep {v N : Int32} {Q : Nat → JQ} {M2 : Mem} (hH : Hf K c r nJ nR A (repQ A N Q) T vo vd x y M) (hp : Pure A T nJ nR ln b i) (h2 : picR K r nJ nR A (setTh T v) M M2) : InvT K c (r 0) vo vd (i + 1) v x y M2 := ⟨r, nJ, nR, ln, repQ A N Q, setTh T v, b, rfl, rfl, (hH.ref h2).cg rfl ⟨rfl, rfl⟩ rfl rfl (fun _ _ => rfl) (fun _ _ => rfl), hp.rep⟩
theorem fin_th {k1 : Int32} {F : Int32 → Mem → Prop} (h : InvT K c mo vo vd i k1 x y M) (hk : F k1 M) : mRecv mo 10 (f_X9_thrown K mo F) M := by
  obtain ⟨r, nJ, nR, ln, A, T, b, rfl, ht, hH, -⟩ := h
  refine s_recv hH.r0 ?_
  unfold f_X9_thrown
  refine s_getI hH.r0 rfl ?_
  rw [ht]
  exact hk
theorem fin_I {k1 v2 : Int32} {NX NX2 NO1 NO2 : Mem → Prop} (h : InvT K c mo vo vd i k1 x y M) (hx : k1 = 0 → x = v2.toInt64) (h1 : NX M) (h2 : NX2 M) : mRecv mo 10 (f_X9_thrown K mo (fun r3 => mIf (r3 = k1) (mIf (k1 = 0) (mLdL K vo 0 fun x4 => mIf ((lg_cmp x4 v2.toInt64) = 0) NX NO1) NX2) NO2)) M := by
  refine fin_th h (s_ifT rfl (s_if (fun c1 => ?_) (fun _ => h2)))
  obtain ⟨r, nJ, nR, ln, A, T, b, -, -, hH, -⟩ := h
  obtain ⟨-, -, -, ⟨⟨f, f1, f2⟩, -⟩, -⟩ := hH
  refine s_ldL f1 (i_in (a := 0) (by decide) (by decide)) ?_
  rw [show f (0 : Int32).toNatClampNeg = x from f2, hx c1]
  exact s_ifT ((lg_cmp_eq _ _).mpr rfl) h1
theorem cv_self {a : UInt64} (h : FP.dcmp a a = some .eq) : Op.cmpValue (FP.dcmp a a) .l = 0 := by rw [h]; rfl
theorem fin_D {k1 : Int32} {v2 : UInt64} {NX NX2 NX3 NO1 NO2 NO3 : Mem → Prop} (h : InvT K c mo vo vd i k1 x y M) (hx : k1 = 0 → y = v2 ∧ FP.dcmp v2 v2 = some .eq) (h1 : NX M) (h2 : NX2 M) : mRecv mo 10 (f_X9_thrown K mo (fun r3 => mIf (r3 = k1) (mIf (k1 = 0) (mLdD K vd 0 fun x4 => mIf ((Op.cmpValue (FP.dcmp x4 v2) .l) = 0) NX (mLdD K vd 0 fun x5 => mLdD K vd 0 fun x6 => mIf ((Op.cmpValue (FP.dcmp x5 x6) .l) = 0) NO1 (mIf ((Op.cmpValue (FP.dcmp v2 v2) .l) = 0) NO2 NX3))) NX2) NO3)) M := by
  refine fin_th h (s_ifT rfl (s_if (fun c1 => ?_) (fun _ => h2)))
  obtain ⟨r, nJ, nR, ln, A, T, b, -, -, hH, -⟩ := h
  obtain ⟨-, -, -, ⟨-, g, g1, g2⟩, -⟩ := hH
  refine s_ldD g1 (i_in (a := 0) (by decide) (by decide)) ?_
  obtain ⟨e1, e2⟩ := hx c1
  rw [show g (0 : Int32).toNatClampNeg = y from g2, e1]
  exact s_ifT (cv_self e2) h1
theorem em_self {k : Int} (hk : k.natAbs < 2 ^ 53) : FP.dcmp (em k) (em k) = some .eq := by
  rw [em_cmp hk hk]
  congr 1
  show compareOfLessAndEq k k = _
  unfold compareOfLessAndEq
  rw [if_neg (Int.lt_irrefl k), if_pos rfl]
end PAIR
