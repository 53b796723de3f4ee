/-! ===== THE REFERENCE'S CALLS, the plain ones ===== -/
section REFADD
variable {K : Cfg} {M : Mem} {a b n x ci : Nat} {md : Int32} {fs : List Value} {f : Nat → Option Nat}
theorem q_add1 {k : Int32 → Mem → Prop} (h : M a = some (lobj md b n)) (hn : n < 10) (hx : M x = some (.inr (ci, fs))) (hci : ci = 7 ∨ ci = 8 ∨ ci = 9) (hb1 : b ≠ K.2.2 1) (hb : M b = some (oarr K f))
    (hk : ∀ M2, M2 a = some (lobj (md + 1) b (n + 1)) → M2 b = some (oarr K (va_up f n (some x))) → (∀ q, q ≠ a → q ≠ b → M2 q = M q) → k 1 M2) : f_Jx4a65c_add_9ea2d K a x k M := by
  have hba : b ≠ a := fun e => by rw [e, h] at hb; cases hb
  have hxa : x ≠ a := fun e => by
    rw [e, h] at hx
    have h9 : (0 : Nat) = ci := congrArg (fun o : Option va_E => match o with | some (.inr q) => q.1 | _ => 0) hx
    omega
  unfold f_Jx4a65c_add_9ea2d
  refine s_getI h rfl (s_put h (by show 0 < 3; decide) (u_getR rfl (u_getI rfl (u_recv ?_))))
  unfold f_Jx4a65c_add_72be8 f_Jx4a65c_add_72be8_b11
  unfold mLenE
  rw [if_neg hb1]
  refine ⟨(10, .inr (.inr (.inr (.inr f)))), (mUp_ne hba).trans hb, s_ifF (fun h9 => ?_) ?_⟩
  · have h9 : Int32.ofNat n = Int32.ofNat 10 := h9
    rw [i_eq (by omega) (by omega)] at h9; omega
  · refine ⟨ci, hci, 10, f, fs, (mUp_ne hba).trans hb, (mUp_ne hxa).trans hx, i_in (by omega) hn, s_put ((mUp_ne hba.symm).trans mUp_same) (by show 2 < 3; decide) (s_as (Or.inr rfl) (hk _ ?_ ?_ (fun q q1 q2 => ?_)))⟩
    · rw [mUp_same, i_succ]; rfl
    · rw [mUp_ne hba, mUp_same, i_nat (by omega)]; rfl
    · rw [mUp_ne q1, mUp_ne q2, mUp_ne q1]
theorem q_add0 {k : Int32 → Mem → Prop} (h : M a = some (lobj md (K.2.2 1) 0)) (hx : M x = some (.inr (ci, fs))) (hci : ci = 7 ∨ ci = 8 ∨ ci = 9) (hK : K.2.2 1 < K.2.2 0)
    (hk : ∀ b M2, K.2.2 1 < b → M b = none → M2 a = some (lobj (md + 1) b 1) → M2 b = some (oarr K (va_up (fun _ => none) 0 (some x))) → (∀ q, q ≠ a → q ≠ b → M2 q = M q) → k 1 M2) : f_Jx4a65c_add_9ea2d K a x k M := by
  have hxa : x ≠ a := fun e => by
    rw [e, h] at hx
    have h9 : (0 : Nat) = ci := congrArg (fun o : Option va_E => match o with | some (.inr q) => q.1 | _ => 0) hx
    omega
  unfold f_Jx4a65c_add_9ea2d
  refine s_getI h rfl (s_put h (by show 0 < 3; decide) (u_getR rfl (u_getI rfl (u_recv ?_))))
  unfold f_Jx4a65c_add_72be8 f_Jx4a65c_add_72be8_b11
  unfold mLenE
  rw [if_pos rfl]
  refine s_ifT rfl (u_recv ?_)
  unfold f_Jx4a65c_grow_d5877
  refine u_getI rfl (u_recv ?_)
  unfold f_Jx4a65c_grow_92f84 f_Jx4a65c_grow_92f84_b20
  refine u_getR rfl ?_
  unfold mLenE
  rw [if_pos rfl]
  refine s_ifF (by decide) (u_getR rfl (s_ifT rfl (s_as (by decide) ?_)))
  unfold f_J9_max_7cf53 f_J9_max_7cf53_b10
  refine s_ifF (by decide) (s_as (by decide) (s_as (by decide) (fun b hb => ?_)))
  have hbM : M b = none := by
    cases hq : M b with
    | none => rfl
    | some e =>
      by_cases hba : b = a
      · have := hb.2 a _ mUp_same; omega
      · have := hb.2 b e ((mUp_ne hba).trans hq); omega
  have hba : b ≠ a := fun e => by rw [e, h] at hbM; cases hbM
  have hxb : x ≠ b := fun e => by rw [e, hbM] at hx; cases hx
  refine s_put ((mUp_ne hba.symm).trans mUp_same) (by show 1 < 3; decide) (s_as (by decide) ?_)
  refine ⟨ci, hci, 10, fun _ => none, fs, (mUp_ne hba).trans mUp_same, (mUp_ne hxa).trans ((mUp_ne hxb).trans ((mUp_ne hxa).trans hx)), i_in (a := 0) (by decide) (by decide), s_put ((mUp_ne hba.symm).trans mUp_same) (by show 2 < 3; decide) (s_as (Or.inr rfl) (hk b _ (by have := hb.1; omega) hbM ?_ ?_ (fun q q1 q2 => ?_)))⟩
  · rw [mUp_same]; rfl
  · rw [mUp_ne hba, mUp_same]; rfl
  · rw [mUp_ne q1, mUp_ne q2, mUp_ne q1, mUp_ne q2, mUp_ne q1]
end REFADD
section REFC
variable {K : Cfg} {r : Nat → Nat} {nJ nR : Nat} {A : CS} {T : RT} {M0 M : Mem} {ln : List Nat}
/-- the addresses behind a call that makes one more cell or two -/
def rmore (r r2 : Nat → Nat) (nJ nR nJ2 nR2 : Nat) (M : Mem) : Prop := ∀ i, rv nJ2 nR2 i → (rv nJ nR i ∧ r2 i = r i) ∨ M (r2 i) = none
theorem picR.nil0 (h : picR K r nJ nR A T M0 M) {a : Nat} (ha : M a = none) : M0 a = none := by
  cases hq : M0 a with
  | none => rfl
  | some e =>
    have := h.2.2.2 a e hq (fun i hi e9 => by rw [e9, h.2.2.1 i hi] at ha; cases ha)
    rw [ha] at this; cases this
theorem picR.apart (h : picR K r nJ nR A T M0 M) {a : Nat} (ha : M a = none) : ∀ i, rv nJ nR i → r i ≠ a := fun i hi e => by
  have := h.2.2.1 i hi
  rw [e, ha] at this; cases this
/-- one more jumper at the address x -/
theorem r_addJ {k : Int32 → Mem → Prop} {x : Nat} {A2 : CS} {T2 : RT} (hK : K.2.2 1 < K.2.2 0) (h : picR K r nJ nR A T M0 M) (h8 : nJ < 8) (hx : M x = some (.inr (8, rjf A2 T2 nJ))) (hxr : ∀ i, rv nJ nR i → r i ≠ x) (hx0 : M0 x = none) (hT : t1 T2 = t1 T + 1 ∧ t2 T2 = t2 T) (hmod : rmod r A2 T2 = rmod r A T) (eX : cX A2 = cX A) (eY : cY A2 = cY A) (hj : ∀ k, k < nJ → rjf A2 T2 k = rjf A T k) (hg : ∀ k, k < nR → gfl A2 k = gfl A k)
    (hk : ∀ r2 M2, rmore r r2 nJ nR (nJ + 1) nR M0 → r2 0 = r 0 → picR K r2 (nJ + 1) nR A2 T2 M0 M2 → k 1 M2) : f_Jx4a65c_add_9ea2d K (r 1) x k M := by
  obtain ⟨⟨⟨n1, n2⟩, z5, z6, w5, w6⟩, inj, cells, frame⟩ := id h
  have fin : ∀ (b : Nat) (M2 : Mem) (f : Nat → Option Nat), b ≠ K.2.2 1 → ((0 < nJ ∧ b = r 5) ∨ (nJ = 0 ∧ M b = none)) → (∀ i, i < nJ → f i = some (r (16 + i))) → (∀ i, nJ ≤ i → f i = none) → M2 (r 1) = some (lobj (t1 T + 1) b (nJ + 1)) → M2 b = some (oarr K (va_up f nJ (some x))) → (∀ q, q ≠ r 1 → q ≠ b → M2 q = M q) → k 1 M2 := by
    intro b M2 f hb1 hb hf hf2 m1 m2 m3
    have hbx : b ≠ x := by
      rcases hb with ⟨h1, h2⟩ | ⟨h1, h2⟩
      · rw [h2]; exact hxr 5 (Or.inr (Or.inl ⟨rfl, h1⟩))
      · intro e; rw [e, hx] at h2; cases h2
    have hbr : ∀ i, rv nJ nR i → i ≠ 5 → r i ≠ b := by
      intro i hi hi5
      rcases hb with ⟨h1, h2⟩ | ⟨h1, h2⟩
      · rw [h2]; exact fun e => hi5 (inj _ _ hi (Or.inr (Or.inl ⟨rfl, h1⟩)) e)
      · exact h.apart h2 i hi
    have hb0 : 0 < nJ ∨ M0 b = none := by
      rcases hb with ⟨h1, h2⟩ | ⟨h1, h2⟩
      · exact Or.inl h1
      · exact Or.inr (h.nil0 h2)
    have rve : ∀ i, rv (nJ + 1) nR i ↔ i = 5 ∨ i = 16 + nJ ∨ (i ≠ 5 ∧ i ≠ 16 + nJ ∧ rv nJ nR i) := by
      intro i; unfold rv; omega
    have r5 : (fun i => if i = 16 + nJ then x else if i = 5 then b else r i) 5 = b := by show (if 5 = 16 + nJ then x else if 5 = 5 then b else r 5) = b; rw [if_neg (by omega), if_pos rfl]
    have rx : (fun i => if i = 16 + nJ then x else if i = 5 then b else r i) (16 + nJ) = x := by show (if 16 + nJ = 16 + nJ then x else _) = x; rw [if_pos rfl]
    have ro : ∀ i, i ≠ 5 → i ≠ 16 + nJ → (fun i => if i = 16 + nJ then x else if i = 5 then b else r i) i = r i := fun i h1 h2 => by show (if i = 16 + nJ then x else if i = 5 then b else r i) = r i; rw [if_neg h2, if_neg h1]
    generalize (fun i => if i = 16 + nJ then x else if i = 5 then b else r i) = r2 at r5 rx ro
    have rlo : ∀ i, i ≤ 4 → r2 i = r i := fun i hi => ro i (by omega) (by omega)
    refine hk r2 M2 (fun i hi => ?_) (rlo 0 (by decide)) ⟨⟨⟨by omega, n2⟩, fun e => by omega, fun e => by rw [ro 6 (by decide) (by omega)]; exact z6 e, fun _ => by rw [r5]; exact hb1, fun e => by rw [ro 6 (by decide) (by omega)]; exact w6 e⟩, fun i j hi hj e => ?_, fun i hi => ?_, fun q e hq hq2 => ?_⟩
    · rcases (rve i).mp hi with rfl | rfl | ⟨h1, h2, h3⟩
      · rcases hb with ⟨h4, h5⟩ | ⟨h4, h5⟩
        · exact Or.inl ⟨Or.inr (Or.inl ⟨rfl, h4⟩), by rw [r5, h5]⟩
        · exact Or.inr (by rw [r5]; exact h.nil0 h5)
      · exact Or.inr (by rw [rx]; exact hx0)
      · exact Or.inl ⟨h3, ro i h1 h2⟩
    · rcases (rve i).mp hi with rfl | rfl | ⟨h1, h2, h3⟩ <;> rcases (rve j).mp hj with rfl | rfl | ⟨g1, g2, g3⟩
      · rfl
      · rw [r5, rx] at e; exact absurd e hbx
      · rw [r5, ro j g1 g2] at e; exact absurd e.symm (hbr j g3 g1)
      · rw [r5, rx] at e; exact absurd e.symm hbx
      · rfl
      · rw [rx, ro j g1 g2] at e; exact absurd e.symm (hxr j g3)
      · rw [r5, ro i h1 h2] at e; exact absurd e (hbr i h3 h1)
      · rw [rx, ro i h1 h2] at e; exact absurd e (hxr i h3)
      · rw [ro i h1 h2, ro j g1 g2] at e; exact inj i j h3 g3 e
    · have hmod2 : rmod r2 A2 T2 = rmod r A T := by rw [← hmod]; unfold rmod; rw [rlo 1 (by decide), rlo 2 (by decide), rlo 3 (by decide), rlo 4 (by decide)]
      have old : ∀ i, rv nJ nR i → i ≠ 1 → i ≠ 5 → i ≠ 16 + nJ → M2 (r2 i) = some (cellR K r nJ nR A T i) := fun i hi h1 h5 h6 => by
        rw [ro i h5 h6, m3 _ (fun e => h1 (inj _ _ hi (rv_lo (by decide)) e)) (hbr i hi h5)]
        exact cells i hi
      rcases (rve i).mp hi with rfl | rfl | ⟨h1, h2, h3⟩
      · rw [r5, m2]
        show some (oarr K (va_up f nJ (some x))) = some (oarr K (fun j => if j < nJ + 1 then some (r2 (16 + j)) else none))
        congr 2
        funext j
        unfold va_up
        by_cases hj1 : j = nJ
        · rw [if_pos hj1, if_pos (by omega), hj1, rx]
        · rw [if_neg hj1]
          by_cases hj2 : j < nJ
          · rw [if_pos (by omega), hf j hj2, ro (16 + j) (by omega) (by omega)]
          · rw [if_neg (by omega), hf2 j (by omega)]
      · rw [rx, cellR_j (by omega), m3 x (fun e => hxr 1 (rv_lo (by decide)) e.symm) (fun e => hbx e.symm)]
        exact hx
      · by_cases e1 : i = 1
        · subst e1
          rw [rlo 1 (by decide), m1]
          show some (lobj (t1 T + 1) b (nJ + 1)) = some (lobj (t1 T2) (r2 5) (nJ + 1))
          rw [hT.1, r5]
        · rw [old i h3 e1 h1 h2]
          congr 1
          unfold cellR
          rw [hmod2, hT.2, eX, eY]
          by_cases e0 : i = 0
          · rw [if_pos e0, if_pos e0]
          rw [if_neg e0, if_neg e0, if_neg e1, if_neg e1]
          by_cases e2 : i = 2
          · rw [if_pos e2, if_pos e2, ro 6 (by decide) (by omega)]
          rw [if_neg e2, if_neg e2]
          by_cases e3 : i = 3
          · rw [if_pos e3, if_pos e3]
          rw [if_neg e3, if_neg e3]
          by_cases e4 : i = 4
          · rw [if_pos e4, if_pos e4]
          rw [if_neg e4, if_neg e4, if_neg h1, if_neg h1]
          by_cases e6 : i = 6
          · rw [if_pos e6, if_pos e6]
            congr 1
            funext j
            by_cases hj2 : j < nR
            · rw [if_pos hj2, if_pos hj2, ro (24 + j) (by omega) (by omega)]
            · rw [if_neg hj2, if_neg hj2]
          rw [if_neg e6, if_neg e6]
          by_cases e7 : i < 24
          · rw [if_pos e7, if_pos e7, hj (i - 16) (by unfold rv at h3; omega)]
          · rw [if_neg e7, if_neg e7, hg (i - 24) (by unfold rv at h3; omega)]
    · have q1 : q ≠ r 1 := fun e9 => hq2 1 (rv_lo (by decide)) (by rw [rlo 1 (by decide)]; exact e9)
      have q5 : q ≠ b := fun e9 => hq2 5 (Or.inr (Or.inl ⟨rfl, by omega⟩)) (by rw [r5]; exact e9)
      have qx : q ≠ x := fun e9 => by rw [e9, hx0] at hq; cases hq
      rw [m3 q q1 q5]
      refine frame q e hq (fun i hi e9 => ?_)
      by_cases h5 : i = 5
      · subst h5
        rcases hb with ⟨h1, h2⟩ | ⟨h1, h2⟩
        · exact q5 (by rw [h2]; exact e9)
        · unfold rv at hi; omega
      · exact hq2 i ((rve i).mpr (Or.inr (Or.inr ⟨h5, by unfold rv at hi; omega, hi⟩))) (by rw [ro i h5 (by unfold rv at hi; omega)]; exact e9)
  by_cases h0 : nJ = 0
  · have h1 := h.r1
    rw [z5 h0, h0] at h1
    refine q_add0 h1 hx (Or.inr (Or.inl rfl)) hK (fun b M2 b1 b2 m1 m2 m3 => fin b M2 (fun _ => none) (by omega) (Or.inr ⟨h0, b2⟩) (fun i hi => by omega) (fun _ _ => rfl) (by rw [h0]; exact m1) (by rw [h0]; exact m2) m3)
  · refine q_add1 h.r1 (by omega) hx (Or.inr (Or.inl rfl)) (w5 (by omega)) (h.r5 (by omega)) (fun M2 m1 m2 m3 => fin (r 5) M2 _ (w5 (by omega)) (Or.inl ⟨by omega, rfl⟩) (fun i hi => if_pos hi) (fun i hi => if_neg (by omega)) m1 m2 m3)
end REFC
