/-! ===== the reference: one more rig; the calls that make one ===== -/
section REFD
variable {K : Cfg} {r : Nat → Nat} {nJ nR : Nat} {A : CS} {T : RT} {M0 M : Mem} {ln : List Nat}
/-- one more rig at the address x -/
theorem r_addG {k : Int32 → Mem → Prop} {x : Nat} {A2 : CS} {T2 : RT} (hK : K.2.2 1 < K.2.2 0) (h : picR K r nJ nR A T M0 M) (h8 : nR < 8) (hx : M x = some (.inr (9, gfl A2 nR))) (hxr : ∀ i, rv nJ nR i → r i ≠ x) (hx0 : M0 x = none) (hT : t1 T2 = t1 T ∧ t2 T2 = t2 T + 1) (hmod : rmod r A2 T2 = rmod r A T) (eX : cX A2 = cX A) (eY : cY A2 = cY A) (hj : ∀ k, k < nJ → rjf A2 T2 k = rjf A T k) (hg : ∀ k, k < nR → gfl A2 k = gfl A k)
    (hk : ∀ r2 M2, rmore r r2 nJ nR nJ (nR + 1) M0 → r2 0 = r 0 → picR K r2 nJ (nR + 1) A2 T2 M0 M2 → k 1 M2) : f_Jx4a65c_add_9ea2d K (r 2) x k M := by
  obtain ⟨⟨⟨n1, n2⟩, z5, z6, w5, w6⟩, inj, cells, frame⟩ := id h
  have fin : ∀ (b : Nat) (M2 : Mem) (f : Nat → Option Nat), b ≠ K.2.2 1 → ((0 < nR ∧ b = r 6) ∨ (nR = 0 ∧ M b = none)) → (∀ i, i < nR → f i = some (r (24 + i))) → (∀ i, nR ≤ i → f i = none) → M2 (r 2) = some (lobj (t2 T + 1) b (nR + 1)) → M2 b = some (oarr K (va_up f nR (some x))) → (∀ q, q ≠ r 2 → q ≠ b → M2 q = M q) → k 1 M2 := by
    intro b M2 f hb1 hb hf hf2 m1 m2 m3
    have hbx : b ≠ x := by
      rcases hb with ⟨h1, h2⟩ | ⟨h1, h2⟩
      · rw [h2]; exact hxr 6 (Or.inr (Or.inr (Or.inl ⟨rfl, h1⟩)))
      · intro e; rw [e, hx] at h2; cases h2
    have hbr : ∀ i, rv nJ nR i → i ≠ 6 → r i ≠ b := by
      intro i hi hi5
      rcases hb with ⟨h1, h2⟩ | ⟨h1, h2⟩
      · rw [h2]; exact fun e => hi5 (inj _ _ hi (Or.inr (Or.inr (Or.inl ⟨rfl, h1⟩))) e)
      · exact h.apart h2 i hi
    have hb0 : 0 < nR ∨ M0 b = none := by
      rcases hb with ⟨h1, h2⟩ | ⟨h1, h2⟩
      · exact Or.inl h1
      · exact Or.inr (h.nil0 h2)
    have rve : ∀ i, rv nJ (nR + 1) i ↔ i = 6 ∨ i = 24 + nR ∨ (i ≠ 6 ∧ i ≠ 24 + nR ∧ rv nJ nR i) := by
      intro i; unfold rv; omega
    have r5 : (fun i => if i = 24 + nR then x else if i = 6 then b else r i) 6 = b := by show (if 6 = 24 + nR then x else if 6 = 6 then b else r 6) = b; rw [if_neg (by omega), if_pos rfl]
    have rx : (fun i => if i = 24 + nR then x else if i = 6 then b else r i) (24 + nR) = x := by show (if 24 + nR = 24 + nR then x else _) = x; rw [if_pos rfl]
    have ro : ∀ i, i ≠ 6 → i ≠ 24 + nR → (fun i => if i = 24 + nR then x else if i = 6 then b else r i) i = r i := fun i h1 h2 => by show (if i = 24 + nR then x else if i = 6 then b else r i) = r i; rw [if_neg h2, if_neg h1]
    generalize (fun i => if i = 24 + nR then x else if i = 6 then b else r i) = r2 at r5 rx ro
    have rlo : ∀ i, i ≤ 4 → r2 i = r i := fun i hi => ro i (by omega) (by omega)
    refine hk r2 M2 (fun i hi => ?_) (rlo 0 (by decide)) ⟨⟨⟨n1, by omega⟩, fun e => by rw [ro 5 (by decide) (by omega)]; exact z5 e, fun e => by omega, fun e => by rw [ro 5 (by decide) (by omega)]; exact w5 e, fun _ => by rw [r5]; exact hb1⟩, fun i j hi hj e => ?_, fun i hi => ?_, fun q e hq hq2 => ?_⟩
    · rcases (rve i).mp hi with rfl | rfl | ⟨h1, h2, h3⟩
      · rcases hb with ⟨h4, h5⟩ | ⟨h4, h5⟩
        · exact Or.inl ⟨Or.inr (Or.inr (Or.inl ⟨rfl, h4⟩)), by rw [r5, h5]⟩
        · exact Or.inr (by rw [r5]; exact h.nil0 h5)
      · exact Or.inr (by rw [rx]; exact hx0)
      · exact Or.inl ⟨h3, ro i h1 h2⟩
    · rcases (rve i).mp hi with rfl | rfl | ⟨h1, h2, h3⟩ <;> rcases (rve j).mp hj with rfl | rfl | ⟨g1, g2, g3⟩
      · rfl
      · rw [r5, rx] at e; exact absurd e hbx
      · rw [r5, ro j g1 g2] at e; exact absurd e.symm (hbr j g3 g1)
      · rw [r5, rx] at e; exact absurd e.symm hbx
      · rfl
      · rw [rx, ro j g1 g2] at e; exact absurd e.symm (hxr j g3)
      · rw [r5, ro i h1 h2] at e; exact absurd e (hbr i h3 h1)
      · rw [rx, ro i h1 h2] at e; exact absurd e (hxr i h3)
      · rw [ro i h1 h2, ro j g1 g2] at e; exact inj i j h3 g3 e
    · have hmod2 : rmod r2 A2 T2 = rmod r A T := by rw [← hmod]; unfold rmod; rw [rlo 1 (by decide), rlo 2 (by decide), rlo 3 (by decide), rlo 4 (by decide)]
      have old : ∀ i, rv nJ nR i → i ≠ 2 → i ≠ 6 → i ≠ 24 + nR → M2 (r2 i) = some (cellR K r nJ nR A T i) := fun i hi h1 h5 h6 => by
        rw [ro i h5 h6, m3 _ (fun e => h1 (inj _ _ hi (rv_lo (by decide)) e)) (hbr i hi h5)]
        exact cells i hi
      rcases (rve i).mp hi with rfl | rfl | ⟨h1, h2, h3⟩
      · rw [r5, m2]
        show some (oarr K (va_up f nR (some x))) = some (oarr K (fun j => if j < nR + 1 then some (r2 (24 + j)) else none))
        congr 2
        funext j
        unfold va_up
        by_cases hj1 : j = nR
        · rw [if_pos hj1, if_pos (by omega), hj1, rx]
        · rw [if_neg hj1]
          by_cases hj2 : j < nR
          · rw [if_pos (by omega), hf j hj2, ro (24 + j) (by omega) (by omega)]
          · rw [if_neg (by omega), hf2 j (by omega)]
      · rw [rx, cellR_g, m3 x (fun e => hxr 2 (rv_lo (by decide)) e.symm) (fun e => hbx e.symm)]
        exact hx
      · by_cases e2 : i = 2
        · subst e2
          rw [rlo 2 (by decide), m1]
          show some (lobj (t2 T + 1) b (nR + 1)) = some (lobj (t2 T2) (r2 6) (nR + 1))
          rw [hT.2, r5]
        · rw [old i h3 e2 h1 h2]
          congr 1
          unfold cellR
          rw [hmod2, hT.1, eX, eY]
          by_cases e0 : i = 0
          · rw [if_pos e0, if_pos e0]
          rw [if_neg e0, if_neg e0]
          by_cases e1 : i = 1
          · rw [if_pos e1, if_pos e1, ro 5 (by decide) (by omega)]
          rw [if_neg e1, if_neg e1, if_neg e2, if_neg e2]
          by_cases e3 : i = 3
          · rw [if_pos e3, if_pos e3]
          rw [if_neg e3, if_neg e3]
          by_cases e4 : i = 4
          · rw [if_pos e4, if_pos e4]
          rw [if_neg e4, if_neg e4]
          by_cases e5 : i = 5
          · rw [if_pos e5, if_pos e5]
            congr 1
            funext j
            by_cases hj2 : j < nJ
            · rw [if_pos hj2, if_pos hj2, ro (16 + j) (by omega) (by omega)]
            · rw [if_neg hj2, if_neg hj2]
          rw [if_neg e5, if_neg e5, if_neg h1, if_neg h1]
          by_cases e7 : i < 24
          · rw [if_pos e7, if_pos e7, hj (i - 16) (by unfold rv at h3; omega)]
          · rw [if_neg e7, if_neg e7, hg (i - 24) (by unfold rv at h3; omega)]
    · have q1 : q ≠ r 2 := fun e9 => hq2 2 (rv_lo (by decide)) (by rw [rlo 2 (by decide)]; exact e9)
      have q5 : q ≠ b := fun e9 => hq2 6 (Or.inr (Or.inr (Or.inl ⟨rfl, by omega⟩))) (by rw [r5]; exact e9)
      have qx : q ≠ x := fun e9 => by rw [e9, hx0] at hq; cases hq
      rw [m3 q q1 q5]
      refine frame q e hq (fun i hi e9 => ?_)
      by_cases h5 : i = 6
      · subst h5
        rcases hb with ⟨h1, h2⟩ | ⟨h1, h2⟩
        · exact q5 (by rw [h2]; exact e9)
        · unfold rv at hi; omega
      · exact hq2 i ((rve i).mpr (Or.inr (Or.inr ⟨h5, by unfold rv at hi; omega, hi⟩))) (by rw [ro i h5 (by unfold rv at hi; omega)]; exact e9)
  by_cases h0 : nR = 0
  · have h1 := h.r2
    rw [z6 h0, h0] at h1
    refine q_add0 h1 hx (Or.inr (Or.inr rfl)) hK (fun b M2 b1 b2 m1 m2 m3 => fin b M2 (fun _ => none) (by omega) (Or.inr ⟨h0, b2⟩) (fun i hi => by omega) (fun _ _ => rfl) (by rw [h0]; exact m1) (by rw [h0]; exact m2) m3)
  · refine q_add1 h.r2 (by omega) hx (Or.inr (Or.inr rfl)) (w6 (by omega)) (h.r6 (by omega)) (fun M2 m1 m2 m3 => fin (r 6) M2 _ (w6 (by omega)) (Or.inl ⟨by omega, rfl⟩) (fun i hi => if_pos hi) (fun i hi => if_neg (by omega)) m1 m2 m3)
end REFD
