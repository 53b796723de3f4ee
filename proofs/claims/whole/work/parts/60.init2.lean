/-! ===== THE REFERENCE'S CONSTRUCTOR ===== -/
section INIT2
variable {K : Cfg} {M : Mem}
theorem picC.mle {c : Nat → Nat} {A : CS} {M2 : Mem} (h : picC K c A M M) (hm : ∀ i, i < 32 → M2 (c i) = M (c i)) : picC K c A M2 M2 := ⟨h.1, fun i hi => (hm i hi).trans (h.2.1 i hi), fun _ _ => rfl⟩
def T0 : RT := (fun _ => -1, fun _ => 0, 0, 0, 0)
theorem x_init {a0 : Nat} {k : Mem → Prop} (h : M a0 = some (.inr (10, [.int 0, .null, .null, .null, .null, .int 0, .int 0, .int 0, .int 0, .int 0, .int 0, .int 0, .int 0, .int 0]))) (hk : ∀ r M2, r 0 = a0 → picR K r 0 0 A0 T0 M2 M2 → (∀ q, M q ≠ none → q ≠ a0 → M2 q = M q) → (∀ i, 0 < i → i ≤ 4 → M (r i) = none) → k M2) : f_X9_init K a0 k M := by
  unfold f_X9_init f_Jx4a65c_init_da8c8 f_Jxc12de_init_da8c8 f_Jxa1e45_init_da8c8
  intro x1 h1
  have n1 := fresh_none h1
  have a1 : a0 ≠ x1 := fun e => by rw [e, n1] at h; cases h
  refine u_put (by show 0 < 3; decide) (u_put (by show 1 < 3; decide) (s_put ((mUp_ne a1).trans h) (by show 1 < 14; decide) ?_))
  intro x2 h2
  have n2 := fresh_none h2
  have a2 : a0 ≠ x2 := fun e => by rw [e, mUp_same] at n2; cases n2
  have b12 : x1 ≠ x2 := fun e => by rw [← e, mUp_ne a1.symm, mUp_same] at n2; cases n2
  refine u_put (by show 0 < 3; decide) (u_put (by show 1 < 3; decide) (s_put ((mUp_ne a2).trans mUp_same) (by show 2 < 14; decide) ?_))
  intro x3 h3
  have n3 := fresh_none h3
  have a3 : a0 ≠ x3 := fun e => by rw [e, mUp_same] at n3; cases n3
  have b23 : x2 ≠ x3 := fun e => by rw [← e, mUp_ne a2.symm, mUp_same] at n3; cases n3
  have b13 : x1 ≠ x3 := fun e => by rw [← e, mUp_ne a1.symm, mUp_ne b12, mUp_ne a1.symm, mUp_same] at n3; cases n3
  refine s_put ((mUp_ne a3).trans mUp_same) (by show 3 < 14; decide) ?_
  intro x4 h4
  have n4 := fresh_none h4
  have a4 : a0 ≠ x4 := fun e => by rw [e, mUp_same] at n4; cases n4
  have b34 : x3 ≠ x4 := fun e => by rw [← e, mUp_ne a3.symm, mUp_same] at n4; cases n4
  have b24 : x2 ≠ x4 := fun e => by rw [← e, mUp_ne a2.symm, mUp_ne b23, mUp_ne a2.symm, mUp_same] at n4; cases n4
  have b14 : x1 ≠ x4 := fun e => by rw [← e, mUp_ne a1.symm, mUp_ne b13, mUp_ne a1.symm, mUp_ne b12, mUp_ne a1.symm, mUp_same] at n4; cases n4
  refine s_put ((mUp_ne a4).trans mUp_same) (by show 4 < 14; decide) (u_put (by show 6 < 14; decide) ?_)
  have m2 : M x2 = none := by rw [mUp_ne a2.symm, mUp_ne b12.symm] at n2; exact n2
  have m3 : M x3 = none := by rw [mUp_ne a3.symm, mUp_ne b23.symm, mUp_ne a3.symm, mUp_ne b13.symm] at n3; exact n3
  have m4 : M x4 = none := by rw [mUp_ne a4.symm, mUp_ne b34.symm, mUp_ne a4.symm, mUp_ne b24.symm, mUp_ne a4.symm, mUp_ne b14.symm] at n4; exact n4
  refine hk (fun i => if i = 0 then a0 else if i = 1 then x1 else if i = 2 then x2 else if i = 3 then x3 else if i = 4 then x4 else K.2.2 1) _ rfl ⟨⟨⟨by decide, by decide⟩, fun _ => rfl, fun _ => rfl, fun h9 => absurd h9 (Nat.lt_irrefl 0), fun h9 => absurd h9 (Nat.lt_irrefl 0)⟩, fun i j hi hj e => ?_, fun i hi => ?_, fun _ _ hq _ => hq⟩ (fun q hq hq2 => ?_) (fun i i1 i2 => ?_)
  · have hi4 : i ≤ 4 := by unfold rv at hi; omega
    have hj4 : j ≤ 4 := by unfold rv at hj; omega
    rcases (show i = 0 ∨ i = 1 ∨ i = 2 ∨ i = 3 ∨ i = 4 by omega) with rfl | rfl | rfl | rfl | rfl <;> rcases (show j = 0 ∨ j = 1 ∨ j = 2 ∨ j = 3 ∨ j = 4 by omega) with rfl | rfl | rfl | rfl | rfl <;> first | rfl | exact absurd e a1 | exact absurd e a1.symm | exact absurd e a2 | exact absurd e a2.symm | exact absurd e a3 | exact absurd e a3.symm | exact absurd e a4 | exact absurd e a4.symm | exact absurd e b12 | exact absurd e b12.symm | exact absurd e b13 | exact absurd e b13.symm | exact absurd e b14 | exact absurd e b14.symm | exact absurd e b23 | exact absurd e b23.symm | exact absurd e b24 | exact absurd e b24.symm | exact absurd e b34 | exact absurd e b34.symm
  · have hi4 : i ≤ 4 := by unfold rv at hi; omega
    rcases (show i = 0 ∨ i = 1 ∨ i = 2 ∨ i = 3 ∨ i = 4 by omega) with rfl | rfl | rfl | rfl | rfl
    · show mUp _ a0 _ a0 = _
      rw [mUp_same]; rfl
    · show mUp _ a0 _ x1 = _
      rw [mUp_ne a1.symm, mUp_ne b14, mUp_ne a1.symm, mUp_ne b13, mUp_ne a1.symm, mUp_ne b12, mUp_ne a1.symm, mUp_same]; rfl
    · show mUp _ a0 _ x2 = _
      rw [mUp_ne a2.symm, mUp_ne b24, mUp_ne a2.symm, mUp_ne b23, mUp_ne a2.symm, mUp_same]; rfl
    · show mUp _ a0 _ x3 = _
      rw [mUp_ne a3.symm, mUp_ne b34, mUp_ne a3.symm, mUp_same]; rfl
    · show mUp _ a0 _ x4 = _
      rw [mUp_ne a4.symm, mUp_same]; rfl
  · have q1 : q ≠ x1 := fun e => hq (by rw [e]; exact n1)
    have q2 : q ≠ x2 := fun e => hq (by rw [e]; exact m2)
    have q3 : q ≠ x3 := fun e => hq (by rw [e]; exact m3)
    have q4 : q ≠ x4 := fun e => hq (by rw [e]; exact m4)
    rw [mUp_ne hq2, mUp_ne q4, mUp_ne hq2, mUp_ne q3, mUp_ne hq2, mUp_ne q2, mUp_ne hq2, mUp_ne q1]
  · rcases (show i = 1 ∨ i = 2 ∨ i = 3 ∨ i = 4 by omega) with rfl | rfl | rfl | rfl
    · exact n1
    · exact m2
    · exact m3
    · exact m4
end INIT2
