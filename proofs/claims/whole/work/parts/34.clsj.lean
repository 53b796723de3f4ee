/-! ===== THE CLASS: all pairs that newly meet ===== -/
def withM (q : JQ) (m : Nat) : JQ := (q.1, (q.2.1.1, q.2.1.2.1, Int32.ofNat m), q.2.2)
def newM (Q : Nat → JQ) (bits : Nat → Nat) (n i : Nat) : Nat := rowM (fun j => nrQ (Q i) (Q j)) (n - (i + 1)) (i + 1) (bits i)
def newC (Q : Nat → JQ) (bits : Nat → Nat) (n : Nat) : Nat → Nat → Nat
  | 0 => fun _ => 0
  | d + 1 => fun i => rowC (fun j => nrQ (Q i) (Q j)) (n - (i + 1)) (i + 1) (bits i) + newC Q bits n d (i + 1)
section CLSJ
variable {K : Cfg} {c : Nat → Nat} {A : CS} {M0 M : Mem}
theorem c_pairs_loop {n N : Nat} {k : Int32 → Mem → Prop} (hn6 : n ≤ 6) (hN : N ≤ 100000) (Q0 : Nat → JQ) (bits : Nat → Nat) (hq0 : ∀ j, j < n → qOk (Q0 j) ∧ good N (Q0 j).2.2) (hb : ∀ j, j < n → bits j < 64 ∧ (Q0 j).2.1.2.2 = Int32.ofNat (bits j)) :
    ∀ (d fuel i cnt : Nat) (Q : Nat → JQ) (M : Mem), i + d = n → d < fuel → picC K c (repQ A (Int32.ofNat n) Q) M0 M → (∀ j, j < i → newM Q0 bits n j < 64 ∧ Q j = withM (Q0 j) (newM Q0 bits n j)) → (∀ j, i ≤ j → Q j = Q0 j) →
      (∀ Q2 M2, (∀ j, j < n → newM Q0 bits n j < 64 ∧ Q2 j = withM (Q0 j) (newM Q0 bits n j)) → picC K c (repQ A (Int32.ofNat n) Q2) M0 M2 → k (Int32.ofNat (cnt + newC Q0 bits n d i)) M2) → f_X0_countNewPairs_b4 K k fuel (c 7) (Int32.ofNat cnt) (Int32.ofNat i) M := by
  intro d
  induction d with
  | zero =>
    intro fuel i cnt Q M hv hf h hQ hQ0 hk
    obtain ⟨fuel, rfl⟩ : ∃ e, fuel = e + 1 := ⟨fuel - 1, by omega⟩
    show f_X0_countNewPairs_b4_body K k (f_X0_countNewPairs_b4 K k fuel) (c 7) (Int32.ofNat cnt) (Int32.ofNat i) M
    unfold f_X0_countNewPairs_b4_body
    refine s_getI h.c7 rfl (s_ifT ?_ (hk Q M (fun j hj => hQ j (by omega)) h))
    show Int32.ofNat n ≤ _
    rw [i_le (by omega) (by omega)]; omega
  | succ d ih =>
    intro fuel i cnt Q M hv hf h hQ hQ0 hk
    obtain ⟨fuel, rfl⟩ : ∃ e, fuel = e + 1 := ⟨fuel - 1, by omega⟩
    show f_X0_countNewPairs_b4_body K k (f_X0_countNewPairs_b4 K k fuel) (c 7) (Int32.ofNat cnt) (Int32.ofNat i) M
    unfold f_X0_countNewPairs_b4_body
    refine s_getI h.c7 rfl (s_ifF ?_ (s_recv h.c7 (c_jumpAt h (by omega) ?_)))
    · show ¬ Int32.ofNat n ≤ _
      rw [i_le (by omega) (by omega)]; omega
    have hi : i < n := by omega
    have hform : ∀ j, ∃ m : Int32, Q j = ((Q0 j).1, ((Q0 j).2.1.1, (Q0 j).2.1.2.1, m), (Q0 j).2.2) := fun j => by
      by_cases hj : j < i
      · exact ⟨_, (hQ j hj).2⟩
      · exact ⟨(Q0 j).2.1.2.2, hQ0 j (by omega)⟩
    have hqi : Q i = Q0 i := hQ0 i (Nat.le_refl _)
    have hnr : (fun j => nrQ (Q i) (Q j)) = (fun j => nrQ (Q0 i) (Q0 j)) := by
      funext j
      obtain ⟨m, hm⟩ := hform j
      rw [hqi, hm]; rfl
    have hQok : ∀ j, j < n → qOk (Q j) ∧ good N (Q j).2.2 := fun j hj => by
      obtain ⟨m, hm⟩ := hform j
      rw [hm]; exact hq0 j hj
    have hup : up1 Q i ((Q i).1, ((Q i).2.1.1, (Q i).2.1.2.1, Int32.ofNat (bits i)), (Q i).2.2) = Q := by
      funext j
      by_cases hj : j = i
      · subst hj
        rw [up1_same, ← (hb j hi).2, ← hqi]
      · rw [up1_ne hj]
    rw [i_succ]
    refine c_row_loop (i := i) (n := n) (N := N) hn6 hi hN Q hQok (fun _ _ _ _ _ _ _ h9 => h9) (n - (i + 1)) mFuel (i + 1) (bits i) cnt M (by omega) (by omega) (by show _ < 4096; omega) (hb i hi).1 (by rw [hup]; exact h) (fun M2 h1 h2 => ?_)
    rw [hnr] at h1 h2 ⊢
    refine ih fuel (i + 1) _ _ M2 (by omega) (by omega) h2 (fun j hj => ?_) (fun j hj => ?_) (fun Q2 M3 h3 h4 => ?_)
    · by_cases hji : j = i
      · subst hji
        exact ⟨h1, by rw [up1_same, hqi]; rfl⟩
      · rw [up1_ne hji]; exact hQ j (by omega)
    · rw [up1_ne (by omega)]; exact hQ0 j (by omega)
    · have h5 := hk Q2 M3 h3 h4
      have e : newC Q0 bits n (d + 1) i = rowC (fun j => nrQ (Q0 i) (Q0 j)) (n - (i + 1)) (i + 1) (bits i) + newC Q0 bits n d (i + 1) := rfl
      rw [e, ← Nat.add_assoc] at h5
      exact h5
end CLSJ
