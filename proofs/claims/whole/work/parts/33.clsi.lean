/-! ===== THE CLASS: the pairs that newly meet ===== -/
def nrQ (q q2 : JQ) : Bool := nearZ q.1.1 q.2.2.1 q.2.2.2.2.1 q.2.2.2.2.2 q2.1.1 q2.2.2.1 q2.2.2.2.2.1 q2.2.2.2.2.2
def rowM (near : Nat → Bool) : Nat → Nat → Nat → Nat
  | 0 => fun _ m => m
  | d + 1 => fun j m => rowM near d (j + 1) (if !Nat.testBit m j && near j then m ||| 2 ^ j else m)
def rowC (near : Nat → Bool) : Nat → Nat → Nat → Nat
  | 0 => fun _ _ => 0
  | d + 1 => fun j m => (if !Nat.testBit m j && near j then 1 else 0) + rowC near d (j + 1) (if !Nat.testBit m j && near j then m ||| 2 ^ j else m)
section CLSI
variable {K : Cfg} {c : Nat → Nat} {A : CS} {M0 M : Mem}
theorem c_isNearQ {i j N : Nat} {k : Int32 → Mem → Prop} (h : picC K c A M0 M) (hi : i < 7) (hj : j < 7) (q1 : qOk (cQ A i)) (q2 : qOk (cQ A j)) (g1 : good N (cQ A i).2.2) (g2 : good N (cQ A j).2.2) (hN : N ≤ 100000) (hk : k (if nrQ (cQ A i) (cQ A j) = true then 1 else 0) M) : f_X1_isNear K (c (9 + i)) (c (9 + j)) k M := by
  obtain ⟨a1, -, a3, a4⟩ := g1
  obtain ⟨b1, -, b3, b4⟩ := g2
  exact p_isNear (h.cq hi) (h.cq hj) a1 q1.1 b1 q2.1 (by omega) (by omega) (by omega) (by omega) hk
theorem c_row_loop {i n N : Nat} {lp4 : Nat → Int32 → Int32 → Mem → Prop} {k : Int32 → Mem → Prop} (hn6 : n ≤ 6) (hi : i < n) (hN : N ≤ 100000) (Q0 : Nat → JQ) (hq0 : ∀ j, j < n → qOk (Q0 j) ∧ good N (Q0 j).2.2)
    (hk : ∀ (m cnt : Nat) M2, m < 64 → cnt ≤ 1000000 → picC K c (repQ A (Int32.ofNat n) (up1 Q0 i ((Q0 i).1, ((Q0 i).2.1.1, (Q0 i).2.1.2.1, Int32.ofNat m), (Q0 i).2.2))) M0 M2 → True → lp4 (c 7) (Int32.ofNat cnt) (Int32.ofNat (i + 1)) M2 → lp4 (c 7) (Int32.ofNat cnt) (Int32.ofNat (i + 1)) M2) :
    ∀ (d fuel j m cnt : Nat) (M : Mem), j + d = n → i < j → d < fuel → m < 64 → picC K c (repQ A (Int32.ofNat n) (up1 Q0 i ((Q0 i).1, ((Q0 i).2.1.1, (Q0 i).2.1.2.1, Int32.ofNat m), (Q0 i).2.2))) M0 M →
      (∀ M2, rowM (fun j => nrQ (Q0 i) (Q0 j)) d j m < 64 → picC K c (repQ A (Int32.ofNat n) (up1 Q0 i ((Q0 i).1, ((Q0 i).2.1.1, (Q0 i).2.1.2.1, Int32.ofNat (rowM (fun j => nrQ (Q0 i) (Q0 j)) d j m)), (Q0 i).2.2))) M0 M2 → lp4 (c 7) (Int32.ofNat (cnt + rowC (fun j => nrQ (Q0 i) (Q0 j)) d j m)) (Int32.ofNat (i + 1)) M2) →
      f_X0_countNewPairs_b23 K k lp4 fuel (c 7) (Int32.ofNat cnt) (Int32.ofNat i) (c (9 + i)) (Int32.ofNat j) M := by
  intro d
  induction d with
  | zero =>
    intro fuel j m cnt M hv hij hf hm h hk2
    obtain ⟨fuel, rfl⟩ : ∃ e, fuel = e + 1 := ⟨fuel - 1, by omega⟩
    show f_X0_countNewPairs_b23_body K k lp4 (f_X0_countNewPairs_b23 K k lp4 fuel) (c 7) (Int32.ofNat cnt) (Int32.ofNat i) (c (9 + i)) (Int32.ofNat j) M
    unfold f_X0_countNewPairs_b23_body
    refine s_getI h.c7 rfl (s_ifT ?_ ?_)
    · show Int32.ofNat n ≤ _
      rw [i_le (by omega) (by omega)]; omega
    · rw [i_succ]
      exact hk2 M hm h
  | succ d ih =>
    intro fuel j m cnt M hv hij hf hm h hk2
    obtain ⟨fuel, rfl⟩ : ∃ e, fuel = e + 1 := ⟨fuel - 1, by omega⟩
    show f_X0_countNewPairs_b23_body K k lp4 (f_X0_countNewPairs_b23 K k lp4 fuel) (c 7) (Int32.ofNat cnt) (Int32.ofNat i) (c (9 + i)) (Int32.ofNat j) M
    unfold f_X0_countNewPairs_b23_body
    have hj6 : j < 6 := by omega
    have hci := h.cq (k := i) (by omega)
    have ei : cQ (repQ A (Int32.ofNat n) (up1 Q0 i ((Q0 i).1, ((Q0 i).2.1.1, (Q0 i).2.1.2.1, Int32.ofNat m), (Q0 i).2.2))) i = ((Q0 i).1, ((Q0 i).2.1.1, (Q0 i).2.1.2.1, Int32.ofNat m), (Q0 i).2.2) := up1_same
    have ej : cQ (repQ A (Int32.ofNat n) (up1 Q0 i ((Q0 i).1, ((Q0 i).2.1.1, (Q0 i).2.1.2.1, Int32.ofNat m), (Q0 i).2.2))) j = Q0 j := up1_ne (by omega)
    rw [ei] at hci
    have no : (!Nat.testBit m j && nrQ (Q0 i) (Q0 j)) = false → f_X0_countNewPairs_b75 K k lp4 (f_X0_countNewPairs_b23 K k lp4 fuel) (c 7) (Int32.ofNat cnt) (Int32.ofNat i) (c (9 + i)) (Int32.ofNat j) M := by
      intro hno
      unfold f_X0_countNewPairs_b75
      rw [i_succ]
      refine ih fuel (j + 1) m cnt M (by omega) (by omega) (by omega) hm h (fun M2 h1 h2 => ?_)
      have e1 : rowM (fun j => nrQ (Q0 i) (Q0 j)) (d + 1) j m = rowM (fun j => nrQ (Q0 i) (Q0 j)) d (j + 1) (if (!Nat.testBit m j && nrQ (Q0 i) (Q0 j)) = true then m ||| 2 ^ j else m) := rfl
      have e2 : rowC (fun j => nrQ (Q0 i) (Q0 j)) (d + 1) j m = (if (!Nat.testBit m j && nrQ (Q0 i) (Q0 j)) = true then 1 else 0) + rowC (fun j => nrQ (Q0 i) (Q0 j)) d (j + 1) (if (!Nat.testBit m j && nrQ (Q0 i) (Q0 j)) = true then m ||| 2 ^ j else m) := rfl
      have hk3 := hk2 M2
      rw [e1, e2, if_neg (by rw [hno]; decide), if_neg (by rw [hno]; decide), Nat.zero_add] at hk3
      exact hk3 h1 h2
    refine s_getI h.c7 rfl (s_ifF ?_ (s_getI hci rfl (s_if (fun c1 => s_recv h.c7 (c_jumpAt h hj6 (s_recv hci ?_))) (fun c1 => no ?_))))
    · show ¬ Int32.ofNat n ≤ _
      rw [i_le (by omega) (by omega)]; omega
    · have c2 : Nat.testBit m j = false := (bit_get m hm j hj6).mp c1
      refine c_isNearQ (i := i) (j := j) (N := N) h (by omega) (by omega) (by rw [ei]; exact (hq0 i hi).1) (by rw [ej]; exact (hq0 j (by omega)).1) (by rw [ei]; exact (hq0 i hi).2) (by rw [ej]; exact (hq0 j (by omega)).2) hN ?_
      rw [ei, ej]
      by_cases hz : nrQ (Q0 i) (Q0 j) = true
      · rw [if_pos (show nrQ ((Q0 i).1, ((Q0 i).2.1.1, (Q0 i).2.1.2.1, Int32.ofNat m), (Q0 i).2.2) (Q0 j) = true from hz)]
        have hyes : (!Nat.testBit m j && nrQ (Q0 i) (Q0 j)) = true := by rw [c2, hz]; rfl
        obtain ⟨b1, b2⟩ := bit_set m hm j hj6
        refine s_ifF (by decide) (s_getI hci rfl ?_)
        rw [b1]
        have hs := c_setQ (k := i) (q := ((Q0 i).1, ((Q0 i).2.1.1, (Q0 i).2.1.2.1, Int32.ofNat (m ||| 2 ^ j)), (Q0 i).2.2)) h (by omega)
        refine s_put hci (by show 10 < 11; decide) ?_
        have h2 : picC K c (repQ A (Int32.ofNat n) (up1 Q0 i ((Q0 i).1, ((Q0 i).2.1.1, (Q0 i).2.1.2.1, Int32.ofNat (m ||| 2 ^ j)), (Q0 i).2.2))) M0 (mUp M (c (9 + i)) (jcq ((Q0 i).1, ((Q0 i).2.1.1, (Q0 i).2.1.2.1, Int32.ofNat (m ||| 2 ^ j)), (Q0 i).2.2))) := by
          have h3 : setQ (repQ A (Int32.ofNat n) (up1 Q0 i ((Q0 i).1, ((Q0 i).2.1.1, (Q0 i).2.1.2.1, Int32.ofNat m), (Q0 i).2.2))) i ((Q0 i).1, ((Q0 i).2.1.1, (Q0 i).2.1.2.1, Int32.ofNat (m ||| 2 ^ j)), (Q0 i).2.2) = repQ A (Int32.ofNat n) (up1 Q0 i ((Q0 i).1, ((Q0 i).2.1.1, (Q0 i).2.1.2.1, Int32.ofNat (m ||| 2 ^ j)), (Q0 i).2.2)) := by
            show repQ A (Int32.ofNat n) (up1 (up1 Q0 i _) i _) = _
            rw [up1_up1]
          rw [← h3]; exact hs
        show f_X0_countNewPairs_b75 K k lp4 (f_X0_countNewPairs_b23 K k lp4 fuel) (c 7) (Int32.ofNat cnt + 1) (Int32.ofNat i) (c (9 + i)) (Int32.ofNat j) (mUp M (c (9 + i)) (jcq ((Q0 i).1, ((Q0 i).2.1.1, (Q0 i).2.1.2.1, Int32.ofNat (m ||| 2 ^ j)), (Q0 i).2.2)))
        unfold f_X0_countNewPairs_b75
        rw [i_succ, i_succ]
        refine ih fuel (j + 1) (m ||| 2 ^ j) (cnt + 1) _ (by omega) (by omega) (by omega) b2 h2 (fun M2 h1 h2 => ?_)
        have e1 : rowM (fun j => nrQ (Q0 i) (Q0 j)) (d + 1) j m = rowM (fun j => nrQ (Q0 i) (Q0 j)) d (j + 1) (if (!Nat.testBit m j && nrQ (Q0 i) (Q0 j)) = true then m ||| 2 ^ j else m) := rfl
        have e2 : rowC (fun j => nrQ (Q0 i) (Q0 j)) (d + 1) j m = (if (!Nat.testBit m j && nrQ (Q0 i) (Q0 j)) = true then 1 else 0) + rowC (fun j => nrQ (Q0 i) (Q0 j)) d (j + 1) (if (!Nat.testBit m j && nrQ (Q0 i) (Q0 j)) = true then m ||| 2 ^ j else m) := rfl
        have hk3 := hk2 M2
        rw [e1, e2, if_pos hyes, if_pos hyes, ← Nat.add_assoc] at hk3
        exact hk3 h1 h2
      · rw [if_neg (show ¬ nrQ ((Q0 i).1, ((Q0 i).2.1.1, (Q0 i).2.1.2.1, Int32.ofNat m), (Q0 i).2.2) (Q0 j) = true from hz)]
        exact s_ifT rfl (no (by rw [Bool.eq_false_iff.mpr hz, Bool.and_false]))
    · have c2 : Nat.testBit m j = true := by
        cases hb : Nat.testBit m j with
        | true => rfl
        | false => exact absurd ((bit_get m hm j hj6).mpr hb) c1
      rw [c2]; rfl
end CLSI
