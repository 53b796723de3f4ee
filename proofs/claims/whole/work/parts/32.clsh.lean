/-! ===== THE CLASS: a tick of the flight ===== -/
theorem bit_get : ∀ m < 64, ∀ j < 6, (Int32.ofNat m &&& (1 <<< (Int32.ofNat j &&& 31)) = 0) ↔ Nat.testBit m j = false := by decide +kernel
theorem bit_set : ∀ m < 64, ∀ j < 6, (Int32.ofNat m ||| (1 <<< (Int32.ofNat j &&& 31))) = Int32.ofNat (m ||| 2 ^ j) ∧ m ||| 2 ^ j < 64 := by decide +kernel
def tkQ (A : CS) (t : Nat) (q : JQ) : JQ := (q.1, q.2.1, if q.2.1.2.1 ≤ Int32.ofNat t then qF A q q.2.2 else q.2.2)
section CLSH
variable {K : Cfg} {c : Nat → Nat} {A : CS} {M0 M : Mem} {nJ nR : Nat} {ln : List Nat} {QX : String → Mem → Prop}
theorem c_isDownQ {i : Nat} {k : Int32 → Mem → Prop} (h : picC K c A M0 M) (hi : i < 7) (hm : (cQ A i).2.2.1 ≤ 10) (hk : k (if (cQ A i).2.2.1 = 0 then 1 else 0) M) : f_X1_isDown K (c (9 + i)) k M := p_isDown (h.cq hi) hm hk
theorem c_goOnQ {i N : Nat} {k : Mem → Prop} (h : picC K c A M0 M) (hi : i < 7) (hX : wbd (cX A)) (hY : wbd (cY A)) (hq : qOk (cQ A i)) (hs : good N (cQ A i).2.2) (hN : N ≤ 100000) (h0 : (cQ A i).2.2.1 ≠ 0) (hk : ∀ M2, picC K c (setQ A i ((cQ A i).1, (cQ A i).2.1, qF A (cQ A i) (cQ A i).2.2)) M0 M2 → k M2) : f_X1_goOn K (c (9 + i)) (c 3) k M := by
  obtain ⟨q1, q2, q3, q4, q5⟩ := hq
  obtain ⟨w1, w2, w3⟩ := h.wne hi
  have h9 := hk _ (c_setQ h hi)
  rw [← h.mup hi]
  exact p_goOnS h.wd w1 w2 w3 hX hY h0 hs hN q1 q2 q3 q4 q5 h9
theorem c_tick_loop {n t N : Nat} {k : Int32 → Mem → Prop} (hn6 : n ≤ 6) (ht : t ≤ 5000) (hX : wbd (cX A)) (hY : wbd (cY A)) (hN : N ≤ 100000) (Q0 : Nat → JQ) (hq0 : ∀ j, j < n → qOk (Q0 j) ∧ good N (Q0 j).2.2)
    (hk : ∀ Q2 M2 ov, (∀ j, j < n → Q2 j = tkQ A t (Q0 j)) → ((ov = 1 ∧ ∀ j, j < n → (tkQ A t (Q0 j)).2.2.1 = 0) ∨ (ov = 0 ∧ ∃ j, j < n ∧ (tkQ A t (Q0 j)).2.2.1 ≠ 0)) → picC K c (repQ A (Int32.ofNat n) Q2) M0 M2 → k ov M2) :
    ∀ (d fuel v : Nat) (Q : Nat → JQ) (M : Mem) (ov : Int32), v + d = n → d < fuel → picC K c (repQ A (Int32.ofNat n) Q) M0 M → (∀ j, j < v → Q j = tkQ A t (Q0 j)) → (∀ j, v ≤ j → Q j = Q0 j) → ((ov = 1 ∧ ∀ j, j < v → (tkQ A t (Q0 j)).2.2.1 = 0) ∨ (ov = 0 ∧ ∃ j, j < v ∧ (tkQ A t (Q0 j)).2.2.1 ≠ 0)) → f_X0_goOn_b5 K k fuel (c 7) (Int32.ofNat t) (c 3) ov (Int32.ofNat v) M := by
  intro d
  induction d with
  | zero =>
    intro fuel v Q M ov hv hf h hQ hQ0 hov
    obtain ⟨fuel, rfl⟩ : ∃ e, fuel = e + 1 := ⟨fuel - 1, by omega⟩
    show f_X0_goOn_b5_body K k (f_X0_goOn_b5 K k fuel) (c 7) (Int32.ofNat t) (c 3) ov (Int32.ofNat v) M
    unfold f_X0_goOn_b5_body
    have hvn : v = n := by omega
    subst hvn
    refine s_getI h.c7 rfl (s_ifT ?_ (s_as ?_ (hk Q M ov hQ hov h)))
    · show Int32.ofNat v ≤ _
      rw [i_le (by omega) (by omega)]; omega
    · rcases hov with h1 | h1
      · exact Or.inr h1.1
      · exact Or.inl h1.1
  | succ d ih =>
    intro fuel v Q M ov hv hf h hQ hQ0 hov
    obtain ⟨fuel, rfl⟩ : ∃ e, fuel = e + 1 := ⟨fuel - 1, by omega⟩
    show f_X0_goOn_b5_body K k (f_X0_goOn_b5 K k fuel) (c 7) (Int32.ofNat t) (c 3) ov (Int32.ofNat v) M
    unfold f_X0_goOn_b5_body
    have hvq : Q v = Q0 v := hQ0 v (Nat.le_refl _)
    obtain ⟨ok, gd⟩ := hq0 v (by omega)
    rw [← hvq] at ok gd
    refine s_getI h.c7 rfl (s_ifF ?_ (s_recv h.c7 (c_jumpAt h (by omega) (s_getI (h.cq (k := v) (by omega)) rfl ?_))))
    · show ¬ Int32.ofNat n ≤ _
      rw [i_le (by omega) (by omega)]; omega
    -- behind the step: whether it is down
    have b45 : ∀ (Q2 : Nat → JQ) (M : Mem), picC K c (repQ A (Int32.ofNat n) Q2) M0 M → Q2 v = tkQ A t (Q0 v) → (∀ j, j ≠ v → Q2 j = Q j) → f_X0_goOn_b45 K k (f_X0_goOn_b5 K k fuel) (c 7) (Int32.ofNat t) (c 3) ov (Int32.ofNat v) (c (9 + v)) M := by
      intro Q2 M h hv2 hne
      have hq2 : ∀ j, j < v + 1 → Q2 j = tkQ A t (Q0 j) := fun j hj => by
        by_cases hjv : j = v
        · rw [hjv]; exact hv2
        · rw [hne j hjv]; exact hQ j (by omega)
      have hq3 : ∀ j, v + 1 ≤ j → Q2 j = Q0 j := fun j hj => by rw [hne j (by omega)]; exact hQ0 j (by omega)
      have hm10 : (Q2 v).2.2.1 ≤ 10 := by
        rw [hv2]
        unfold tkQ
        rw [← hvq]
        dsimp only
        split
        · exact (good_stp hX hY ok.2.1 ok.2.2.1 ok.2.2.2.1 gd).1
        · exact gd.1
      unfold f_X0_goOn_b45 f_X0_goOn_b61 f_X0_goOn_b62
      refine s_if (fun c1 => ?_) (fun c1 => s_recv (h.cq (k := v) (by omega)) (c_isDownQ (i := v) h (by omega) hm10 ?_))
      · rw [i_succ]
        refine ih fuel (v + 1) Q2 M 0 (by omega) (by omega) h hq2 hq3 (Or.inr ⟨rfl, ?_⟩)
        rcases hov with h1 | ⟨-, j, h1, h2⟩
        · rw [h1.1] at c1; exact absurd c1 (by decide)
        · exact ⟨j, by omega, h2⟩
      · have hov1 := hov.resolve_right (fun h1 => c1 h1.1)
        by_cases hz : (Q2 v).2.2.1 = 0
        · rw [if_pos (show (cQ (repQ A (Int32.ofNat n) Q2) v).2.2.1 = 0 from hz)]
          refine s_ifF (by decide) ?_
          rw [i_succ]
          refine ih fuel (v + 1) Q2 M 1 (by omega) (by omega) h hq2 hq3 (Or.inl ⟨rfl, fun j hj => ?_⟩)
          by_cases hjv : j = v
          · rw [hjv, ← hv2]; exact hz
          · exact hov1.2 j (by omega)
        · rw [if_neg (show ¬ (cQ (repQ A (Int32.ofNat n) Q2) v).2.2.1 = 0 from hz)]
          refine s_ifT rfl ?_
          rw [i_succ]
          exact ih fuel (v + 1) Q2 M 0 (by omega) (by omega) h hq2 hq3 (Or.inr ⟨rfl, v, by omega, by rw [← hv2]; exact hz⟩)
    refine s_if (fun c1 => b45 Q M h ?_ (fun _ _ => rfl)) (fun c1 => s_recv (h.cq (k := v) (by omega)) (c_isDownQ (i := v) h (by omega) gd.1 ?_))
    · unfold tkQ
      have c2 : ¬ (Q v).2.1.2.1 ≤ Int32.ofNat t := fun h9 => absurd c1 (i_nlt.mpr h9)
      rw [← hvq, if_neg c2]
    · have c2 : (Q v).2.1.2.1 ≤ Int32.ofNat t := i_nlt.mp c1
      by_cases hz : (Q v).2.2.1 = 0
      · rw [if_pos (show (cQ (repQ A (Int32.ofNat n) Q) v).2.2.1 = 0 from hz)]
        refine s_ifF (by decide) (b45 Q M h ?_ (fun _ _ => rfl))
        unfold tkQ
        rw [← hvq, if_pos c2, show qF A (Q v) (Q v).2.2 = (Q v).2.2 from stp_down hz]
      · rw [if_neg (show ¬ (cQ (repQ A (Int32.ofNat n) Q) v).2.2.1 = 0 from hz)]
        refine s_ifT rfl (s_recv (h.cq (k := v) (by omega)) (c_goOnQ (i := v) h (by omega) hX hY ok gd hN hz (fun M h => b45 _ M h ?_ (fun j hj => up1_ne hj))))
        rw [up1_same]
        unfold tkQ
        rw [← hvq, if_pos c2]
        rfl
end CLSH
