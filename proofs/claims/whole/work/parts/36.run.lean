/-! ===== THE CLASS: the run of a flight ===== -/
theorem rowM_congr {near near2 : Nat → Bool} : ∀ (d j m : Nat), (∀ q, j ≤ q → q < j + d → near q = near2 q) → rowM near d j m = rowM near2 d j m := by
  intro d
  induction d with
  | zero => intro j m _; rfl
  | succ d ih =>
    intro j m h
    show rowM near d (j + 1) (if !Nat.testBit m j && near j then m ||| 2 ^ j else m) = rowM near2 d (j + 1) (if !Nat.testBit m j && near2 j then m ||| 2 ^ j else m)
    rw [h j (Nat.le_refl _) (by omega)]
    exact ih _ _ (fun q h1 h2 => h q (by omega) (by omega))
theorem rowC_congr {near near2 : Nat → Bool} : ∀ (d j m : Nat), (∀ q, j ≤ q → q < j + d → near q = near2 q) → rowC near d j m = rowC near2 d j m := by
  intro d
  induction d with
  | zero => intro j m _; rfl
  | succ d ih =>
    intro j m h
    show (if !Nat.testBit m j && near j then 1 else 0) + rowC near d (j + 1) (if !Nat.testBit m j && near j then m ||| 2 ^ j else m) = (if !Nat.testBit m j && near2 j then 1 else 0) + rowC near2 d (j + 1) (if !Nat.testBit m j && near2 j then m ||| 2 ^ j else m)
    rw [h j (Nat.le_refl _) (by omega)]
    rw [ih _ _ (fun q h1 h2 => h q (by omega) (by omega))]
theorem rowC_none {near : Nat → Bool} : ∀ (d j m : Nat), (∀ q, j ≤ q → q < j + d → near q = false) → rowC near d j m = 0 := by
  intro d
  induction d with
  | zero => intro j m _; rfl
  | succ d ih =>
    intro j m h
    show (if !Nat.testBit m j && near j then 1 else 0) + rowC near d (j + 1) (if !Nat.testBit m j && near j then m ||| 2 ^ j else m) = 0
    rw [h j (Nat.le_refl _) (by omega), Bool.and_false, if_neg (by decide), ih _ _ (fun q h1 h2 => h q (by omega) (by omega))]
/-- two flights that agree but for the bits -/
def alike (n : Nat) (Q Q2 : Nat → JQ) : Prop := ∀ j, j < n → ∃ m, Q2 j = ((Q j).1, ((Q j).2.1.1, (Q j).2.1.2.1, m), (Q j).2.2)
theorem nrQ_alike {n i j : Nat} {Q Q2 : Nat → JQ} (h : alike n Q Q2) (hi : i < n) (hj : j < n) : nrQ (Q2 i) (Q2 j) = nrQ (Q i) (Q j) := by
  obtain ⟨m, hm⟩ := h i hi
  obtain ⟨m2, hm2⟩ := h j hj
  rw [hm, hm2]; rfl
theorem newM_alike {n i : Nat} {Q Q2 : Nat → JQ} {bits : Nat → Nat} (h : alike n Q Q2) (hi : i < n) : newM Q2 bits n i = newM Q bits n i := by
  unfold newM
  exact rowM_congr _ _ _ (fun q h1 h2 => nrQ_alike h hi (by omega))
theorem newC_alike {n : Nat} {Q Q2 : Nat → JQ} {bits : Nat → Nat} (h : alike n Q Q2) : ∀ d i, i + d = n → newC Q2 bits n d i = newC Q bits n d i := by
  intro d
  induction d with
  | zero => intro i _; rfl
  | succ d ih =>
    intro i hi
    show rowC (fun j => nrQ (Q2 i) (Q2 j)) (n - (i + 1)) (i + 1) (bits i) + newC Q2 bits n d (i + 1) = rowC (fun j => nrQ (Q i) (Q j)) (n - (i + 1)) (i + 1) (bits i) + newC Q bits n d (i + 1)
    rw [ih (i + 1) (by omega), rowC_congr (near := fun j => nrQ (Q2 i) (Q2 j)) (near2 := fun j => nrQ (Q i) (Q j)) _ _ _ (fun q h1 h2 => nrQ_alike h (by omega) (by omega))]
theorem newC_none {n : Nat} {Q : Nat → JQ} {bits : Nat → Nat} (h : ∀ i j, i < n → j < n → nrQ (Q i) (Q j) = false) : ∀ d i, i + d = n → newC Q bits n d i = 0 := by
  intro d
  induction d with
  | zero => intro i _; rfl
  | succ d ih =>
    intro i hi
    show rowC (fun j => nrQ (Q i) (Q j)) (n - (i + 1)) (i + 1) (bits i) + newC Q bits n d (i + 1) = 0
    rw [ih (i + 1) (by omega), rowC_none _ _ _ (fun q h1 h2 => h i q (by omega) (by omega))]
theorem nrQ_down {q q2 : JQ} (h : q.2.2.1 = 0) : nrQ q q2 = false := by
  unfold nrQ nearZ
  rw [h, decide_eq_false (fun h9 => absurd h9.2 (by decide)), Bool.false_and]
section RUN
variable {A : CS} {Q : Nat → JQ} {n : Nat}
theorem ps_1 (t j : Nat) : (psQ A Q t j).1 = (Q j).1 := by
  induction t with
  | zero => rfl
  | succ t ih => exact ih
theorem ps_21 (t j : Nat) : (psQ A Q t j).2.1 = (Q j).2.1 := by
  induction t with
  | zero => rfl
  | succ t ih => exact ih
theorem ps_form (t j : Nat) : psQ A Q t j = ((Q j).1, (Q j).2.1, (psQ A Q t j).2.2) := by
  rw [← ps_1 (A := A) t j, ← ps_21 (A := A) t j]
theorem ps_step (t j : Nat) : (psQ A Q (t + 1) j).2.2 = if (Q j).2.1.2.1 ≤ Int32.ofNat t then qF A (Q j) (psQ A Q t j).2.2 else (psQ A Q t j).2.2 := by
  show (tkQ A t (psQ A Q t j)).2.2 = _
  rw [ps_form t j]; rfl
/-- what a flight begins with -/
def flOk (n N : Nat) (Q : Nat → JQ) : Prop := ∀ j, j < n → qOk (Q j) ∧ good N (Q j).2.2 ∧ (Q j).2.1.2.2 = 0 ∧ ∃ l, l ≤ 45 ∧ (Q j).2.1.2.1 = Int32.ofNat l
theorem ps_itr {t j l : Nat} (hl : l ≤ 45) (h : (Q j).2.1.2.1 = Int32.ofNat l) (ht : t ≤ 100000) : (psQ A Q t j).2.2 = itr (qF A (Q j)) (t - l) (Q j).2.2 := by
  induction t with
  | zero => rw [Nat.zero_sub]; rfl
  | succ t ih =>
    rw [ps_step, ih (by omega), h]
    by_cases hc : l ≤ t
    · rw [if_pos ((i_le (by omega) (by omega)).mpr hc), show t + 1 - l = (t - l) + 1 by omega, itr_succ]
    · rw [if_neg (fun h9 => hc ((i_le (by omega) (by omega)).mp h9)), show t + 1 - l = t - l by omega]
theorem ps_ok {N t j : Nat} (hX : wbd (cX A)) (hY : wbd (cY A)) (hf : flOk n N Q) (hj : j < n) : qOk (psQ A Q t j) ∧ good (N + 20 * t) (psQ A Q t j).2.2 := by
  obtain ⟨ok, gd, -, -⟩ := hf j hj
  induction t with
  | zero => exact ⟨ok, gd⟩
  | succ t ih =>
    constructor
    · rw [ps_form]; exact ok
    · rw [ps_step]
      split
      · exact good_mono (good_stp hX hY ok.2.1 ok.2.2.1 ok.2.2.2.1 ih.2) (by omega)
      · exact good_mono ih.2 (by omega)
theorem ps_end {N t j : Nat} (hX : wbd (cX A)) (hY : wbd (cY A)) (hf : flOk n N Q) (hj : j < n) (ht : 365 ≤ t) (ht2 : t ≤ 100000) : (psQ A Q t j).2.2.1 = 0 := by
  obtain ⟨ok, gd, -, l, hl, hl2⟩ := hf j hj
  rw [ps_itr hl hl2 ht2]
  exact itr_end hX hY ok.2.1 ok.2.2.1 ok.2.2.2.1 gd (Nat.le_trans (pot_le gd) (by omega))
theorem ps_down {t j : Nat} (h : (psQ A Q t j).2.2.1 = 0) (d : Nat) : psQ A Q (t + d) j = psQ A Q t j := by
  induction d with
  | zero => rfl
  | succ d ih =>
    show tkQ A (t + d) (psQ A Q (t + d) j) = _
    rw [ih]
    unfold tkQ
    rw [show qF A (psQ A Q t j) (psQ A Q t j).2.2 = (psQ A Q t j).2.2 from stp_down h]
    split <;> rfl
theorem tt_down {t : Nat} (h : ∀ j, j < n → (psQ A Q t j).2.2.1 = 0) (d : Nat) : ttQ A Q n (t + d) = ttQ A Q n t := by
  induction d with
  | zero => rfl
  | succ d ih =>
    show ttQ A Q n (t + d) + newC (psQ A Q (t + d + 1)) (btQ A Q n (t + d)) n n 0 = _
    rw [ih, newC_none (fun i j hi _ => nrQ_down (by rw [show t + d + 1 = t + (d + 1) from rfl, ps_down (h i hi)]; exact h i hi)) n 0 (Nat.zero_add n)]
    rfl
variable {K : Cfg} {c : Nat → Nat} {M0 M : Mem}
theorem c_run_loop {nF N : Nat} {k : Int32 → Mem → Prop} (f1 : 365 ≤ nF) (f2 : nF ≤ 900) (hn6 : n ≤ 6) (hX : wbd (cX A)) (hY : wbd (cY A)) (hN : N ≤ 50000) (hf : flOk n N Q)
    (hk : ∀ Q2 M2, alike n (psQ A Q nF) Q2 → picC K c (repQ A (Int32.ofNat n) Q2) M0 M2 → k (Int32.ofNat (ttQ A Q n nF)) M2) :
    ∀ (d fuel t : Nat) (Q1 : Nat → JQ) (M : Mem) (ov : Int32), t + d = nF → d + 1 < fuel → picC K c (repQ A (Int32.ofNat n) Q1) M0 M → (∀ j, j < n → btQ A Q n t j < 64 ∧ Q1 j = withM (psQ A Q t j) (btQ A Q n t j)) → ((ov = 1 ∧ ∀ j, j < n → (psQ A Q t j).2.2.1 = 0) ∨ (ov = 0 ∧ (t = 0 ∨ ∃ j, j < n ∧ (psQ A Q t j).2.2.1 ≠ 0))) → f_X0_run_b7 K k fuel (c 7) (c 3) (Int32.ofNat (ttQ A Q n t)) ov (Int32.ofNat t) M := by
  have fin : ∀ (fuel t : Nat) (Q1 : Nat → JQ) (M : Mem), t ≤ nF → picC K c (repQ A (Int32.ofNat n) Q1) M0 M → (∀ j, j < n → btQ A Q n t j < 64 ∧ Q1 j = withM (psQ A Q t j) (btQ A Q n t j)) → (∀ j, j < n → (psQ A Q t j).2.2.1 = 0) → f_X0_run_b7 K k (fuel + 1) (c 7) (c 3) (Int32.ofNat (ttQ A Q n t)) 1 (Int32.ofNat t) M := by
    intro fuel t Q1 M ht h hQ hd
    show f_X0_run_b7_body K k (f_X0_run_b7 K k fuel) (c 7) (c 3) (Int32.ofNat (ttQ A Q n t)) 1 (Int32.ofNat t) M
    unfold f_X0_run_b7_body
    refine s_ifF ?_ (s_ifF (by decide) ?_)
    · show ¬ Int32.ofNat 1000 ≤ _
      rw [i_le (by omega) (by omega)]; omega
    · have e1 : ttQ A Q n nF = ttQ A Q n t := by rw [show nF = t + (nF - t) by omega]; exact tt_down hd _
      have h9 := hk Q1 M (fun j hj => ⟨Int32.ofNat (btQ A Q n t j), by rw [(hQ j hj).2, show nF = t + (nF - t) by omega, ps_down (hd j hj)]; rfl⟩) h
      rw [e1] at h9
      exact h9
  intro d
  induction d with
  | zero =>
    intro fuel t Q1 M ov htd hfu h hQ hov
    obtain ⟨fuel, rfl⟩ : ∃ e, fuel = e + 1 := ⟨fuel - 1, by omega⟩
    have hall : ∀ j, j < n → (psQ A Q t j).2.2.1 = 0 := fun j hj => ps_end hX hY hf hj (by omega) (by omega)
    rcases hov with ⟨rfl, h1⟩ | ⟨rfl, h1⟩
    · exact fin fuel t Q1 M (by omega) h hQ hall
    · rcases h1 with h1 | ⟨j, h1, h2⟩
      · omega
      · exact absurd (hall j h1) h2
  | succ d ih =>
    intro fuel t Q1 M ov htd hfu h hQ hov
    obtain ⟨fuel, rfl⟩ : ∃ e, fuel = e + 1 := ⟨fuel - 1, by omega⟩
    rcases hov with ⟨rfl, h1⟩ | ⟨rfl, h1⟩
    · exact fin fuel t Q1 M (by omega) h hQ h1
    show f_X0_run_b7_body K k (f_X0_run_b7 K k fuel) (c 7) (c 3) (Int32.ofNat (ttQ A Q n t)) 0 (Int32.ofNat t) M
    unfold f_X0_run_b7_body
    refine s_ifF ?_ (s_ifT rfl (s_recv h.c7 ?_))
    · show ¬ Int32.ofNat 1000 ≤ _
      rw [i_le (by omega) (by omega)]; omega
    have hok1 : ∀ j, j < n → qOk (Q1 j) ∧ good (N + 20 * t) (Q1 j).2.2 := fun j hj => by
      rw [(hQ j hj).2]; exact ps_ok hX hY hf hj
    have htk : ∀ j, j < n → tkQ A t (Q1 j) = withM (psQ A Q (t + 1) j) (btQ A Q n t j) := fun j hj => by
      rw [(hQ j hj).2]; rfl
    unfold f_X0_goOn
    refine c_tick_loop (n := n) (t := t) (N := N + 20 * t) hn6 (by omega) hX hY (by omega) Q1 hok1 (fun Q2 M2 ov2 h2 h3 h4 => ?_) n mFuel 0 Q1 M 1 (Nat.zero_add n) (by show n < 4096; omega) h (fun j hj => absurd hj (Nat.not_lt_zero j)) (fun j _ => rfl) (Or.inl ⟨rfl, fun j hj => absurd hj (Nat.not_lt_zero j)⟩)
    refine s_recv h4.c7 ?_
    have hQ2 : ∀ j, j < n → Q2 j = withM (psQ A Q (t + 1) j) (btQ A Q n t j) := fun j hj => by rw [h2 j hj, htk j hj]
    have hal : alike n (psQ A Q (t + 1)) Q2 := fun j hj => ⟨_, hQ2 j hj⟩
    have hok2 : ∀ j, j < n → qOk (Q2 j) ∧ good (N + 20 * (t + 1)) (Q2 j).2.2 := fun j hj => by
      rw [hQ2 j hj]; exact ps_ok (t := t + 1) hX hY hf hj
    unfold f_X0_countNewPairs
    refine c_pairs_loop (n := n) (N := N + 20 * (t + 1)) hn6 (by omega) Q2 (btQ A Q n t) hok2 (fun j hj => ⟨(hQ j hj).1, by rw [hQ2 j hj]; rfl⟩) n mFuel 0 0 Q2 M2 (Nat.zero_add n) (by show n < 4096; omega) h4 (fun j hj => absurd hj (Nat.not_lt_zero j)) (fun j _ => rfl) (fun Q3 M3 h5 h6 => ?_)
    have e1 : newC Q2 (btQ A Q n t) n n 0 = newC (psQ A Q (t + 1)) (btQ A Q n t) n n 0 := newC_alike hal n 0 (Nat.zero_add n)
    rw [Nat.zero_add, e1, i_succ]
    show f_X0_run_b7 K k fuel (c 7) (c 3) (Int32.ofNat (ttQ A Q n t) + Int32.ofNat (newC (psQ A Q (t + 1)) (btQ A Q n t) n n 0)) ov2 (Int32.ofNat (t + 1)) M3
    rw [← Int32.ofNat_add]
    refine ih fuel (t + 1) Q3 M3 ov2 (by omega) (by omega) h6 (fun j hj => ?_) ?_
    · have e2 : newM Q2 (btQ A Q n t) n j = btQ A Q n (t + 1) j := newM_alike hal hj
      obtain ⟨h7, h8⟩ := h5 j hj
      rw [e2] at h7 h8
      exact ⟨h7, by rw [h8, hQ2 j hj]; rfl⟩
    · rcases h3 with ⟨h7, h8⟩ | ⟨h7, j, h8, h9⟩
      · exact Or.inl ⟨h7, fun j hj => by have := h8 j hj; rw [htk j hj] at this; exact this⟩
      · exact Or.inr ⟨h7, Or.inr ⟨j, h8, by rw [htk j h8] at h9; exact h9⟩⟩
theorem c_run {nF N : Nat} {Q1 : Nat → JQ} {k : Int32 → Mem → Prop} (f1 : 365 ≤ nF) (f2 : nF ≤ 900) (hn6 : n ≤ 6) (hX : wbd (cX A)) (hY : wbd (cY A)) (hN : N ≤ 50000) (hf : flOk n N Q) (h : picC K c (repQ A (Int32.ofNat n) Q1) M0 M) (h1 : ∀ j, j < n → Q1 j = Q j)
    (hk : ∀ Q2 M2, alike n (psQ A Q nF) Q2 → picC K c (repQ A (Int32.ofNat n) Q2) M0 M2 → k (Int32.ofNat (ttQ A Q n nF)) M2) : f_X0_run K (c 7) (c 3) k M := by
  unfold f_X0_run
  refine c_run_loop f1 f2 hn6 hX hY hN hf hk nF mFuel 0 Q1 M 0 (Nat.zero_add nF) (by show nF + 1 < 4096; omega) h (fun j hj => ⟨by show 0 < 64; decide, ?_⟩) (Or.inr ⟨rfl, Or.inl rfl⟩)
  have := (hf j hj).2.2.1
  rw [h1 j hj]
  show Q j = ((Q j).1, ((Q j).2.1.1, (Q j).2.1.2.1, Int32.ofNat 0), (Q j).2.2)
  rw [show Int32.ofNat 0 = 0 from rfl, ← this]
end RUN
