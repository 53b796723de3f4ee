/-! ===== THE REFERENCE: who is aboard, in which order ===== -/
/-- the reference's styles are those of the line -/
def lk (A : CS) (T : RT) (nJ : Nat) (ln : List Nat) : Prop := ln.Nodup ∧ ln.Pairwise (fun a b => keyF A a < keyF A b) ∧ ∀ k, k < nJ → (k ∈ ln ∧ tS T k = cJ A k 10 ∧ tO T k = cJ A k 11) ∨ (k ∉ ln ∧ tS T k = -1)
theorem sumN_add (f g : Nat → Nat) : ∀ n, sumN (fun k => f k + g k) n = sumN f n + sumN g n := by
  intro n
  induction n with
  | zero => rfl
  | succ n ih =>
    show sumN (fun k => f k + g k) n + (f n + g n) = (sumN f n + f n) + (sumN g n + g n)
    rw [ih]; omega
theorem sumN_zero {f : Nat → Nat} : ∀ n, (∀ k, k < n → f k = 0) → sumN f n = 0 := by
  intro n
  induction n with
  | zero => intro _; rfl
  | succ n ih =>
    intro h
    show sumN f n + f n = 0
    rw [ih (fun k hk => h k (by omega)), h n (by omega)]
theorem sumN_one {x v : Nat} : ∀ n, x < n → sumN (fun k => if k = x then v else 0) n = v := by
  intro n
  induction n with
  | zero => intro h; omega
  | succ n ih =>
    intro h
    show sumN (fun k => if k = x then v else 0) n + (if n = x then v else 0) = v
    by_cases hn : n = x
    · rw [if_pos hn, sumN_zero n (fun k hk => if_neg (by omega)), Nat.zero_add]
    · rw [if_neg hn, ih (by omega)]; rfl
theorem sumN_mem {g : Nat → Nat} {n : Nat} : ∀ l : List Nat, l.Nodup → (∀ k ∈ l, k < n) → sumN (fun k => if k ∈ l then g k else 0) n = (l.map g).sum := by
  intro l
  induction l with
  | nil => intro _ _; exact sumN_zero n (fun k _ => if_neg List.not_mem_nil)
  | cons x l ih =>
    intro hd hb
    obtain ⟨h1, h2⟩ := List.nodup_cons.mp hd
    have e : sumN (fun k => if k ∈ x :: l then g k else 0) n = sumN (fun k => (if k = x then g x else 0) + (if k ∈ l then g k else 0)) n := sumN_congr n (fun k _ => by
      by_cases hk : k = x
      · subst hk
        rw [if_pos List.mem_cons_self, if_pos rfl, if_neg h1]; rfl
      · rw [if_neg hk, Nat.zero_add]
        by_cases hm : k ∈ l
        · rw [if_pos hm, if_pos (List.mem_cons_of_mem _ hm)]
        · rw [if_neg hm, if_neg (fun h9 => by rcases List.mem_cons.mp h9 with h8 | h8; exact hk h8; exact hm h8)])
    rw [e, sumN_add, sumN_one n (hb x List.mem_cons_self), ih h2 (fun k hk => hb k (List.mem_cons_of_mem _ hk)), List.map_cons, List.sum_cons]
theorem sum_ones (l : List Nat) : (l.map (fun _ => 1)).sum = l.length := by
  induction l with
  | nil => rfl
  | cons x l ih => rw [List.map_cons, List.sum_cons, ih, List.length_cons]; omega
theorem placeF_notin {j : Nat} (hj : j < 1000) : ∀ (l : List Nat) (v : Nat), (∀ k ∈ l, k < 1000) → j ∉ l → placeF (Int32.ofNat j) l v = -1 := by
  intro l
  induction l with
  | nil => intro v _ _; rfl
  | cons x l ih =>
    intro v hb h
    show (if Int32.ofNat x = Int32.ofNat j then Int32.ofNat v else placeF (Int32.ofNat j) l (v + 1)) = -1
    have hx := hb x List.mem_cons_self
    rw [if_neg (fun h9 => by rw [i_eq (by omega) (by omega)] at h9; exact h (h9 ▸ List.mem_cons_self))]
    exact ih (v + 1) (fun k hk => hb k (List.mem_cons_of_mem _ hk)) (fun h9 => h (List.mem_cons_of_mem _ h9))
theorem placeF_sum {f : Nat → Int} {j : Nat} (hj : j < 1000) : ∀ (l : List Nat) (v : Nat), (∀ k ∈ l, k < 1000) → l.Nodup → l.Pairwise (fun a b => f a < f b) → j ∈ l → placeF (Int32.ofNat j) l v = Int32.ofNat (v + (l.map (fun k => if f k < f j then 1 else 0)).sum) := by
  intro l
  induction l with
  | nil => intro v _ _ _ h; exact absurd h List.not_mem_nil
  | cons x l ih =>
    intro v hb hd hs h
    obtain ⟨h1, h2⟩ := List.nodup_cons.mp hd
    obtain ⟨s1, s2⟩ := List.pairwise_cons.mp hs
    have hx := hb x List.mem_cons_self
    show (if Int32.ofNat x = Int32.ofNat j then Int32.ofNat v else placeF (Int32.ofNat j) l (v + 1)) = _
    rw [List.map_cons, List.sum_cons]
    by_cases hxj : x = j
    · subst hxj
      rw [if_pos rfl, if_neg (Int.lt_irrefl _)]
      have e : (l.map (fun k => if f k < f x then 1 else 0)).sum = 0 := by
        have : ∀ l : List Nat, (∀ k ∈ l, f x < f k) → (l.map (fun k => if f k < f x then 1 else 0)).sum = 0 := by
          intro l
          induction l with
          | nil => intro _; rfl
          | cons y l ih2 =>
            intro hl
            have := hl y List.mem_cons_self
            rw [List.map_cons, List.sum_cons, if_neg (by omega), ih2 (fun k hk => hl k (List.mem_cons_of_mem _ hk))]
        exact this l s1
      rw [e]; rfl
    · rw [if_neg (fun h9 => by rw [i_eq (by omega) (by omega)] at h9; exact hxj h9)]
      have hjl : j ∈ l := (List.mem_cons.mp h).resolve_left (fun h9 => hxj h9.symm)
      rw [if_pos (s1 j hjl), ih (v + 1) (fun k hk => hb k (List.mem_cons_of_mem _ hk)) h2 s2 hjl, Nat.add_assoc]
theorem placeF_get {p : Nat} : ∀ (l : List Nat) (v : Nat), (∀ k ∈ l, k < 1000) → l.Nodup → p < l.length → placeF (Int32.ofNat (l.getD p 0)) l v = Int32.ofNat (v + p) := by
  induction p with
  | zero =>
    intro l v hb hd hp
    cases l with
    | nil => exact absurd hp (Nat.not_lt_zero _)
    | cons x l =>
      show (if Int32.ofNat x = Int32.ofNat x then Int32.ofNat v else placeF (Int32.ofNat x) l (v + 1)) = _
      rw [if_pos rfl, Nat.add_zero]
  | succ p ih =>
    intro l v hb hd hp
    cases l with
    | nil => exact absurd hp (Nat.not_lt_zero _)
    | cons x l =>
      obtain ⟨h1, h2⟩ := List.nodup_cons.mp hd
      have hp2 : p < l.length := by rw [List.length_cons] at hp; omega
      have hm : l.getD p 0 ∈ l := getD_mem hp2
      have hx := hb x List.mem_cons_self
      have hy := hb _ (List.mem_cons_of_mem x hm)
      show (if Int32.ofNat x = Int32.ofNat (l.getD p 0) then Int32.ofNat v else placeF (Int32.ofNat (l.getD p 0)) l (v + 1)) = _
      rw [if_neg (fun h9 => by rw [i_eq (by omega) (by omega)] at h9; exact h1 (h9 ▸ hm)), ih l (v + 1) (fun k hk => hb k (List.mem_cons_of_mem _ hk)) h2 hp2, Nat.add_assoc, Nat.add_comm 1 p]
theorem mem_getD {l : List Nat} {x : Nat} (h : x ∈ l) : ∃ p, p < l.length ∧ l.getD p 0 = x := by
  obtain ⟨p, hp, he⟩ := List.getElem_of_mem h
  exact ⟨p, hp, by rw [List.getD_eq_getElem?_getD, List.getElem?_eq_getElem hp]; exact he⟩
theorem i_add0 {a : Nat} : Int32.ofNat a + 0 = Int32.ofNat a := by
  show Int32.ofNat a + Int32.ofNat 0 = _
  rw [← Int32.ofNat_add]; rfl
section REFO
variable {K : Cfg} {r : Nat → Nat} {nJ nR : Nat} {A : CS} {T : RT} {M0 M : Mem} {ln : List Nat}
/-- what holds of a state that stands -/
def wfS (A : CS) (T : RT) (nJ nR : Nat) (ln : List Nat) : Prop := (∀ j, j < nJ → jmpOk A nR j) ∧ (∀ g, g < nR → rigOk A g) ∧ lnOk A nJ ln ∧ abOk A nJ nR ln ∧ lk A T nJ ln
theorem st_up {k : Nat} (ha : abOk A nJ nR ln) (hk : lk A T nJ ln) (h : k ∈ ln) : tS T k = cJ A k 10 ∧ tO T k = cJ A k 11 ∧ tS T k ≠ -1 ∧ (cJ A k 10 = 0 ∨ cJ A k 10 = 1) := by
  obtain ⟨a1, -, -, a4, -⟩ := ha k h
  rcases hk.2.2 k a1 with ⟨-, h1, h2⟩ | ⟨h1, -⟩
  · refine ⟨h1, h2, ?_, a4⟩
    rw [h1]
    rcases a4 with h3 | h3 <;> rw [h3] <;> decide
  · exact absurd h h1
theorem st_iff {k : Nat} (ha : abOk A nJ nR ln) (hk : lk A T nJ ln) (hj : k < nJ) : tS T k = -1 ↔ k ∉ ln := by
  constructor
  · intro h1 h2
    exact (st_up ha hk h2).2.2.1 h1
  · intro h1
    rcases hk.2.2 k hj with ⟨h2, -⟩ | ⟨-, h2⟩
    · exact absurd h2 h1
    · exact h2
theorem cnt_ab (hl : lnOk A nJ ln) (ha : abOk A nJ nR ln) (hk : lk A T nJ ln) : sumN (fun k => if tS T k = -1 then 0 else 1) nJ = ln.length := by
  rw [← sum_ones ln, ← sumN_mem ln hk.1 hl.2.2.2]
  exact sumN_congr nJ (fun k hj => by
    by_cases h : k ∈ ln
    · rw [if_pos h, if_neg (fun h9 => (st_iff ha hk hj).mp h9 h)]
    · rw [if_neg h, if_pos ((st_iff ha hk hj).mpr h)])
theorem x_aboard {k : Int32 → Mem → Prop} (h : picR K r nJ nR A T M0 M) (hl : lnOk A nJ ln) (ha : abOk A nJ nR ln) (hlk : lk A T nJ ln) (hk : k (Int32.ofNat ln.length) M) : f_X9_aboard K (r 0) k M := by
  have n1 := h.1.1.1
  have lp : ∀ d fuel v : Nat, v + d = nJ → d < fuel → f_X9_aboard_b4 K k fuel (r 0) (Int32.ofNat (sumN (fun k => if tS T k = -1 then 0 else 1) v)) (Int32.ofNat v) M := by
    intro d
    induction d with
    | zero =>
      intro fuel v hv hf
      obtain ⟨fuel, rfl⟩ : ∃ e, fuel = e + 1 := ⟨fuel - 1, by omega⟩
      have hvn : v = nJ := by omega
      subst hvn
      show f_X9_aboard_b4_body K k (f_X9_aboard_b4 K k fuel) (r 0) _ (Int32.ofNat v) M
      unfold f_X9_aboard_b4_body
      refine r_szJ h (s_ifT ?_ ?_)
      · rw [i_le (by omega) (by omega)]; omega
      · rw [cnt_ab hl ha hlk]; exact hk
    | succ d ih =>
      intro fuel v hv hf
      obtain ⟨fuel, rfl⟩ : ∃ e, fuel = e + 1 := ⟨fuel - 1, by omega⟩
      show f_X9_aboard_b4_body K k (f_X9_aboard_b4 K k fuel) (r 0) _ (Int32.ofNat v) M
      unfold f_X9_aboard_b4_body f_X9_aboard_b43
      refine r_szJ h (s_ifF ?_ (r_J h (by omega) (s_getI (h.rj (by omega)) rfl ?_)))
      · rw [i_le (by omega) (by omega)]; omega
      have e := ih fuel (v + 1) (by omega) (by omega)
      have e2 : sumN (fun k => if tS T k = -1 then 0 else 1) (v + 1) = sumN (fun k => if tS T k = -1 then 0 else 1) v + (if tS T v = -1 then 0 else 1) := rfl
      rw [e2] at e
      refine s_if (fun c1 => ?_) (fun c1 => ?_)
      · have c1 : tS T v = -1 := c1
        rw [if_pos c1, Nat.add_zero] at e
        rw [i_add0, i_succ]; exact e
      · have c1 : ¬ tS T v = -1 := c1
        rw [if_neg c1] at e
        rw [i_succ, i_succ]; exact e
  unfold f_X9_aboard
  exact lp nJ mFuel 0 (Nat.zero_add _) (by show nJ < 4096; omega)
theorem x_placeOf {k : Int32 → Mem → Prop} {j : Nat} (h : picR K r nJ nR A T M0 M) (hw : wfS A T nJ nR ln) (hj : j < nJ) (hk : k (placeF (Int32.ofNat j) ln 0) M) : f_X9_placeOf K (r 0) (Int32.ofNat j) k M := by
  obtain ⟨hjs, hro, hl, ha, hlk⟩ := hw
  have n1 := h.1.1.1
  have hlt : ∀ q ∈ ln, q < 1000 := fun q hq => by have := hl.2.2.2 q hq; omega
  have lp : ∀ (d fuel v : Nat) (cnt : Int32), v + d = nJ → d < fuel → (j ∈ ln → cnt = Int32.ofNat (sumN (fun k => if k ∈ ln then (if keyF A k < keyF A j then 1 else 0) else 0) v)) → f_X9_placeOf_b4 K k fuel (r 0) (Int32.ofNat j) cnt (Int32.ofNat v) M := by
    intro d
    induction d with
    | zero =>
      intro fuel v cnt hv hf hc
      obtain ⟨fuel, rfl⟩ : ∃ e, fuel = e + 1 := ⟨fuel - 1, by omega⟩
      have hvn : v = nJ := by omega
      subst hvn
      show f_X9_placeOf_b4_body K k (f_X9_placeOf_b4 K k fuel) (r 0) (Int32.ofNat j) cnt (Int32.ofNat v) M
      unfold f_X9_placeOf_b4_body f_X9_placeOf_b90
      refine r_szJ h (s_ifT ?_ (r_J h hj (s_getI (h.rj hj) rfl (s_if (fun c1 => ?_) (fun c1 => ?_)))))
      · rw [i_le (by omega) (by omega)]; omega
      · have c1 : tS T j = -1 := c1
        rw [placeF_notin (by omega) ln 0 hlt ((st_iff ha hlk hj).mp c1)] at hk
        exact hk
      · have c1 : ¬ tS T j = -1 := c1
        have hm : j ∈ ln := Decidable.byContradiction fun h9 => c1 ((st_iff ha hlk hj).mpr h9)
        rw [placeF_sum (f := keyF A) (by omega) ln 0 hlt hlk.1 hlk.2.1 hm, Nat.zero_add, ← sumN_mem ln hlk.1 hl.2.2.2, ← hc hm] at hk
        exact hk
    | succ d ih =>
      intro fuel v cnt hv hf hc
      obtain ⟨fuel, rfl⟩ : ∃ e, fuel = e + 1 := ⟨fuel - 1, by omega⟩
      show f_X9_placeOf_b4_body K k (f_X9_placeOf_b4 K k fuel) (r 0) (Int32.ofNat j) cnt (Int32.ofNat v) M
      unfold f_X9_placeOf_b4_body f_X9_placeOf_b56 f_X9_placeOf_b57
      have e2 : sumN (fun k => if k ∈ ln then (if keyF A k < keyF A j then 1 else 0) else 0) (v + 1) = sumN (fun k => if k ∈ ln then (if keyF A k < keyF A j then 1 else 0) else 0) v + (if v ∈ ln then (if keyF A v < keyF A j then 1 else 0) else 0) := rfl
      have skip : (j ∈ ln → (if v ∈ ln then (if keyF A v < keyF A j then 1 else 0) else 0) = 0) → f_X9_placeOf_b4 K k fuel (r 0) (Int32.ofNat j) (cnt + 0) (Int32.ofNat v + 1) M := by
        intro h0
        rw [i_succ]
        exact ih fuel (v + 1) (cnt + 0) (by omega) (by omega) (fun hm => by rw [e2, h0 hm, hc hm, i_add0]; rfl)
      refine r_szJ h (s_ifF ?_ (s_if (fun c1 => skip (fun _ => ?_)) (fun c1 => r_J h (by omega) (s_getI (h.rj (by omega)) rfl (s_if (fun c2 => skip (fun _ => ?_)) (fun c2 => s_recv h.r0 (x_isAhead h (by omega) hj (hjs v (by omega)) (hjs j hj) hro (fun b hb1 hb2 => ?_))))))))
      · rw [i_le (by omega) (by omega)]; omega
      · rw [i_eq (by omega) (by omega)] at c1
        rw [c1, if_neg (Int.lt_irrefl _)]
        split <;> rfl
      · have c2 : tS T v = -1 := c2
        rw [if_neg ((st_iff ha hlk (by omega)).mp c2)]
      · have c2 : ¬ tS T v = -1 := c2
        have hv2 : v ∈ ln := Decidable.byContradiction fun h9 => c2 ((st_iff ha hlk (by omega)).mpr h9)
        have hb3 : j ∈ ln → b = if keyF A v < keyF A j then 1 else 0 := fun hm => hb2 ⟨⟨(ha v hv2).2.2.1, (ha j hm).2.2.1⟩, ⟨(st_up ha hlk hv2).1, (st_up ha hlk hm).1⟩, (st_up ha hlk hv2).2.2.2, (st_up ha hlk hm).2.2.2⟩
        refine s_if (fun c3 => skip (fun hm => ?_)) (fun c3 => ?_)
        · have h9 := hb3 hm
          rw [c3] at h9
          by_cases hlt2 : keyF A v < keyF A j
          · rw [if_pos hlt2] at h9; exact absurd h9 (by decide)
          · rw [if_neg hlt2]; split <;> rfl
        · rw [i_succ]
          refine ih fuel (v + 1) (cnt + 1) (by omega) (by omega) (fun hm => ?_)
          have h9 := hb3 hm
          have hlt2 : keyF A v < keyF A j := Decidable.byContradiction fun h8 => c3 (by rw [h9, if_neg h8])
          rw [e2, if_pos hv2, if_pos hlt2, hc hm, i_succ]
  unfold f_X9_placeOf
  exact lp nJ mFuel 0 0 (Nat.zero_add _) (by show nJ < 4096; omega) (fun _ => rfl)
theorem x_at {k : Int32 → Mem → Prop} {p : Nat} (h : picR K r nJ nR A T M0 M) (hw : wfS A T nJ nR ln) (hp : p < ln.length) (hk : k (Int32.ofNat (ln.getD p 0)) M) : f_X9_at K (r 0) (Int32.ofNat p) k M := by
  obtain ⟨hjs, hro, hl, ha, hlk⟩ := id hw
  have n1 := h.1.1.1
  have l1 := hl.1
  have hlt : ∀ q ∈ ln, q < 1000 := fun q hq => by have := hl.2.2.2 q hq; omega
  have hx : ln.getD p 0 < nJ := hl.2.2.2 _ (getD_mem hp)
  have hpx := placeF_get ln 0 hlt hlk.1 hp
  rw [Nat.zero_add] at hpx
  have lp : ∀ (d fuel v : Nat), v + d = ln.getD p 0 → d < fuel → f_X9_at_b2 K k fuel (r 0) (Int32.ofNat p) (Int32.ofNat v) M := by
    intro d
    induction d with
    | zero =>
      intro fuel v hv hf
      obtain ⟨fuel, rfl⟩ : ∃ e, fuel = e + 1 := ⟨fuel - 1, by omega⟩
      have hvn : v = ln.getD p 0 := by omega
      show f_X9_at_b2_body K k (f_X9_at_b2 K k fuel) (r 0) (Int32.ofNat p) (Int32.ofNat v) M
      unfold f_X9_at_b2_body
      refine r_szJ h (s_ifF ?_ (s_recv h.r0 (x_placeOf h hw (by omega) (s_ifT ?_ ?_))))
      · rw [i_le (by omega) (by omega)]; omega
      · rw [hvn]; exact hpx
      · rw [hvn]; exact hk
    | succ d ih =>
      intro fuel v hv hf
      obtain ⟨fuel, rfl⟩ : ∃ e, fuel = e + 1 := ⟨fuel - 1, by omega⟩
      show f_X9_at_b2_body K k (f_X9_at_b2 K k fuel) (r 0) (Int32.ofNat p) (Int32.ofNat v) M
      unfold f_X9_at_b2_body
      refine r_szJ h (s_ifF ?_ (s_recv h.r0 (x_placeOf h hw (by omega) (s_ifF (fun h9 => ?_) ?_))))
      · rw [i_le (by omega) (by omega)]; omega
      · by_cases hm : v ∈ ln
        · obtain ⟨q, q1, q2⟩ := mem_getD hm
          have h8 := placeF_get ln 0 hlt hlk.1 q1
          rw [q2, h9, Nat.zero_add, i_eq (by omega) (by omega)] at h8
          rw [← h8] at q2
          omega
        · rw [placeF_notin (by omega) ln 0 hlt hm] at h9
          exact i_negone p (by omega) h9.symm
      · rw [i_succ]
        exact ih fuel (v + 1) (by omega) (by omega)
  unfold f_X9_at
  exact lp (ln.getD p 0) mFuel 0 (Nat.zero_add _) (by show ln.getD p 0 < 4096; omega)
end REFO
