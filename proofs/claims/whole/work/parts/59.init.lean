/-! ===== THE CONSTRUCTORS ===== -/
def pg (c : Nat → Nat) (m : Nat) (E : Nat → va_E) (M : Mem) : Prop := (∀ i j, i < m → j < m → c i = c j → i = j) ∧ ∀ i, i < m → M (c i) = some (E i)
def A0 : CS := (fun i => if i = 11 then 3 else 0, fun _ j => if j = 2 then -1 else if j = 11 then 6 else 0, fun _ _ => 0, fun _ _ => 0, fun _ => 0, fun _ => 0, fun _ => 0, fun _ => 0, 0, fun _ => ((6, 1, 1, 0), (0, 0, 0), (10, 0, 0, 0)))
section PG
variable {K : Cfg} {c : Nat → Nat} {m : Nat} {E : Nat → va_E} {M : Mem}
theorem pg.new {a : Nat} {e : va_E} (h : pg c m E M) (ha : mFresh K M a) : pg (up1 c m a) (m + 1) (up1 E m e) (mUp M a e) := by
  have hne : ∀ i, i < m → c i ≠ a := fun i hi e9 => by have := ha.2 _ _ (h.2 i hi); omega
  refine ⟨fun i j hi hj e9 => ?_, fun i hi => ?_⟩
  · by_cases h1 : i = m <;> by_cases h2 : j = m
    · omega
    · rw [h1, up1_same, up1_ne h2] at e9; exact absurd e9.symm (hne j (by omega))
    · rw [h2, up1_same, up1_ne h1] at e9; exact absurd e9 (hne i (by omega))
    · rw [up1_ne h1, up1_ne h2] at e9; exact h.1 i j (by omega) (by omega) e9
  · by_cases h1 : i = m
    · rw [h1, up1_same, up1_same, mUp_same]
    · rw [up1_ne h1, up1_ne h1, mUp_ne (hne i (by omega))]; exact h.2 i (by omega)
theorem pg.mk {e : va_E} {F : Nat → Mem → Prop} (h : pg c m E M) (hf : ∀ a M2, pg (up1 c m a) (m + 1) (up1 E m e) M2 → F a M2) : ∀ a : Nat, mFresh K M a → F a (mUp M a e) := fun a ha => hf a _ (h.new ha)
theorem pg.up {i : Nat} {e : va_E} (h : pg c m E M) (hi : i < m) : pg c m (up1 E i e) (mUp M (c i) e) := by
  refine ⟨h.1, fun j hj => ?_⟩
  by_cases hji : j = i
  · rw [hji, mUp_same, up1_same]
  · rw [mUp_ne (fun e9 => hji (h.1 _ _ hj hi e9)), up1_ne hji]; exact h.2 j hj
theorem pg.put {i a ci j : Nat} {fs : List Value} {v : Value} {f : Mem → Prop} (h : pg c m E M) (hi : i < m) (ha : c i = a) (hE : E i = .inr (ci, fs)) (hj : j < fs.length) (hf : ∀ M2, pg c m (up1 E i (.inr (ci, fs.set j v))) M2 → f M2) : mPut a ci j v f M := by
  subst ha
  exact s_put ((h.2 i hi).trans (by rw [hE])) hj (hf _ (h.up hi))
theorem pg.cg {E2 : Nat → va_E} (h : pg c m E M) (he : ∀ i, i < m → E2 i = E i) : pg c m E2 M := ⟨h.1, fun i hi => by rw [he i hi]; exact h.2 i hi⟩
/-- the loop that makes six jumps -/
theorem i_loopQ {E0 : Nat → va_E} {c0 : Nat → Nat} {v0 : Nat} {ofs : List Value} {k : Mem → Prop} (ho : E0 7 = .inr (1, ofs)) (hoc : c0 7 = v0) (hof : ofs[0]? = some (.ref (c0 8)))
    (hk : ∀ c E M u w, u = 1 + 6 → w = 6 + 11 * 6 → pg c (9 + 6) E M → E 8 = .inl (K.2.1 6, 6, .inr (.inr (.inr (.inr (fun j => if j < 6 then some (c (9 + j)) else none))))) → (∀ q, q < 6 → E (9 + q) = .inr (2, [.int 6, .int 1, .int 1, .double FP.dconst0, .int 0, .int 0, .int 9, .int 0, .double FP.dconst0, .double FP.dconst0, .int 0])) → (∀ i, i < 9 → i ≠ 8 → E i = E0 i) → (∀ i, i < 9 → c i = c0 i) → k M) :
    ∀ (d fuel v u w : Nat) (c : Nat → Nat) (E : Nat → va_E) (M : Mem), v + d = 6 → d < fuel → u = 1 + v → w = 6 + 11 * v → pg c (9 + v) E M → E 8 = .inl (K.2.1 6, 6, .inr (.inr (.inr (.inr (fun j => if j < v then some (c (9 + j)) else none))))) → (∀ q, q < v → E (9 + q) = .inr (2, [.int 6, .int 1, .int 1, .double FP.dconst0, .int 0, .int 0, .int 9, .int 0, .double FP.dconst0, .double FP.dconst0, .int 0])) → (∀ i, i < 9 → i ≠ 8 → E i = E0 i) → (∀ i, i < 9 → c i = c0 i) → f_X0_init_b20 K k fuel u w v0 (Int32.ofNat v) M := by
  intro d
  induction d with
  | zero =>
    intro fuel v u w c E M hv hf hu hw h h1 h2 h3 h4
    obtain ⟨fuel, rfl⟩ : ∃ e, fuel = e + 1 := ⟨fuel - 1, by omega⟩
    have hvn : v = 6 := by omega
    subst hvn
    show f_X0_init_b20_body K k (f_X0_init_b20 K k fuel) u w v0 (Int32.ofNat 6) M
    unfold f_X0_init_b20_body
    exact s_ifT (by decide) (s_as (by omega) (hk c E M u w (by omega) (by omega) h h1 h2 h3 h4))
  | succ d ih =>
    intro fuel v u w c E M hv hf hu hw h h1 h2 h3 h4
    obtain ⟨fuel, rfl⟩ : ∃ e, fuel = e + 1 := ⟨fuel - 1, by omega⟩
    show f_X0_init_b20_body K k (f_X0_init_b20 K k fuel) u w v0 (Int32.ofNat v) M
    unfold f_X0_init_b20_body
    have hob : M v0 = some (.inr (1, ofs)) := by
      have := h.2 7 (by omega)
      rw [h4 7 (by decide), hoc, h3 7 (by decide) (by decide), ho] at this
      exact this
    have har : M (c0 8) = some (.inl (K.2.1 6, 6, .inr (.inr (.inr (.inr (fun j => if j < v then some (c (9 + j)) else none)))))) := by
      have := h.2 8 (by omega)
      rw [h4 8 (by decide), h1] at this
      exact this
    refine s_ifF ?_ (s_getR hob hof (s_as (by omega) (fun x hx => s_as (by omega) ?_)))
    · show ¬ Int32.ofNat 6 ≤ _
      rw [i_le (by omega) (by omega)]; omega
    unfold f_X1_init
    refine u_put (by show 0 < 11; decide) (u_put (by show 1 < 11; decide) (u_put (by show 2 < 11; decide) (u_put (by show 3 < 11; decide) (u_putZ (Or.inl rfl) (by show 4 < 11; decide) (u_put (by show 5 < 11; decide) (u_put (by show 6 < 11; decide) (u_put (by show 7 < 11; decide) (u_put (by show 8 < 11; decide) (u_put (by show 9 < 11; decide) (u_put (by show 10 < 11; decide) ?_))))))))))
    have h5 := h.new (e := .inr (2, [.int 6, .int 1, .int 1, .double FP.dconst0, .int 0, .int 0, .int 9, .int 0, .double FP.dconst0, .double FP.dconst0, .int 0])) hx
    have hxa : x ≠ c0 8 := fun e9 => by have := hx.2 _ _ har; omega
    refine ⟨6, _, _, (mUp_ne hxa.symm).trans har, mUp_same, i_in (by omega) (by omega), ?_⟩
    rw [i_nat (by omega), i_succ]
    have h6 := h5.up (i := 8) (e := .inl (K.2.1 6, 6, .inr (.inr (.inr (.inr (va_up (fun j => if j < v then some (c (9 + j)) else none) v (some x))))))) (by omega)
    have eca : up1 c (9 + v) x 8 = c0 8 := by rw [up1_ne (by omega), h4 8 (by decide)]
    rw [eca] at h6
    refine ih fuel (v + 1) _ _ (up1 c (9 + v) x) _ _ (by omega) (by omega) (by omega) (by omega) h6 ?_ (fun q hq => ?_) (fun i hi hia => ?_) (fun i hi => ?_)
    · rw [up1_same]
      congr 7
      funext j
      unfold va_up
      by_cases hj1 : j = v
      · rw [if_pos hj1, if_pos (by omega), hj1, up1_same]
      · rw [if_neg hj1, up1_ne (by omega)]
        show (if j < v then some (c (9 + j)) else none) = _
        by_cases hj2 : j < v
        · rw [if_pos hj2, if_pos (by omega)]
        · rw [if_neg hj2, if_neg (by omega)]
    · rw [up1_ne (by omega)]
      by_cases hq1 : q = v
      · rw [hq1, up1_same]
      · rw [up1_ne (by omega)]; exact h2 q (by omega)
    · rw [up1_ne hia, up1_ne (by omega)]; exact h3 i hi hia
    · rw [up1_ne (by omega)]; exact h4 i hi
/-- the loop that makes the jumpers -/
theorem i_loopJ {E0 : Nat → va_E} {c0 : Nat → Nat} {v0 : Nat} {ofs : List Value} {k : Mem → Prop} (ho : E0 0 = .inr (6, ofs)) (hoc : c0 0 = v0) (hof : ofs[0]? = some (.ref (c0 1)))
    (hk : ∀ c E M u w, u = 15 + 8 → w = 129 + 12 * 8 → pg c (16 + 8) E M → E 1 = .inl (K.2.1 4, 8, .inr (.inr (.inr (.inr (fun j => if j < 8 then some (c (16 + j)) else none))))) → (∀ q, q < 8 → E (16 + q) = .inr (3, [.int 0, .int 0, .int (-1), .int 0, .int 0, .int 0, .int 0, .int 0, .double FP.dconst0, .double FP.dconst0, .int 0, .int 6])) → (∀ i, i < 16 → i ≠ 1 → E i = E0 i) → (∀ i, i < 16 → c i = c0 i) → f_X5_init_b152 K k mFuel u w v0 0 M) :
    ∀ (d fuel v u w : Nat) (c : Nat → Nat) (E : Nat → va_E) (M : Mem), v + d = 8 → d < fuel → u = 15 + v → w = 129 + 12 * v → pg c (16 + v) E M → E 1 = .inl (K.2.1 4, 8, .inr (.inr (.inr (.inr (fun j => if j < v then some (c (16 + j)) else none))))) → (∀ q, q < v → E (16 + q) = .inr (3, [.int 0, .int 0, .int (-1), .int 0, .int 0, .int 0, .int 0, .int 0, .double FP.dconst0, .double FP.dconst0, .int 0, .int 6])) → (∀ i, i < 16 → i ≠ 1 → E i = E0 i) → (∀ i, i < 16 → c i = c0 i) → f_X5_init_b125 K k fuel u w v0 (Int32.ofNat v) M := by
  intro d
  induction d with
  | zero =>
    intro fuel v u w c E M hv hf hu hw h h1 h2 h3 h4
    obtain ⟨fuel, rfl⟩ : ∃ e, fuel = e + 1 := ⟨fuel - 1, by omega⟩
    have hvn : v = 8 := by omega
    subst hvn
    show f_X5_init_b125_body K k (f_X5_init_b125 K k fuel) u w v0 (Int32.ofNat 8) M
    unfold f_X5_init_b125_body
    exact s_ifT (by decide) (hk c E M u w (by omega) (by omega) h h1 h2 h3 h4)
  | succ d ih =>
    intro fuel v u w c E M hv hf hu hw h h1 h2 h3 h4
    obtain ⟨fuel, rfl⟩ : ∃ e, fuel = e + 1 := ⟨fuel - 1, by omega⟩
    show f_X5_init_b125_body K k (f_X5_init_b125 K k fuel) u w v0 (Int32.ofNat v) M
    unfold f_X5_init_b125_body
    have hob : M v0 = some (.inr (6, ofs)) := by
      have := h.2 0 (by omega)
      rw [h4 0 (by decide), hoc, h3 0 (by decide) (by decide), ho] at this
      exact this
    have har : M (c0 1) = some (.inl (K.2.1 4, 8, .inr (.inr (.inr (.inr (fun j => if j < v then some (c (16 + j)) else none)))))) := by
      have := h.2 1 (by omega)
      rw [h4 1 (by decide), h1] at this
      exact this
    refine s_ifF ?_ (s_getR hob hof (s_as (by omega) (fun x hx => s_as (by omega) ?_)))
    · show ¬ Int32.ofNat 8 ≤ _
      rw [i_le (by omega) (by omega)]; omega
    unfold f_X2_init
    refine u_put (by show 0 < 12; decide) (u_put (by show 1 < 12; decide) (u_put (by show 2 < 12; decide) (u_put (by show 3 < 12; decide) (u_put (by show 4 < 12; decide) (u_put (by show 5 < 12; decide) (u_put (by show 6 < 12; decide) (u_put (by show 7 < 12; decide) (u_put (by show 8 < 12; decide) (u_put (by show 9 < 12; decide) (u_put (by show 10 < 12; decide) (u_put (by show 11 < 12; decide) ?_)))))))))))
    have h5 := h.new (e := .inr (3, [.int 0, .int 0, .int (-1), .int 0, .int 0, .int 0, .int 0, .int 0, .double FP.dconst0, .double FP.dconst0, .int 0, .int 6])) hx
    have hxa : x ≠ c0 1 := fun e9 => by have := hx.2 _ _ har; omega
    refine ⟨8, _, _, (mUp_ne hxa.symm).trans har, mUp_same, i_in (by omega) (by omega), ?_⟩
    rw [i_nat (by omega), i_succ]
    have h6 := h5.up (i := 1) (e := .inl (K.2.1 4, 8, .inr (.inr (.inr (.inr (va_up (fun j => if j < v then some (c (16 + j)) else none) v (some x))))))) (by omega)
    have eca : up1 c (16 + v) x 1 = c0 1 := by rw [up1_ne (by omega), h4 1 (by decide)]
    rw [eca] at h6
    refine ih fuel (v + 1) _ _ (up1 c (16 + v) x) _ _ (by omega) (by omega) (by omega) (by omega) h6 ?_ (fun q hq => ?_) (fun i hi hia => ?_) (fun i hi => ?_)
    · rw [up1_same]
      congr 7
      funext j
      unfold va_up
      by_cases hj1 : j = v
      · rw [if_pos hj1, if_pos (by omega), hj1, up1_same]
      · rw [if_neg hj1, up1_ne (by omega)]
        show (if j < v then some (c (16 + j)) else none) = _
        by_cases hj2 : j < v
        · rw [if_pos hj2, if_pos (by omega)]
        · rw [if_neg hj2, if_neg (by omega)]
    · rw [up1_ne (by omega)]
      by_cases hq1 : q = v
      · rw [hq1, up1_same]
      · rw [up1_ne (by omega)]; exact h2 q (by omega)
    · rw [up1_ne hia, up1_ne (by omega)]; exact h3 i hi hia
    · rw [up1_ne (by omega)]; exact h4 i hi
/-- the loop that makes the rigs -/
theorem i_loopG {E0 : Nat → va_E} {c0 : Nat → Nat} {v0 : Nat} {ofs : List Value} {k : Mem → Prop} (ho : E0 0 = .inr (6, ofs)) (hoc : c0 0 = v0) (hof : ofs[2]? = some (.ref (c0 2)))
    (hk : ∀ c E M u w, u = 23 + 8 → w = 225 + 5 * 8 → pg c (24 + 8) E M → E 2 = .inl (K.2.1 5, 8, .inr (.inr (.inr (.inr (fun j => if j < 8 then some (c (24 + j)) else none))))) → (∀ q, q < 8 → E (24 + q) = .inr (4, [.int 0, .int 0, .int 0, .int 0, .float FP.fconst0])) → (∀ i, i < 24 → i ≠ 2 → E i = E0 i) → (∀ i, i < 24 → c i = c0 i) → k M) :
    ∀ (d fuel v u w : Nat) (c : Nat → Nat) (E : Nat → va_E) (M : Mem), v + d = 8 → d < fuel → u = 23 + v → w = 225 + 5 * v → pg c (24 + v) E M → E 2 = .inl (K.2.1 5, 8, .inr (.inr (.inr (.inr (fun j => if j < v then some (c (24 + j)) else none))))) → (∀ q, q < v → E (24 + q) = .inr (4, [.int 0, .int 0, .int 0, .int 0, .float FP.fconst0])) → (∀ i, i < 24 → i ≠ 2 → E i = E0 i) → (∀ i, i < 24 → c i = c0 i) → f_X5_init_b152 K k fuel u w v0 (Int32.ofNat v) M := by
  intro d
  induction d with
  | zero =>
    intro fuel v u w c E M hv hf hu hw h h1 h2 h3 h4
    obtain ⟨fuel, rfl⟩ : ∃ e, fuel = e + 1 := ⟨fuel - 1, by omega⟩
    have hvn : v = 8 := by omega
    subst hvn
    show f_X5_init_b152_body K k (f_X5_init_b152 K k fuel) u w v0 (Int32.ofNat 8) M
    unfold f_X5_init_b152_body
    exact s_ifT (by decide) (s_as (by omega) (hk c E M u w (by omega) (by omega) h h1 h2 h3 h4))
  | succ d ih =>
    intro fuel v u w c E M hv hf hu hw h h1 h2 h3 h4
    obtain ⟨fuel, rfl⟩ : ∃ e, fuel = e + 1 := ⟨fuel - 1, by omega⟩
    show f_X5_init_b152_body K k (f_X5_init_b152 K k fuel) u w v0 (Int32.ofNat v) M
    unfold f_X5_init_b152_body
    have hob : M v0 = some (.inr (6, ofs)) := by
      have := h.2 0 (by omega)
      rw [h4 0 (by decide), hoc, h3 0 (by decide) (by decide), ho] at this
      exact this
    have har : M (c0 2) = some (.inl (K.2.1 5, 8, .inr (.inr (.inr (.inr (fun j => if j < v then some (c (24 + j)) else none)))))) := by
      have := h.2 2 (by omega)
      rw [h4 2 (by decide), h1] at this
      exact this
    refine s_ifF ?_ (s_getR hob hof (s_as (by omega) (fun x hx => s_as (by omega) ?_)))
    · show ¬ Int32.ofNat 8 ≤ _
      rw [i_le (by omega) (by omega)]; omega
    unfold f_X3_init
    refine u_put (by show 0 < 5; decide) (u_put (by show 1 < 5; decide) (u_put (by show 2 < 5; decide) (u_putZ (Or.inl rfl) (by show 3 < 5; decide) (u_put (by show 4 < 5; decide) ?_))))
    have h5 := h.new (e := .inr (4, [.int 0, .int 0, .int 0, .int 0, .float FP.fconst0])) hx
    have hxa : x ≠ c0 2 := fun e9 => by have := hx.2 _ _ har; omega
    refine ⟨8, _, _, (mUp_ne hxa.symm).trans har, mUp_same, i_in (by omega) (by omega), ?_⟩
    rw [i_nat (by omega), i_succ]
    have h6 := h5.up (i := 2) (e := .inl (K.2.1 5, 8, .inr (.inr (.inr (.inr (va_up (fun j => if j < v then some (c (24 + j)) else none) v (some x))))))) (by omega)
    have eca : up1 c (24 + v) x 2 = c0 2 := by rw [up1_ne (by omega), h4 2 (by decide)]
    rw [eca] at h6
    refine ih fuel (v + 1) _ _ (up1 c (24 + v) x) _ _ (by omega) (by omega) (by omega) (by omega) h6 ?_ (fun q hq => ?_) (fun i hi hia => ?_) (fun i hi => ?_)
    · rw [up1_same]
      congr 7
      funext j
      unfold va_up
      by_cases hj1 : j = v
      · rw [if_pos hj1, if_pos (by omega), hj1, up1_same]
      · rw [if_neg hj1, up1_ne (by omega)]
        show (if j < v then some (c (24 + j)) else none) = _
        by_cases hj2 : j < v
        · rw [if_pos hj2, if_pos (by omega)]
        · rw [if_neg hj2, if_neg (by omega)]
    · rw [up1_ne (by omega)]
      by_cases hq1 : q = v
      · rw [hq1, up1_same]
      · rw [up1_ne (by omega)]; exact h2 q (by omega)
    · rw [up1_ne hia, up1_ne (by omega)]; exact h3 i hi hia
    · rw [up1_ne (by omega)]; exact h4 i hi
theorem i_none {c : Nat → Nat} {m : Nat} : (fun _ => none : Nat → Option Nat) = fun j => if j < 0 then some (c (m + j)) else none := by
  funext j; rw [if_neg (Nat.not_lt_zero j)]
theorem c_init {a0 : Nat} {k : Mem → Prop} (h : M a0 = some (.inr (6, [.null, .int 0, .null, .int 0, .null, .null, .int 0, .int 0, .null, .null, .int 0, .int 0, .int 0, .int 0, .int 0, .int 0, .int 0, .int 0]))) (hk : ∀ c M2, c 0 = a0 → picC K c A0 M2 M2 → k M2) : f_X5_init K a0 k M := by
  have p : pg (fun _ => a0) 1 (fun _ => .inr (6, [.null, .int 0, .null, .int 0, .null, .null, .int 0, .int 0, .null, .null, .int 0, .int 0, .int 0, .int 0, .int 0, .int 0, .int 0, .int 0])) M := ⟨fun i j _ _ _ => by omega, fun i _ => h⟩
  unfold f_X5_init f_X4_init f_X0_init f_X1_init
  refine s_as (by decide) (p.mk (fun x1 M p => p.put (i := 0) (by decide) rfl rfl (by show 0 < 18; decide) (fun M p => p.put (i := 0) (by decide) rfl rfl (by show 1 < 18; decide) (fun M p => s_as (by decide) (p.mk (fun x2 M p => p.put (i := 0) (by decide) rfl rfl (by show 2 < 18; decide) (fun M p => p.put (i := 0) (by decide) rfl rfl (by show 3 < 18; decide) (fun M p => s_as (by decide) (p.mk (fun x3 M p => s_as (by decide) (p.mk (fun x4 M p => p.put (i := 3) (by decide) rfl rfl (by show 0 < 2; decide) (fun M p => p.mk (fun x5 M p => p.put (i := 3) (by decide) rfl rfl (by show 1 < 2; decide) (fun M p => ?_)))))))))))))))
  simp only [List.set_cons_succ, List.set_cons_zero, up1_up1] at p
  refine p.put (i := 0) (by decide) rfl rfl (by show 4 < 18; decide) (fun M p => s_as (by decide) (p.mk (fun x6 M p => p.put (i := 0) (by decide) rfl rfl (by show 5 < 18; decide) (fun M p => p.put (i := 0) (by decide) rfl rfl (by show 6 < 18; decide) (fun M p => ⟨Or.inl rfl, p.put (i := 0) (by decide) rfl rfl (by show 7 < 18; decide) (fun M p => s_as (by decide) (p.mk (fun x7 M p => s_as (by decide) (s_as (by decide) (p.mk (fun x8 M p => p.put (i := 7) (by decide) rfl rfl (by show 0 < 2; decide) (fun M p => p.put (i := 7) (by decide) rfl rfl (by show 1 < 2; decide) (fun M p => ?_))))))))⟩)))))
  simp only [List.set_cons_succ, List.set_cons_zero, up1_up1] at p
  refine i_loopQ rfl rfl rfl (fun c E M u w hu hw p1 q1 q2 q3 q4 => ?_) 6 mFuel 0 (0 + 1) (0 + 6) _ _ M rfl (by decide) rfl rfl p ?_ (fun q hq => absurd hq (Nat.not_lt_zero q)) (fun i _ _ => rfl) (fun i _ => rfl)
  rotate_left
  · show (Sum.inl (K.2.1 6, 6, _) : va_E) = _
    rw [← i_none]
  have g0 : c 0 = a0 := q4 0 (by decide)
  have g1 : c 1 = x1 := q4 1 (by decide)
  have g2 : c 2 = x2 := q4 2 (by decide)
  have g3 : c 3 = x3 := q4 3 (by decide)
  have g4 : c 4 = x4 := q4 4 (by decide)
  have g5 : c 5 = x5 := q4 5 (by decide)
  have g6 : c 6 = x6 := q4 6 (by decide)
  have g7 : c 7 = x7 := q4 7 (by decide)
  have g8 : c 8 = x8 := q4 8 (by decide)
  refine p1.put (i := 0) (by decide) g0 (q3 0 (by decide) (by decide)) (by show 8 < 18; decide) (fun M p => s_as (by decide) (p.mk (fun x9 M p => s_as (by decide) ?_)))
  refine p.put (i := 15) (by decide) rfl rfl (by show 0 < 11; decide) (fun M p => p.put (i := 15) (by decide) rfl rfl (by show 1 < 11; decide) (fun M p => p.put (i := 15) (by decide) rfl rfl (by show 2 < 11; decide) (fun M p => p.put (i := 15) (by decide) rfl rfl (by show 3 < 11; decide) (fun M p => ⟨Or.inl rfl, p.put (i := 15) (by decide) rfl rfl (by show 4 < 11; decide) (fun M p => p.put (i := 15) (by decide) rfl rfl (by show 5 < 11; decide) (fun M p => p.put (i := 15) (by decide) rfl rfl (by show 6 < 11; decide) (fun M p => p.put (i := 15) (by decide) rfl rfl (by show 7 < 11; decide) (fun M p => p.put (i := 15) (by decide) rfl rfl (by show 8 < 11; decide) (fun M p => p.put (i := 15) (by decide) rfl rfl (by show 9 < 11; decide) (fun M p => p.put (i := 15) (by decide) rfl rfl (by show 10 < 11; decide) (fun M p => ?_)))))))⟩))))
  simp only [List.set_cons_succ, List.set_cons_zero, up1_up1] at p
  refine p.put (i := 0) (by decide) g0 rfl (by show 9 < 18; decide) (fun M p => p.put (i := 0) (by decide) g0 rfl (by show 10 < 18; decide) (fun M p => p.put (i := 0) (by decide) g0 rfl (by show 11 < 18; decide) (fun M p => p.put (i := 0) (by decide) g0 rfl (by show 12 < 18; decide) (fun M p => p.put (i := 0) (by decide) g0 rfl (by show 13 < 18; decide) (fun M p => p.put (i := 0) (by decide) g0 rfl (by show 14 < 18; decide) (fun M p => p.put (i := 0) (by decide) g0 rfl (by show 15 < 18; decide) (fun M p => p.put (i := 0) (by decide) g0 rfl (by show 16 < 18; decide) (fun M p => p.put (i := 0) (by decide) g0 rfl (by show 17 < 18; decide) (fun M p => ?_)))))))))
  simp only [List.set_cons_succ, List.set_cons_zero, up1_up1] at p
  have pN : pg (up1 c (9 + 6) x9) (9 + 6 + 1) (up1 (up1 E 0 (.inr (6, [.ref x1, .int 0, .ref x2, .int 0, .ref x3, .ref x6, .int 0, .int 0, .ref x7, .ref x9, .int 0, .int 3, .int 0, .int 0, .int 0, .int 0, .int 0, .int 0]))) 15 (.inr (2, [.int 6, .int 1, .int 1, .double FP.dconst0, .int 0, .int 0, .int 9, .int 0, .double FP.dconst0, .double FP.dconst0, .int 0]))) M := p.cg (fun i hi => by
    by_cases h0 : i = 0
    · subst h0
      simp only [up1_ne (show (0 : Nat) ≠ 15 by decide), up1_same]
    · by_cases h15 : i = 15
      · subst h15
        simp only [up1_ne (show (15 : Nat) ≠ 0 by decide), up1_same]
      · simp only [up1_ne h0, up1_ne h15, up1_ne (show i ≠ 9 + 6 from h15)])
  refine i_loopJ (c0 := up1 c (9 + 6) x9) (E0 := up1 (up1 E 0 (.inr (6, [.ref x1, .int 0, .ref x2, .int 0, .ref x3, .ref x6, .int 0, .int 0, .ref x7, .ref x9, .int 0, .int 3, .int 0, .int 0, .int 0, .int 0, .int 0, .int 0]))) 15 (.inr (2, [.int 6, .int 1, .int 1, .double FP.dconst0, .int 0, .int 0, .int 9, .int 0, .double FP.dconst0, .double FP.dconst0, .int 0]))) (ofs := [.ref x1, .int 0, .ref x2, .int 0, .ref x3, .ref x6, .int 0, .int 0, .ref x7, .ref x9, .int 0, .int 3, .int 0, .int 0, .int 0, .int 0, .int 0, .int 0]) rfl g0 (by show some (Value.ref x1) = some (Value.ref (c 1)); rw [g1]) (fun c2 E2 M u w hu hw p2 r1 r2 r3 r4 => ?_) 8 mFuel 0 _ _ _ _ M rfl (by decide) rfl rfl pN ?_ (fun q hq => absurd hq (Nat.not_lt_zero q)) (fun i _ _ => rfl) (fun i _ => rfl)
  rotate_left
  · show E 1 = _
    rw [q3 1 (by decide) (by decide), ← i_none]; rfl
  have j0 : c2 0 = a0 := (r4 0 (by decide)).trans g0
  have j2 : c2 2 = x2 := (r4 2 (by decide)).trans g2
  refine i_loopG (ofs := [.ref x1, .int 0, .ref x2, .int 0, .ref x3, .ref x6, .int 0, .int 0, .ref x7, .ref x9, .int 0, .int 3, .int 0, .int 0, .int 0, .int 0, .int 0, .int 0]) (r3 0 (by decide) (by decide)) j0 (by show some (Value.ref x2) = _; rw [j2]) (fun c3 E3 M u w hu hw p3 s1 s2 s3 s4 => hk c3 M ((s4 0 (by decide)).trans j0) ?_) 8 mFuel 0 _ _ _ _ M rfl (by decide) hu hw p2 ?_ (fun q hq => absurd hq (Nat.not_lt_zero q)) (fun i _ _ => rfl) (fun i _ => rfl)
  rotate_left
  · rw [r3 2 (by decide) (by decide)]
    show E 2 = _
    rw [q3 2 (by decide) (by decide), ← i_none]; rfl
  have cc : ∀ i, i < 9 → c3 i = c i := fun i hi => (s4 i (by omega)).trans ((r4 i (by omega)).trans (up1_ne (by omega)))
  have c9 : ∀ j, j < 6 → c3 (9 + j) = c (9 + j) := fun j hj => (s4 _ (by omega)).trans ((r4 _ (by omega)).trans (up1_ne (by omega)))
  have c15 : c3 15 = x9 := (s4 15 (by decide)).trans ((r4 15 (by decide)).trans up1_same)
  have c16 : ∀ j, j < 8 → c3 (16 + j) = c2 (16 + j) := fun j hj => s4 _ (by omega)
  have old : ∀ i, 0 < i → i < 9 → i ≠ 1 → i ≠ 2 → E3 i = E i := fun i h0 h1 h2 h3 => by
    rw [s3 i (by omega) h3, r3 i (by omega) h2]
    rw [up1_ne (by omega), up1_ne (by omega)]
  refine ⟨fun i j hi hj e => p3.1 i j hi hj e, fun i hi => (p3.2 i hi).trans ?_, fun _ _ => rfl⟩
  congr 1
  have hi9 : i = 0 ∨ i = 1 ∨ i = 2 ∨ i = 3 ∨ i = 4 ∨ i = 5 ∨ i = 6 ∨ i = 7 ∨ i = 8 ∨ (∃ j, j < 6 ∧ i = 9 + j) ∨ i = 15 ∨ (∃ j, j < 8 ∧ i = 16 + j) ∨ (∃ j, j < 8 ∧ i = 24 + j) := by
    by_cases h1 : i < 9
    · omega
    · by_cases h2 : i < 15
      · have : ∃ j, j < 6 ∧ i = 9 + j := ⟨i - 9, by omega, by omega⟩
        simp [this]
      · by_cases h3 : i < 16
        · omega
        · by_cases h4 : i < 24
          · have : ∃ j, j < 8 ∧ i = 16 + j := ⟨i - 16, by omega, by omega⟩
            simp [this]
          · have : ∃ j, j < 8 ∧ i = 24 + j := ⟨i - 24, by omega, by omega⟩
            simp [this]
  have ez : FP.dconst0 = em 0 := em_c0
  rcases hi9 with rfl | rfl | rfl | rfl | rfl | rfl | rfl | rfl | rfl | ⟨j, hj, rfl⟩ | rfl | ⟨j, hj, rfl⟩ | ⟨j, hj, rfl⟩
  · rw [s3 0 (by decide) (by decide), r3 0 (by decide) (by decide)]
    show _ = Sum.inr (6, sfl c3 A0)
    unfold sfl
    rw [cc 1 (by decide), cc 2 (by decide), cc 3 (by decide), cc 6 (by decide), cc 7 (by decide), c15, g1, g2, g3, g6, g7]
    rfl
  · rw [s3 1 (by decide) (by decide), r1]
    show _ = (Sum.inl (K.2.1 4, 8, .inr (.inr (.inr (.inr (fun j => if j < 8 then some (c3 (16 + j)) else none))))) : va_E)
    congr 7
    funext j
    by_cases hj : j < 8
    · rw [if_pos hj, if_pos hj, c16 j hj]
    · rw [if_neg hj, if_neg hj]
  · rw [s1]; rfl
  · rw [old 3 (by decide) (by decide) (by decide) (by decide), q3 3 (by decide) (by decide)]
    show _ = Sum.inr (5, [Value.ref (c3 4), Value.ref (c3 5)])
    rw [cc 4 (by decide), cc 5 (by decide), g4, g5]
    rfl
  · rw [old 4 (by decide) (by decide) (by decide) (by decide), q3 4 (by decide) (by decide)]; rfl
  · rw [old 5 (by decide) (by decide) (by decide) (by decide), q3 5 (by decide) (by decide)]; rfl
  · rw [old 6 (by decide) (by decide) (by decide) (by decide), q3 6 (by decide) (by decide)]; rfl
  · rw [old 7 (by decide) (by decide) (by decide) (by decide), q3 7 (by decide) (by decide)]
    show _ = Sum.inr (1, [Value.ref (c3 8), Value.int 0])
    rw [cc 8 (by decide), g8]
    rfl
  · rw [old 8 (by decide) (by decide) (by decide) (by decide), q1]
    show _ = (Sum.inl (K.2.1 6, 6, .inr (.inr (.inr (.inr (fun j => if j < 6 then some (c3 (9 + j)) else none))))) : va_E)
    congr 7
    funext j
    by_cases hj : j < 6
    · rw [if_pos hj, if_pos hj, c9 j hj]
    · rw [if_neg hj, if_neg hj]
  · have e : E3 (9 + j) = E (9 + j) := by
      rw [s3 _ (by omega) (by omega), r3 _ (by omega) (by omega)]
      rw [up1_ne (by omega), up1_ne (by omega)]
    rw [e, q2 j hj, cell_q (by omega), ez]
    rfl
  · rw [s3 15 (by decide) (by decide), r3 15 (by decide) (by decide)]
    show _ = jcq (cQ A0 6)
    rw [ez]
    rfl
  · rw [s3 _ (by omega) (by omega), r2 j hj, cell_j hj, ez]
    rfl
  · rw [s2 j hj, cell_g]
    rfl
end PG
