/-! ===== THE REFERENCE: a flight goes ===== -/
def goP (K : Cfg) (r : Nat → Nat) (nJ nR : Nat) (A : CS) (T : RT) (M0 : Mem) (la lb : Nat) (g : Nat → Nat) (n x3 : Nat) (E : Nat → JS → va_E) (s : Nat → JS) (F : Nat → Nat → Int32) (M : Mem) : Prop :=
  picR K r nJ nR A T M0 M ∧ picT K r nJ nR M0 la lb g n (fun j => E j (s j)) M ∧ (tq r nJ nR M0 x3 ∧ M x3 = some (.inl (K.2.1 8, n, .inr (.inr (.inr (.inr (fun i => if i < n then some (x3 + 1 + i) else none))))))) ∧ (∀ i, i < n → tq r nJ nR M0 (x3 + 1 + i) ∧ M (x3 + 1 + i) = some (.inl (K.2.1 3, n, .inl (F i)))) ∧ (0 < n → lb ≠ x3 ∧ ∀ i, i < n → lb ≠ x3 + 1 + i)
section REFH
variable {K : Cfg} {r : Nat → Nat} {nJ nR : Nat} {A : CS} {T : RT} {M0 M : Mem} {ln : List Nat} {la lb n x3 : Nat} {g : Nat → Nat} {E : Nat → JS → va_E} {s : Nat → JS} {F : Nat → Nat → Int32}
def isE (E : Nat → JS → va_E) : Prop := ∀ j s, ∃ fs : List Value, E j s = .inr (7, fs)
theorem jE_isE (A : CS) (ln : List Nat) (r : Nat → Nat) (g9 : Nat) (trs : Nat → Bool) : isE (jE A ln r g9 trs) := fun _ _ => ⟨_, rfl⟩
theorem picT.set {j : Nat} {S S2 : Nat → va_E} (hS : isJ S) (ht : picT K r nJ nR M0 la lb g n S M) (hj : j < n) (h2 : ∀ i, i ≠ j → S2 i = S i) : picT K r nJ nR M0 la lb g n S2 (mUp M (g j) (S2 j)) := by
  obtain ⟨⟨t1, md, t2⟩, t3, t4, t5, t6⟩ := ht
  obtain ⟨fs, hfs⟩ := hS j
  have h7 : M (g j) = some (.inr (7, fs)) := by rw [(t5 j hj).2, hfs]
  have hl : la ≠ g j := fun e => by
    rw [e, h7] at t2
    have h8 : (7 : Nat) = 0 := congrArg (fun o : Option va_E => match o with | some (.inr q) => q.1 | _ => 0) t2
    omega
  refine ⟨⟨t1, md, (mUp_ne hl).trans t2⟩, t3, fun h0 => ⟨(t4 h0).1, (t4 h0).2.1, (mUp_ne (fun e => ?_)).trans (t4 h0).2.2⟩, fun i hi => ?_, t6⟩
  · have h9 := (t4 h0).2.2
    rw [e, h7] at h9; cases h9
  · by_cases hij : i = j
    · subst hij; exact ⟨(t5 i hi).1, mUp_same⟩
    · rw [h2 i hij]
      exact ⟨(t5 i hi).1, (mUp_ne (fun e => hij (t6 i j hi hj e))).trans (t5 i hi).2⟩
theorem goP.tick {j : Nat} {s2 : JS} (hE : isE E) (h : goP K r nJ nR A T M0 la lb g n x3 E s F M) (hj : j < n) : goP K r nJ nR A T M0 la lb g n x3 E (up1 s j s2) F (mUp M (g j) (E j s2)) := by
  obtain ⟨h1, h2, ⟨h3, h4⟩, h5, h6⟩ := h
  have ht := h2.2.2.2.1 j hj
  obtain ⟨fs, hfs⟩ := hE j (s j)
  have h7 : M (g j) = some (.inr (7, fs)) := ht.2.trans (congrArg some hfs)
  have e2 : E j s2 = (fun i => E i (up1 s j s2 i)) j := by show _ = E j (up1 s j s2 j); rw [up1_same]
  refine ⟨h1.tmp ht.1.1 ht.1.2, ?_, ⟨h3, (mUp_ne (fun e => ?_)).trans h4⟩, fun i hi => ⟨(h5 i hi).1, (mUp_ne (fun e => ?_)).trans (h5 i hi).2⟩, h6⟩
  · rw [e2]
    exact picT.set (fun j => hE j _) h2 hj (fun i hi => by show E i (up1 s j s2 i) = E i (s i); rw [up1_ne hi])
  · rw [e, h7] at h4; cases h4
  · have h9 := (h5 i hi).2
    rw [e, h7] at h9; cases h9
theorem goP.row {a : Nat} {f2 : Nat → Int32} (hE : isE E) (h : goP K r nJ nR A T M0 la lb g n x3 E s F M) (ha : a < n) : goP K r nJ nR A T M0 la lb g n x3 E s (up1 F a f2) (mUp M (x3 + 1 + a) (.inl (K.2.1 3, n, .inl f2))) := by
  obtain ⟨h1, h2, ⟨h3, h4⟩, h5, h6⟩ := h
  obtain ⟨⟨t1, md, t2⟩, t3, t4, t5, t6⟩ := id h2
  have ht := h5 a ha
  refine ⟨h1.tmp ht.1.1 ht.1.2, ⟨⟨t1, md, (mUp_ne (fun e => ?_)).trans t2⟩, t3, fun h0 => ⟨(t4 h0).1, (t4 h0).2.1, (mUp_ne ((h6 h0).2 a ha)).trans (t4 h0).2.2⟩, fun j hj => ⟨(t5 j hj).1, (mUp_ne (fun e => ?_)).trans (t5 j hj).2⟩, t6⟩, ⟨h3, (mUp_ne (by omega)).trans h4⟩, fun i hi => ⟨(h5 i hi).1, ?_⟩, h6⟩
  · rw [e, ht.2] at t2; cases t2
  · obtain ⟨fs, hfs⟩ := hE j (s j)
    have h9 : M (g j) = some (E j (s j)) := (t5 j hj).2
    rw [e, ht.2, hfs] at h9; cases h9
  · by_cases hia : i = a
    · subst hia; rw [mUp_same, up1_same]
    · rw [mUp_ne (by omega), up1_ne hia]; exact (h5 i hi).2
theorem goP.cg {s2 : Nat → JS} (h : goP K r nJ nR A T M0 la lb g n x3 E s F M) (he : ∀ j, j < n → s2 j = s j) : goP K r nJ nR A T M0 la lb g n x3 E s2 F M := by
  obtain ⟨h1, ⟨t1, t3, t4, t5, t6⟩, h3, h5, h6⟩ := h
  exact ⟨h1, ⟨t1, t3, t4, fun j hj => ⟨(t5 j hj).1, by show M (g j) = some (E j (s2 j)); rw [he j hj]; exact (t5 j hj).2⟩, t6⟩, h3, h5, h6⟩
theorem t_size {k : Int32 → Mem → Prop} {S : Nat → va_E} (ht : picT K r nJ nR M0 la lb g n S M) (hk : k (Int32.ofNat n) M) : f_Jx4a65c_size_8abf5 K la k M := by
  obtain ⟨⟨t1, md, t2⟩, -⟩ := ht
  exact q_size t2 hk
theorem t_get {j : Nat} {k : Nat → Mem → Prop} {S : Nat → va_E} (ht : picT K r nJ nR M0 la lb g n S M) (hn : n ≤ 10) (hj : j < n) (hk : k (g j) M) : f_Jx4a65c_get_915e3 K la (Int32.ofNat j) k M := by
  obtain ⟨⟨t1, md, t2⟩, t3, t4, t5, t6⟩ := ht
  exact q_get t2 (t4 (by omega)).2.2 hn hj (if_pos hj) hk
theorem t_recv {k : Mem → Prop} {S : Nat → va_E} (ht : picT K r nJ nR M0 la lb g n S M) (hk : k M) : mRecv la 0 k M := by
  obtain ⟨⟨t1, md, t2⟩, -⟩ := ht
  exact s_recv t2 hk
section GO
variable {trs : Nat → Bool} {sp : Int} {g9 t u w : Nat} {k : Int32 → Mem → Prop} {lp24 : Nat → Nat → Nat → Nat → Int32 → Int32 → Int32 → Mem → Prop}
theorem x_goTick (huw : u ≤ 7 ∧ w ≤ 42) (hw : wfS A T nJ nR ln) (hn : cntOk A nJ nR) (hX : wbd (cX A)) (hY : wbd (cY A)) (hg : g9 ≤ 9) (hsp : -200 ≤ sp ∧ sp ≤ 200) (ht : t ≤ 1000) (many : Int32)
    (hk : ∀ M2, goP K r nJ nR A T M0 la lb g ln.length x3 (jE A ln r g9 trs) (fun j => (psQ A (flQ A ln trs sp g9) (t + 1) j).2.2) F M2 → f_X9_go_b111 K k lp24 mFuel u w la x3 many (Int32.ofNat (sumN (fun j => if (psQ A (flQ A ln trs sp g9) (t + 1) j).2.2.1 = 0 then 1 else 0) ln.length)) (Int32.ofNat t) 0 M2) :
    ∀ (d fuel v : Nat) (s : Nat → JS) (M : Mem), v + d = ln.length → d < fuel → goP K r nJ nR A T M0 la lb g ln.length x3 (jE A ln r g9 trs) s F M → (∀ j, j < v → s j = (psQ A (flQ A ln trs sp g9) (t + 1) j).2.2) → (∀ j, v ≤ j → j < ln.length → s j = (psQ A (flQ A ln trs sp g9) t j).2.2) → f_X9_go_b39 K k lp24 fuel u w la x3 many (Int32.ofNat (sumN (fun j => if (psQ A (flQ A ln trs sp g9) (t + 1) j).2.2.1 = 0 then 1 else 0) v)) (Int32.ofNat t) (Int32.ofNat v) M := by
  obtain ⟨hjs, hro, hl, ha, hlk⟩ := id hw
  have l1 := hl.1
  have hf := flQ_ok hn hl ha hro hX hg hsp trs
  intro d
  induction d with
  | zero =>
    intro fuel v s M hv hfu h h1 h2
    obtain ⟨fuel, rfl⟩ : ∃ e, fuel = e + 1 := ⟨fuel - 1, by omega⟩
    have hvn : v = ln.length := by omega
    subst hvn
    show f_X9_go_b39_body K k lp24 (f_X9_go_b39 K k lp24 fuel) u w la x3 many _ (Int32.ofNat t) (Int32.ofNat ln.length) M
    unfold f_X9_go_b39_body
    refine s_as huw (t_recv h.2.1 (t_size h.2.1 (s_ifT ?_ (hk M (h.cg (fun j hj => (h1 j hj).symm))))))
    rw [i_le (by omega) (by omega)]; omega
  | succ d ih =>
    intro fuel v s M hv hfu h h1 h2
    obtain ⟨fuel, rfl⟩ : ∃ e, fuel = e + 1 := ⟨fuel - 1, by omega⟩
    have hlt : v < ln.length := by omega
    have hsv := h2 v (Nat.le_refl _) hlt
    show f_X9_go_b39_body K k lp24 (f_X9_go_b39 K k lp24 fuel) u w la x3 many _ (Int32.ofNat t) (Int32.ofNat v) M
    unfold f_X9_go_b39_body
    have hvg : v * g9 ≤ 45 := Nat.le_trans (Nat.mul_le_mul (show v ≤ 5 by omega) hg) (by decide)
    have hstep := ps_step (A := A) (Q := flQ A ln trs sp g9) t v
    have hlv : (flQ A ln trs sp g9 v).2.1.2.1 = Int32.ofNat (v * g9) := rfl
    rw [hlv] at hstep
    have ok1 := (ps_ok (t := t + 1) hX hY hf hlt).2
    have b86 : ∀ (s2 : Nat → JS) (M : Mem), goP K r nJ nR A T M0 la lb g ln.length x3 (jE A ln r g9 trs) s2 F M → (∀ j, j ≠ v → s2 j = s j) → s2 v = (psQ A (flQ A ln trs sp g9) (t + 1) v).2.2 → f_X9_go_b86 K k lp24 (f_X9_go_b39 K k lp24 fuel) u w la x3 many (Int32.ofNat (sumN (fun j => if (psQ A (flQ A ln trs sp g9) (t + 1) j).2.2.1 = 0 then 1 else 0) v)) (Int32.ofNat t) (Int32.ofNat v) (g v) M := by
      intro s2 M h e1 e2
      unfold f_X9_go_b86 f_X9_go_b100
      have hc := (h.2.1.2.2.2.1 v hlt).2
      have hrec := ih fuel (v + 1) s2 M (by omega) (by omega) h (fun j hj => by
        by_cases hjv : j = v
        · rw [hjv]; exact e2
        · rw [e1 j hjv]; exact h1 j (by omega)) (fun j hj1 hj2 => by rw [e1 j (by omega)]; exact h2 j (by omega) hj2)
      have es : sumN (fun j => if (psQ A (flQ A ln trs sp g9) (t + 1) j).2.2.1 = 0 then 1 else 0) (v + 1) = sumN (fun j => if (psQ A (flQ A ln trs sp g9) (t + 1) j).2.2.1 = 0 then 1 else 0) v + (if (psQ A (flQ A ln trs sp g9) (t + 1) v).2.2.1 = 0 then 1 else 0) := rfl
      rw [es] at hrec
      refine s_as huw (s_recv hc (q_isDownS hc (by rw [e2]; exact ok1.1) ?_))
      rw [e2]
      by_cases hz : (psQ A (flQ A ln trs sp g9) (t + 1) v).2.2.1 = 0
      · rw [if_pos hz]
        rw [if_pos hz] at hrec
        refine s_ifF (by decide) ?_
        rw [i_succ, i_succ]; exact hrec
      · rw [if_neg hz]
        rw [if_neg hz, Nat.add_zero] at hrec
        refine s_ifT rfl ?_
        rw [i_add0, i_succ]; exact hrec
    have hc := (h.2.1.2.2.2.1 v hlt).2
    refine s_as huw (t_recv h.2.1 (t_size h.2.1 (s_ifF ?_ (s_as huw (t_recv h.2.1 (t_get h.2.1 (by omega) hlt (s_recv hc (s_getI hc rfl (s_if (fun c1 => b86 s M h (fun _ _ => rfl) ?_) (fun c1 => s_as huw (s_recv hc (q_isDownS hc ?_ ?_))))))))))))
    · rw [i_le (by omega) (by omega)]; omega
    · have c1 : Int32.ofNat t < Int32.ofNat (v * g9) := c1
      rw [hstep, if_neg (fun h9 => absurd c1 (i_nlt.mpr h9)), hsv]
    · rw [hsv]; exact (ps_ok (t := t) hX hY hf hlt).2.1
    · have c1 : Int32.ofNat (v * g9) ≤ Int32.ofNat t := i_nlt.mp c1
      rw [if_pos c1] at hstep
      by_cases hz : (s v).1 = 0
      · rw [if_pos hz]
        refine s_ifF (by decide) (b86 s M h (fun _ _ => rfl) ?_)
        rw [hstep, ← hsv]
        exact (stp_down hz).symm
      · rw [if_neg hz]
        obtain ⟨a1, a2, a3, a4, a5, a6, a7⟩ := ha _ (getD_mem hlt)
        have hld := (ld_some a2 hn.2.1 hro a3).2
        have htq := (h.2.1.2.2.2.1 v hlt).1
        refine s_ifT rfl (s_as huw (s_recv hc ?_))
        have hid := mUp_id hc
        rw [← hid]
        refine q_tick (N := 2500 + 20 * t) hld a6 a7 (h.1.env a1) (htq.2 _ (rv_j a1)) (htq.2 0 (rv_lo (by decide))) (htq.2 3 (rv_lo (by decide))) (htq.2 4 (rv_lo (by decide))) hX hY hz (by rw [hsv]; exact (ps_ok (t := t) hX hY hf hlt).2) (by omega) ?_
        exact b86 (up1 s v (jF (cJ A (ln.getD v 0) 10) (cJ A (ln.getD v 0) 1) (ldF A (ln.getD v 0)) (opN A (ln.getD v 0)) (trs v) (cX A) (cY A) (s v))) _ (h.tick (jE_isE A ln r g9 trs) hlt) (fun j hj => up1_ne hj) (by rw [up1_same, hstep, ← hsv]; rfl)
theorem x_goIn {Q : Nat → JQ} {a m0 : Nat} {down : Int32} {lp111 : Nat → Nat → Nat → Nat → Int32 → Int32 → Int32 → Int32 → Mem → Prop} (huw : u ≤ 7 ∧ w ≤ 42) (hQ : Q = flQ A ln trs sp g9) (hn6 : ln.length ≤ 6) (hX : wbd (cX A)) (hY : wbd (cY A)) (hf : flOk ln.length 2500 Q) (ht : t ≤ 1000) (ha : a < ln.length) :
    ∀ (d fuel b : Nat) (F : Nat → Nat → Int32) (M : Mem), b + d = a → d < fuel → goP K r nJ nR A T M0 la lb g ln.length x3 (jE A ln r g9 trs) (fun j => (psQ A Q (t + 1) j).2.2) F M → (∀ b2, b2 < b → F a b2 = if Nat.testBit (btQ A Q ln.length (t + 1) b2) a = true then 1 else 0) → (∀ b2, b ≤ b2 → b2 < a → F a b2 = if Nat.testBit (btQ A Q ln.length t b2) a = true then 1 else 0) →
      (∀ F2 M2, goP K r nJ nR A T M0 la lb g ln.length x3 (jE A ln r g9 trs) (fun j => (psQ A Q (t + 1) j).2.2) F2 M2 → (∀ a2, a2 ≠ a → F2 a2 = F a2) → (∀ b2, b2 < a → F2 a b2 = if Nat.testBit (btQ A Q ln.length (t + 1) b2) a = true then 1 else 0) → lp111 u w la x3 (Int32.ofNat (m0 + sumN (npQ (psQ A Q (t + 1)) (btQ A Q ln.length t) a) a)) down (Int32.ofNat t) (Int32.ofNat a + 1) M2) →
      f_X9_go_b125 K k lp24 lp111 fuel u w la x3 (Int32.ofNat (m0 + sumN (npQ (psQ A Q (t + 1)) (btQ A Q ln.length t) a) b)) down (Int32.ofNat t) (Int32.ofNat a) (Int32.ofNat b) M := by
  intro d
  induction d with
  | zero =>
    intro fuel b F M hb hfu h h1 h2 hk
    obtain ⟨fuel, rfl⟩ : ∃ e, fuel = e + 1 := ⟨fuel - 1, by omega⟩
    have hba : b = a := by omega
    subst hba
    show f_X9_go_b125_body K k lp24 lp111 (f_X9_go_b125 K k lp24 lp111 fuel) u w la x3 _ down (Int32.ofNat t) (Int32.ofNat b) (Int32.ofNat b) M
    unfold f_X9_go_b125_body
    exact s_ifT (Int32.le_refl _) (hk F M h (fun _ _ => rfl) h1)
  | succ d ih =>
    intro fuel b F M hb hfu h h1 h2 hk
    obtain ⟨fuel, rfl⟩ : ∃ e, fuel = e + 1 := ⟨fuel - 1, by omega⟩
    have hlt : b < a := by omega
    show f_X9_go_b125_body K k lp24 lp111 (f_X9_go_b125 K k lp24 lp111 fuel) u w la x3 _ down (Int32.ofNat t) (Int32.ofNat a) (Int32.ofNat b) M
    unfold f_X9_go_b125_body f_X9_go_b184
    have hFb := h2 b (Nat.le_refl _) hlt
    have hbit := bt_bit A Q ln.length t a b hlt ha
    have es : sumN (npQ (psQ A Q (t + 1)) (btQ A Q ln.length t) a) (b + 1) = sumN (npQ (psQ A Q (t + 1)) (btQ A Q ln.length t) a) b + (if (!Nat.testBit (btQ A Q ln.length t b) a && nrQ (psQ A Q (t + 1) b) (psQ A Q (t + 1) a)) = true then 1 else 0) := rfl
    have skip : (!Nat.testBit (btQ A Q ln.length t b) a && nrQ (psQ A Q (t + 1) b) (psQ A Q (t + 1) a)) = false → f_X9_go_b125 K k lp24 lp111 fuel u w la x3 (Int32.ofNat (m0 + sumN (npQ (psQ A Q (t + 1)) (btQ A Q ln.length t) a) b)) down (Int32.ofNat t) (Int32.ofNat a) (Int32.ofNat b + 1) M := by
      intro hno
      rw [i_succ]
      have hrec := ih fuel (b + 1) F M (by omega) (by omega) h (fun b2 hb2 => ?_) (fun b2 hb3 hb4 => h2 b2 (by omega) hb4) hk
      · rw [es, if_neg (by rw [hno]; decide), Nat.add_zero] at hrec
        exact hrec
      · by_cases hbb : b2 = b
        · subst hbb
          rw [hFb, hbit]
          cases q1 : Nat.testBit (btQ A Q ln.length t b2) a with
          | true => rfl
          | false =>
            rw [q1] at hno
            cases q2 : nrQ (psQ A Q (t + 1) b2) (psQ A Q (t + 1) a) with
            | false => rfl
            | true => rw [q2] at hno; exact absurd hno (by decide)
        · exact h1 b2 (by omega)
    have hrow := (h.2.2.2.1 a ha).2
    refine s_ifF (fun h9 => ?_) (s_ldQ h.2.2.1.2 (i_in (by omega) ha) (b := x3 + 1 + a) (by rw [i_nat (by omega)]; exact if_pos ha) ⟨_, _, hrow, i_in (by omega) (by omega), ?_⟩)
    · rw [i_le (by omega) (by omega)] at h9; omega
    rw [i_nat (by omega), hFb]
    cases q1 : Nat.testBit (btQ A Q ln.length t b) a with
    | true =>
      rw [if_pos rfl]
      exact s_ifF (by decide) (skip (by rw [q1]; rfl))
    | false =>
      rw [if_neg (by decide)]
      have hca := (h.2.1.2.2.2.1 a ha).2
      have hcb := (h.2.1.2.2.2.1 b (by omega)).2
      refine s_ifT rfl (s_as huw (t_recv h.2.1 (t_get h.2.1 (by omega) ha (s_recv hca (s_as huw (t_recv h.2.1 (t_get h.2.1 (by omega) (by omega) (s_recv hcb (s_as huw (s_recv hca ?_))))))))))
      refine q_meets (N := 2500 + 20 * (t + 1)) hca hcb (ps_ok (t := t + 1) hX hY hf ha).2 (ps_ok (t := t + 1) hX hY hf (by omega)).2 (by omega) ?_
      have hnear : nearZ (opF (opN A (ln.getD a 0)) (trs a)) (psQ A Q (t + 1) a).2.2.1 (psQ A Q (t + 1) a).2.2.2.2.1 (psQ A Q (t + 1) a).2.2.2.2.2 (opF (opN A (ln.getD b 0)) (trs b)) (psQ A Q (t + 1) b).2.2.1 (psQ A Q (t + 1) b).2.2.2.2.1 (psQ A Q (t + 1) b).2.2.2.2.2 = nrQ (psQ A Q (t + 1) b) (psQ A Q (t + 1) a) := by
        rw [nearZ_symm]
        unfold nrQ
        rw [ps_1 (t + 1) a, ps_1 (t + 1) b, hQ]
        rfl
      rw [hnear]
      cases q2 : nrQ (psQ A Q (t + 1) b) (psQ A Q (t + 1) a) with
      | false =>
        rw [if_neg (by decide)]
        exact s_ifT rfl (skip (by rw [q1, q2]; rfl))
      | true =>
        rw [if_pos rfl]
        refine s_ifF (by decide) (s_ldQ h.2.2.1.2 (i_in (by omega) ha) (b := x3 + 1 + a) (by rw [i_nat (by omega)]; exact if_pos ha) ⟨_, _, hrow, i_in (by omega) (by omega), Or.inr rfl, ?_⟩)
        have hg2 := h.row (f2 := upd (F a) b 1) (jE_isE A ln r g9 trs) ha
        rw [i_nat (by omega), i_succ, i_succ]
        have hrec := ih fuel (b + 1) (up1 F a (upd (F a) b 1)) _ (by omega) (by omega) hg2 (fun b2 hb2 => ?_) (fun b2 hb3 hb4 => ?_) (fun F2 M2 k1 k2 k3 => hk F2 M2 k1 (fun a2 ha2 => (k2 a2 ha2).trans (up1_ne ha2)) k3)
        · rw [es, q1, q2, if_pos (by decide)] at hrec
          exact hrec
        · rw [up1_same]
          by_cases hbb : b2 = b
          · subst hbb
            rw [upd_at, hbit, q1, q2]; rfl
          · rw [upd_ne hbb]; exact h1 b2 (by omega)
        · rw [up1_same, upd_ne (by omega)]; exact h2 b2 (by omega) hb4
theorem x_goOut {Q : Nat → JQ} {m0 : Nat} {down : Int32} (huw : u ≤ 7 ∧ w ≤ 42) (hQ : Q = flQ A ln trs sp g9) (hn6 : ln.length ≤ 6) (hX : wbd (cX A)) (hY : wbd (cY A)) (hf : flOk ln.length 2500 Q) (ht : t ≤ 1000)
    (hk : ∀ F2 M2, goP K r nJ nR A T M0 la lb g ln.length x3 (jE A ln r g9 trs) (fun j => (psQ A Q (t + 1) j).2.2) F2 M2 → (∀ a, a < ln.length → ∀ b, b < a → F2 a b = if Nat.testBit (btQ A Q ln.length (t + 1) b) a = true then 1 else 0) → lp24 u w la x3 (Int32.ofNat (m0 + sumN (fun a => sumN (npQ (psQ A Q (t + 1)) (btQ A Q ln.length t) a) a) ln.length)) down (Int32.ofNat t + 1) M2) :
    ∀ (d fuel a : Nat) (F : Nat → Nat → Int32) (M : Mem), a + d = ln.length → d < fuel → goP K r nJ nR A T M0 la lb g ln.length x3 (jE A ln r g9 trs) (fun j => (psQ A Q (t + 1) j).2.2) F M → (∀ a2, a2 < a → ∀ b, b < a2 → F a2 b = if Nat.testBit (btQ A Q ln.length (t + 1) b) a2 = true then 1 else 0) → (∀ a2, a ≤ a2 → a2 < ln.length → ∀ b, b < a2 → F a2 b = if Nat.testBit (btQ A Q ln.length t b) a2 = true then 1 else 0) →
      f_X9_go_b111 K k lp24 fuel u w la x3 (Int32.ofNat (m0 + sumN (fun a => sumN (npQ (psQ A Q (t + 1)) (btQ A Q ln.length t) a) a) a)) down (Int32.ofNat t) (Int32.ofNat a) M := by
  intro d
  induction d with
  | zero =>
    intro fuel a F M hb hfu h h1 h2
    obtain ⟨fuel, rfl⟩ : ∃ e, fuel = e + 1 := ⟨fuel - 1, by omega⟩
    have han : a = ln.length := by omega
    subst han
    show f_X9_go_b111_body K k lp24 (f_X9_go_b111 K k lp24 fuel) u w la x3 _ down (Int32.ofNat t) (Int32.ofNat ln.length) M
    unfold f_X9_go_b111_body
    exact s_as huw (t_recv h.2.1 (t_size h.2.1 (s_ifT (Int32.le_refl _) (hk F M h h1))))
  | succ d ih =>
    intro fuel a F M hb hfu h h1 h2
    obtain ⟨fuel, rfl⟩ : ∃ e, fuel = e + 1 := ⟨fuel - 1, by omega⟩
    have ha : a < ln.length := by omega
    show f_X9_go_b111_body K k lp24 (f_X9_go_b111 K k lp24 fuel) u w la x3 _ down (Int32.ofNat t) (Int32.ofNat a) M
    unfold f_X9_go_b111_body
    refine s_as huw (t_recv h.2.1 (t_size h.2.1 (s_ifF (fun h9 => ?_) ?_)))
    · rw [i_le (by omega) (by omega)] at h9; omega
    refine x_goIn (a := a) (m0 := m0 + sumN (fun a => sumN (npQ (psQ A Q (t + 1)) (btQ A Q ln.length t) a) a) a) huw hQ hn6 hX hY hf ht ha a mFuel 0 F M (Nat.zero_add _) (by show a < 4096; omega) h (fun b2 hb2 => absurd hb2 (Nat.not_lt_zero b2)) (fun b2 _ hb2 => h2 a (Nat.le_refl _) ha b2 hb2) (fun F2 M2 k1 k2 k3 => ?_)
    rw [i_succ]
    have hrec := ih fuel (a + 1) F2 M2 (by omega) (by omega) k1 (fun a2 ha2 b hb2 => ?_) (fun a2 ha2 ha3 b hb2 => ?_)
    · rw [Nat.add_assoc]
      exact hrec
    · by_cases haa : a2 = a
      · subst haa; exact k3 b hb2
      · rw [k2 a2 haa]; exact h1 a2 (by omega) b hb2
    · rw [k2 a2 (by omega)]; exact h2 a2 (by omega) ha3 b hb2
end GO
theorem x_go_loop {nF g9 u w : Nat} {sp : Int} {trs : Nat → Bool} {Q : Nat → JQ} {k : Int32 → Mem → Prop} (f1 : 365 ≤ nF) (f2 : nF ≤ 900) (huw : u ≤ 7 ∧ w ≤ 42) (hQ : Q = flQ A ln trs sp g9) (hw : wfS A T nJ nR ln) (hn : cntOk A nJ nR) (hX : wbd (cX A)) (hY : wbd (cY A)) (hg : g9 ≤ 9) (hsp : -200 ≤ sp ∧ sp ≤ 200)
    (hk : ∀ F2 M2, goP K r nJ nR A T M0 la lb g ln.length x3 (jE A ln r g9 trs) (fun j => (psQ A Q nF j).2.2) F2 M2 → k (Int32.ofNat (ttQ A Q ln.length nF)) M2) :
    ∀ (d fuel t : Nat) (down : Int32) (F : Nat → Nat → Int32) (M : Mem), t + d = nF → d < fuel → goP K r nJ nR A T M0 la lb g ln.length x3 (jE A ln r g9 trs) (fun j => (psQ A Q t j).2.2) F M → (∀ a, a < ln.length → ∀ b, b < a → F a b = if Nat.testBit (btQ A Q ln.length t b) a = true then 1 else 0) → (Int32.ofNat ln.length ≤ down → ∀ j, j < ln.length → (psQ A Q t j).2.2.1 = 0) → (t ≠ 0 → (∀ j, j < ln.length → (psQ A Q t j).2.2.1 = 0) → Int32.ofNat ln.length ≤ down) → f_X9_go_b24 K k fuel u w la x3 (Int32.ofNat (ttQ A Q ln.length t)) down (Int32.ofNat t) M := by
  obtain ⟨hjs, hro, hl, ha, hlk⟩ := id hw
  have l1 := hl.1
  have hf : flOk ln.length 2500 Q := by rw [hQ]; exact flQ_ok hn hl ha hro hX hg hsp trs
  have fin : ∀ (fuel t : Nat) (down : Int32) (F : Nat → Nat → Int32) (M : Mem), t ≤ nF → goP K r nJ nR A T M0 la lb g ln.length x3 (jE A ln r g9 trs) (fun j => (psQ A Q t j).2.2) F M → Int32.ofNat ln.length ≤ down → (∀ j, j < ln.length → (psQ A Q t j).2.2.1 = 0) → f_X9_go_b24 K k (fuel + 1) u w la x3 (Int32.ofNat (ttQ A Q ln.length t)) down (Int32.ofNat t) M := by
    intro fuel t down F M ht h hd hall
    show f_X9_go_b24_body K k (f_X9_go_b24 K k fuel) u w la x3 (Int32.ofNat (ttQ A Q ln.length t)) down (Int32.ofNat t) M
    unfold f_X9_go_b24_body
    refine s_as huw (t_recv h.2.1 (t_size h.2.1 (s_ifT hd (s_as huw ?_))))
    have e1 : ttQ A Q ln.length nF = ttQ A Q ln.length t := by rw [show nF = t + (nF - t) by omega]; exact tt_down hall _
    have h9 := hk F M (h.cg (fun j hj => by rw [show nF = t + (nF - t) by omega, ps_down (hall j hj)]))
    rw [e1] at h9
    exact h9
  intro d
  induction d with
  | zero =>
    intro fuel t down F M htd hfu h hF hd1 hd2
    obtain ⟨fuel, rfl⟩ : ∃ e, fuel = e + 1 := ⟨fuel - 1, by omega⟩
    have hall : ∀ j, j < ln.length → (psQ A Q t j).2.2.1 = 0 := fun j hj => ps_end hX hY hf hj (by omega) (by omega)
    exact fin fuel t down F M (by omega) h (hd2 (by omega) hall) hall
  | succ d ih =>
    intro fuel t down F M htd hfu h hF hd1 hd2
    obtain ⟨fuel, rfl⟩ : ∃ e, fuel = e + 1 := ⟨fuel - 1, by omega⟩
    by_cases hdn : Int32.ofNat ln.length ≤ down
    · exact fin fuel t down F M (by omega) h hdn (hd1 hdn)
    · show f_X9_go_b24_body K k (f_X9_go_b24 K k fuel) u w la x3 (Int32.ofNat (ttQ A Q ln.length t)) down (Int32.ofNat t) M
      unfold f_X9_go_b24_body
      refine s_as huw (t_recv h.2.1 (t_size h.2.1 (s_ifF hdn ?_)))
      subst hQ
      refine x_goTick (t := t) (trs := trs) (sp := sp) (g9 := g9) huw hw hn hX hY hg hsp (by omega) (Int32.ofNat (ttQ A (flQ A ln trs sp g9) ln.length t)) (fun M2 h2 => ?_) ln.length mFuel 0 _ M (Nat.zero_add _) (by show ln.length < 4096; omega) h (fun j hj => absurd hj (Nat.not_lt_zero j)) (fun j _ _ => rfl)
      refine x_goOut (t := t) (m0 := ttQ A (flQ A ln trs sp g9) ln.length t) huw rfl l1 hX hY hf (by omega) (fun F2 M3 h3 h4 => ?_) ln.length mFuel 0 F M2 (Nat.zero_add _) (by show ln.length < 4096; omega) h2 (fun a2 ha2 => absurd ha2 (Nat.not_lt_zero a2)) (fun a2 _ ha2 => hF a2 ha2)
      rw [← newC_tri, i_succ]
      obtain ⟨s1, s2⟩ := sumN_all (f := fun j => if (psQ A (flQ A ln trs sp g9) (t + 1) j).2.2.1 = 0 then 1 else 0) (fun j => by split <;> omega) ln.length
      refine ih fuel (t + 1) _ F2 M3 (by omega) (by omega) h3 h4 (fun h9 j hj => ?_) (fun _ hall => ?_)
      · rw [i_le (by omega) (by omega)] at h9
        have h8 := s2.mp h9 j hj
        by_cases hz : (psQ A (flQ A ln trs sp g9) (t + 1) j).2.2.1 = 0
        · exact hz
        · rw [if_neg hz] at h8; exact absurd h8 (by decide)
      · rw [i_le (by omega) (by omega)]
        exact s2.mpr (fun j hj => if_pos (hall j hj))
theorem x_go {nF g9 : Nat} {sp : Int} {trs : Nat → Bool} {k : Int32 → Mem → Prop} (f1 : 365 ≤ nF) (f2 : nF ≤ 900) (h : picR K r nJ nR A T M0 M) (ht : picT K r nJ nR M0 la lb g ln.length (fun j => jE A ln r g9 trs j (10, 0, lvX A sp g9 j, 0)) M) (hw : wfS A T nJ nR ln) (hn : cntOk A nJ nR) (hX : wbd (cX A)) (hY : wbd (cY A)) (hg : g9 ≤ 9) (hsp : -200 ≤ sp ∧ sp ≤ 200)
    (hk : ∀ M2, picR K r nJ nR A T M0 M2 → picT K r nJ nR M0 la lb g ln.length (fun j => jE A ln r g9 trs j (psQ A (flQ A ln trs sp g9) nF j).2.2) M2 → k (Int32.ofNat (ttQ A (flQ A ln trs sp g9) ln.length nF)) M2) : f_X9_go K la k M := by
  have l1 := hw.2.2.1.1
  have hnn : ln.length * ln.length ≤ 36 := Nat.le_trans (Nat.mul_le_mul l1 l1) (by decide)
  unfold f_X9_go
  refine s_as (by decide) (t_recv ht (t_size ht (s_as (by decide) (t_recv ht (t_size ht ?_)))))
  rw [i_nat (by omega)]
  refine s_as ⟨⟨i_neg (by omega), i_neg (by omega)⟩, l1, l1⟩ (s_as ⟨by omega, by omega⟩ (fun x3 hx => ?_))
  obtain ⟨⟨t1, md, t2⟩, t3, t4, t5, t6⟩ := id ht
  have hno : ∀ q, x3 ≤ q → M q = none := fun q hq => by
    cases hm : M q with
    | none => rfl
    | some e => have := hx.2 q e hm; omega
  have hlt : ∀ q e, M q = some e → q < x3 := fun q e hq => hx.2 q e hq
  have hold : ∀ q, q < x3 → (fun q => if q = x3 then some (.inl (K.2.1 8, ln.length, .inr (.inr (.inr (.inr (fun i => if i < ln.length then some (x3 + 1 + i) else none)))))) else if x3 < q ∧ q ≤ x3 + ln.length then some (.inl (K.2.1 3, ln.length, .inl (fun _ => 0))) else M q : Mem) q = M q := fun q hq => by
    show (if q = x3 then _ else if x3 < q ∧ q ≤ x3 + ln.length then _ else M q) = M q
    rw [if_neg (by omega), if_neg (by omega)]
  have hx3 : (fun q => if q = x3 then some (.inl (K.2.1 8, ln.length, .inr (.inr (.inr (.inr (fun i => if i < ln.length then some (x3 + 1 + i) else none)))))) else if x3 < q ∧ q ≤ x3 + ln.length then some (.inl (K.2.1 3, ln.length, .inl (fun _ => 0))) else M q : Mem) x3 = some (.inl (K.2.1 8, ln.length, .inr (.inr (.inr (.inr (fun i => if i < ln.length then some (x3 + 1 + i) else none)))))) := if_pos rfl
  have hrow : ∀ i, i < ln.length → (fun q => if q = x3 then some (.inl (K.2.1 8, ln.length, .inr (.inr (.inr (.inr (fun i => if i < ln.length then some (x3 + 1 + i) else none)))))) else if x3 < q ∧ q ≤ x3 + ln.length then some (.inl (K.2.1 3, ln.length, .inl (fun _ => 0))) else M q : Mem) (x3 + 1 + i) = some (.inl (K.2.1 3, ln.length, .inl (fun _ => 0))) := fun i hi => by
    show (if x3 + 1 + i = x3 then _ else if x3 < x3 + 1 + i ∧ x3 + 1 + i ≤ x3 + ln.length then _ else M (x3 + 1 + i)) = _
    rw [if_neg (by omega), if_pos (by omega)]
  generalize (fun q => if q = x3 then some (.inl (K.2.1 8, ln.length, .inr (.inr (.inr (.inr (fun i => if i < ln.length then some (x3 + 1 + i) else none)))))) else if x3 < q ∧ q ≤ x3 + ln.length then some (.inl (K.2.1 3, ln.length, .inl (fun _ => 0))) else M q : Mem) = M2 at hold hx3 hrow
  have hle : mle M M2 := fun q e hq => (hold q (hlt q e hq)).trans hq
  have h2 : picR K r nJ nR A T M0 M2 := h.mono hle
  have ht2 : picT K r nJ nR M0 la lb g ln.length (fun j => jE A ln r g9 trs j (10, 0, lvX A sp g9 j, 0)) M2 := ⟨⟨t1, md, hle _ _ t2⟩, t3, fun h0 => ⟨(t4 h0).1, (t4 h0).2.1, hle _ _ (t4 h0).2.2⟩, fun j hj => ⟨(t5 j hj).1, hle _ _ (t5 j hj).2⟩, t6⟩
  refine x_go_loop (Q := flQ A ln trs sp g9) f1 f2 ⟨by omega, by omega⟩ rfl hw hn hX hY hg hsp (fun F2 M3 h3 => hk M3 h3.1 h3.2.1) nF mFuel 0 0 (fun _ _ => 0) M2 (Nat.zero_add _) (by show nF < 4096; omega) ⟨h2, ht2, ⟨h.tq (hno _ (Nat.le_refl _)), hx3⟩, fun i hi => ⟨h.tq (hno _ (by omega)), hrow i hi⟩, fun h0 => ⟨fun e => by have := hlt _ _ (t4 h0).2.2; omega, fun i hi e => by have := hlt _ _ (t4 h0).2.2; omega⟩⟩ (fun a ha b hb => ?_) (fun h9 j hj => ?_) (fun h0 => absurd rfl h0)
  · show (0 : Int32) = if Nat.testBit 0 a = true then 1 else 0
    rw [Nat.zero_testBit]; rfl
  · have h9 : Int32.ofNat ln.length ≤ Int32.ofNat 0 := h9
    rw [i_le (by omega) (by omega)] at h9; omega
end REFH
