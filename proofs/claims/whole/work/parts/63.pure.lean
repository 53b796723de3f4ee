/-! ===== BOTH SIDES: what holds of the store stays ===== -/
theorem keyF_congr {A A2 : CS} {k : Nat} (h0 : cJ A2 k 0 = cJ A k 0) (h1 : cJ A2 k 1 = cJ A k 1) (h2 : cJ A2 k 2 = cJ A k 2) (h10 : cJ A2 k 10 = cJ A k 10) (hG : ∀ g, cG A2 g 0 = cG A g 0) : keyF A2 k = keyF A k := by
  have hl : ldF A2 k = ldF A k := by
    unfold ldF rigN
    rw [h0, h2, hG]
  unfold keyF
  rw [h1, h10, hl]
theorem keyF_inj {A : CS} {i j : Nat} (hi : i < 8) (hj : j < 8) (h : keyF A i = keyF A j) : i = j := by
  unfold keyF at h
  generalize ((ldF A i).toNat : Int) = Li at h
  generalize ((ldF A j).toNat : Int) = Lj at h
  split at h <;> split at h <;> split at h <;> split at h <;> omega
section PURE
variable {A A2 : CS} {T T2 : RT} {nJ nR : Nat} {ln : List Nat} {b i : Nat}
theorem Pure.keep (h : Pure A T nJ nR ln b i) (h1 : cS A2 1 = cS A 1) (h3 : cS A2 3 = cS A 3) (h6 : cS A2 6 = cS A 6) (h7 : cS A2 7 = 0 ∨ cS A2 7 = 1) (hJ : ∀ k, k < nJ → cJ A2 k 0 = cJ A k 0 ∧ cJ A2 k 1 = cJ A k 1 ∧ cJ A2 k 10 = cJ A k 10 ∧ cJ A2 k 11 = cJ A k 11) (hJ2 : ∀ k, k < nJ → cJ A2 k 2 = cJ A k 2 ∨ (k ∉ ln ∧ (cJ A2 k 2 = -1 ∨ ∃ g, g < nR ∧ cJ A2 k 2 = Int32.ofNat g))) (hP : cP A2 = cP A) (hG0 : ∀ g, cG A2 g 0 = cG A g 0) (hG3 : ∀ g, g < nR → cG A2 g 3 = cG A g 3 ∨ cG A2 g 3 = 1) (hW : cW A2 = cW A) (hX : wbd (cX A2)) (hY : wbd (cY A2)) (hL : cL A2 = cL A) (hT : tS T2 = tS T ∧ tO T2 = tO T) (iJ : ∀ k, nJ ≤ k → k < 8 → iniJ A2 k) (iG : ∀ k, nR ≤ k → k < 8 → iniG A2 k) : Pure A2 T2 nJ nR ln b (i + 1) := by
  obtain ⟨⟨n1, n2, n3, n4⟩, ⟨hjs, hro, ⟨l1, l2, l3, l4⟩, ha, hlk⟩, -, -, -, hwk, hb, -, -⟩ := h
  have mem2 : ∀ k ∈ ln, cJ A2 k 2 = cJ A k 2 := fun k hk => (hJ2 k (l4 k hk)).resolve_right (fun h9 => h9.1 hk)
  have jo : ∀ k, k < nJ → jmpOk A2 nR k := fun k hk => by
    obtain ⟨q1, q2, q3, q4⟩ := hjs k hk
    obtain ⟨e0, e1, -, -⟩ := hJ k hk
    unfold jmpOk
    rw [e0, e1, hP]
    refine ⟨q1, q2, ?_, q4⟩
    rcases hJ2 k hk with e | ⟨-, e⟩
    · rw [e]; exact q3
    · exact e
  have ke : ∀ k ∈ ln, keyF A2 k = keyF A k := fun k hk => keyF_congr (hJ k (l4 k hk)).1 (hJ k (l4 k hk)).2.1 (mem2 k hk) (hJ k (l4 k hk)).2.2.1 hG0
  refine ⟨⟨n1, n2, h1.trans n3, h3.trans n4⟩, ⟨jo, fun g hg => ?_, ⟨l1, h6.trans l2, fun p hp => by rw [hL]; exact l3 p hp, l4⟩, fun k hk => ?_, hlk.1, hlk.2.1.imp_of_mem (fun h8 h9 hr => by rw [ke _ h8, ke _ h9]; exact hr), fun k hk => ?_⟩, hX, hY, h7, fun k hk => by rw [hW]; exact hwk k hk, by omega, iJ, iG⟩
  · obtain ⟨q1, q2⟩ := hro g hg
    unfold rigOk
    rw [hG0]
    refine ⟨q1, ?_⟩
    rcases hG3 g hg with e | e
    · rw [e]; exact q2
    · exact Or.inr e
  · obtain ⟨a1, a2, a3, a4, a5⟩ := ha k hk
    obtain ⟨e0, e1, e10, e11⟩ := hJ k a1
    refine ⟨a1, jo k a1, by rw [mem2 k hk]; exact a3, by rw [e10]; exact a4, ?_⟩
    unfold opN
    rw [e11]; exact a5
  · obtain ⟨e0, e1, e10, e11⟩ := hJ k hk
    rw [hT.1, hT.2, e10, e11]
    exact hlk.2.2 k hk
theorem iniJ_congr {k : Nat} (h : ∀ j, cJ A2 k j = cJ A k j) (hP : ∀ j, cP A2 k j = cP A k j) (h0 : iniJ A k) : iniJ A2 k := by
  unfold iniJ at h0 ⊢
  rw [h, h, h, h, h, hP, hP]; exact h0
theorem iniG_congr {k : Nat} (h : ∀ j, cG A2 k j = cG A k j) (hW : cW A2 k = cW A k) (h0 : iniG A k) : iniG A2 k := by
  unfold iniG at h0 ⊢
  rw [h, h, hW]; exact h0
theorem passF_S (d v : Nat) (A : CS) : cS (passF A d v) = cS A ∧ cP (passF A d v) = cP A ∧ cG (passF A d v) = cG A ∧ cW (passF A d v) = cW A ∧ cX (passF A d v) = cX A ∧ cY (passF A d v) = cY A ∧ cL (passF A d v) = cL A ∧ (∀ k j, j ≠ 6 → cJ (passF A d v) k j = cJ A k j) ∧ (∀ k j, v + d ≤ k → cJ (passF A d v) k j = cJ A k j) := by
  induction d generalizing v A with
  | zero => exact ⟨rfl, rfl, rfl, rfl, rfl, rfl, rfl, fun _ _ _ => rfl, fun _ _ _ => rfl⟩
  | succ d ih =>
    obtain ⟨i1, i2, i3, i4, i5, i6, i7, i8, i9⟩ := ih (v + 1) (setJ A v 6 0)
    exact ⟨i1, i2, i3, i4, i5, i6, i7, fun k j hj => (i8 k j hj).trans (up2_ne1 hj), fun k j hk => (i9 k j (by omega)).trans (up2_ne (by omega))⟩
theorem fly_out (A : CS) (ln : List Nat) (trs : Nat → Bool) (xy : Nat → Int × Int) : ∀ v, (∀ k, (∀ p, p < v → ln.getD p 0 ≠ k) → (∀ j, cJ (flyA A ln trs xy v) k j = cJ A k j) ∧ ∀ j, cP (flyA A ln trs xy v) k j = cP A k j) ∧ (∀ g, (∀ p, p < v → rigN A (ln.getD p 0) ≠ g) → (∀ j, cG (flyA A ln trs xy v) g j = cG A g j) ∧ cW (flyA A ln trs xy v) g = cW A g) := by
  intro v
  induction v with
  | zero => exact ⟨fun k _ => ⟨fun _ => rfl, fun _ => rfl⟩, fun g _ => ⟨fun _ => rfl, rfl⟩⟩
  | succ v ih =>
    have kp := kept_flyA A ln trs xy v
    have hr : rigN (flyA A ln trs xy v) (ln.getD v 0) = rigN A (ln.getD v 0) := by unfold rigN; rw [kp.2.1 _ 2 (by decide) (by decide) (by decide) (by decide)]
    refine ⟨fun k hk => ?_, fun g hg => ?_⟩
    · obtain ⟨i1, i2⟩ := ih.1 k (fun p hp => hk p (by omega))
      have hne : k ≠ ln.getD v 0 := fun e => hk v (by omega) e.symm
      refine ⟨fun j => ?_, fun j => ?_⟩
      · rw [← i1 j]
        show (if k = ln.getD v 0 then _ else cJ (flyA A ln trs xy v) k j) = _
        rw [if_neg hne]
      · rw [← i2 j]
        show (if k = ln.getD v 0 then _ else cP (flyA A ln trs xy v) k j) = _
        rw [if_neg hne]
    · obtain ⟨i1, i2⟩ := ih.2 g (fun p hp => hg p (by omega))
      have hne : g ≠ rigN (flyA A ln trs xy v) (ln.getD v 0) := fun e => hg v (by omega) (by rw [e, hr])
      refine ⟨fun j => ?_, ?_⟩
      · rw [← i1 j]
        show (if g = rigN (flyA A ln trs xy v) (ln.getD v 0) then _ else cG (flyA A ln trs xy v) g j) = _
        rw [if_neg hne]
      · rw [← i2]
        show (if g = rigN (flyA A ln trs xy v) (ln.getD v 0) then _ else cW (flyA A ln trs xy v) g) = _
        rw [if_neg hne]
theorem wOk_flyA {trs : Nat → Bool} {xy : Nat → Int × Int} (h2 : nR ≤ 8) (hr : ∀ p, p < ln.length → rigN A (ln.getD p 0) < nR) (hw : wOk b A) (hb : b + 4 * ln.length ≤ 2048) : ∀ v, v ≤ ln.length → wOk (b + 4 * v) (flyA A ln trs xy v) := by
  intro v
  induction v with
  | zero => intro _; exact hw
  | succ v ih =>
    intro hv
    have kp := kept_flyA A ln trs xy v
    have hr2 : rigN (flyA A ln trs xy v) (ln.getD v 0) = rigN A (ln.getD v 0) := by unfold rigN; rw [kp.2.1 _ 2 (by decide) (by decide) (by decide) (by decide)]
    exact (wOk_settF (ih (by omega)) (by omega) (by rw [hr2]; have := hr v (by omega); omega)).1
/-- behind a flight -/
theorem Pure.fly {N : Int32} {Q : Nat → JQ} {m : Int32} {xy : Nat → Int × Int} (h : Pure A T nJ nR ln b i) (hb : b + 4 * ln.length ≤ 2048) (hxy : ∀ v, v < ln.length → posOk (xy v).1 ∧ posOk (xy v).2) (hT : ∀ j, j < nJ → tS T2 j = -1) (v : Int32) : Pure (setS (setS (flyB A N Q ln m xy) 6 0) 12 v) T2 nJ nR [] (b + 4 * ln.length) (i + 1) := by
  obtain ⟨⟨n1, n2, n3, n4⟩, ⟨hjs, hro, ⟨l1, l2, l3, l4⟩, ha, hlk⟩, hX, hY, h7, hwk, hbi, iJ, iG⟩ := h
  have kp := kept_flyA (setS (setS (repQ A N Q) 11 (drI A ln.length)) 16 m) ln (trB A ln) xy ln.length
  have hrig : ∀ p, p < ln.length → rigN A (ln.getD p 0) < nR := fun p hp => by
    obtain ⟨a1, a2, a3, -⟩ := ha _ (getD_mem hp)
    exact (rig_of a2 a3 n2).2
  have out := fly_out (setS (setS (repQ A N Q) 11 (drI A ln.length)) 16 m) ln (trB A ln) xy ln.length
  have pos := fun k (hk : k < nJ) => pos_flyA (A := setS (setS (repQ A N Q) 11 (drI A ln.length)) 16 m) (ln := ln) (trs := trB A ln) (k := k) hxy (hjs k hk).2.2.2 ln.length (Nat.le_refl _)
  have wk := wOk_flyA (A := setS (setS (repQ A N Q) 11 (drI A ln.length)) 16 m) (trs := trB A ln) (xy := xy) n2 hrig hwk hb ln.length (Nat.le_refl _)
  unfold flyB
  generalize hB : flyA (setS (setS (repQ A N Q) 11 (drI A ln.length)) 16 m) ln (trB A ln) xy ln.length = B at kp out pos wk
  have jo : ∀ k, k < nJ → jmpOk B nR k := fun k hk => jmpOk_fly kp (hjs k hk) (pos k hk)
  refine ⟨⟨n1, n2, (kp.1 1 (by decide) (by decide) (by decide)).trans n3, (kp.1 3 (by decide) (by decide) (by decide)).trans n4⟩, ⟨fun k hk => jo k hk, fun g hg => (rigOk_kept (B := B) kp (hro g hg) : rigOk B g), ⟨by decide, rfl, fun p hp => absurd hp (Nat.not_lt_zero p), fun k hk => absurd hk List.not_mem_nil⟩, fun k hk => absurd hk List.not_mem_nil, List.nodup_nil, List.Pairwise.nil, fun k hk => Or.inr ⟨List.not_mem_nil, hT k hk⟩⟩, ?_, ?_, ?_, wk, by show b + 4 * ln.length + 4 * 0 ≤ _; omega, fun k h1 h2 => ?_, fun k h1 h2 => ?_⟩
  · show wbd (cX B)
    rw [kp.2.2.2.2.1]; exact hX
  · show wbd (cY B)
    rw [kp.2.2.2.2.2.1]; exact hY
  · show cS B 7 = 0 ∨ cS B 7 = 1
    rw [kp.1 7 (by decide) (by decide) (by decide)]; exact h7
  · obtain ⟨o1, o2⟩ := out.1 k (fun p hp e => by have := l4 _ (getD_mem hp); omega)
    exact iniJ_congr (A := A) o1 o2 (iJ k h1 h2)
  · obtain ⟨o1, o2⟩ := out.2 k (fun p hp e => by have := hrig p hp; rw [← e] at h1; exact absurd this (Nat.not_lt.mpr h1))
    exact iniG_congr (A := A) o1 o2 (iG k h1 h2)
/-- who boards -/
theorem insAt_mem {ln : List Nat} {p j k : Nat} : k ∈ insAt ln p j ↔ k = j ∨ k ∈ ln := by
  unfold insAt
  rw [List.mem_append, List.mem_cons]
  constructor
  · rintro (h | h | h)
    · exact Or.inr (List.mem_of_mem_take h)
    · exact Or.inl h
    · exact Or.inr (List.mem_of_mem_drop h)
  · rintro (h | h)
    · exact Or.inr (Or.inl h)
    · have h2 : k ∈ ln.take p ++ ln.drop p := by rw [List.take_append_drop]; exact h
      rcases List.mem_append.mp h2 with h3 | h3
      · exact Or.inl h3
      · exact Or.inr (Or.inr h3)
theorem pw_get {f : Nat → Int} {l : List Nat} (h : l.Pairwise (fun a b => f a < f b)) {p q : Nat} (hpq : p < q) (hq : q < l.length) : f (l.getD p 0) < f (l.getD q 0) := by
  have := (List.pairwise_iff_getElem.mp h) p q (by omega) hq hpq
  rw [List.getD_eq_getElem?_getD, List.getD_eq_getElem?_getD, List.getElem?_eq_getElem (by omega), List.getElem?_eq_getElem hq]
  exact this
theorem Pure.board {j p : Nat} {st op : Int32} {L : Nat → Int32} (h : Pure A T nJ nR ln b i) (hj : j < nJ) (hst : inB st 0 1) (hop : inB op (if cJ A j 1 = 0 then 4 else 2) 6) (hlen : ln.length < 6) (hwhy : whyF A ln j = 0) (hp : p ≤ ln.length) (hA : ∀ q, p ≤ q → q < ln.length → keyF (stA A j st op) j < keyF (stA A j st op) (ln.getD q 0)) (hB : p = 0 ∨ ¬ keyF (stA A j st op) j < keyF (stA A j st op) (ln.getD (p - 1) 0)) (hL : ∀ q, q < ln.length + 1 → L q = Int32.ofNat ((insAt ln p j).getD q 0)) : Pure (setS (repL (stA A j st op) L) 6 (Int32.ofNat (ln.length + 1))) (setOp (setSt (setTh T 0) j st) j op) nJ nR (insAt ln p j) b (i + 1) := by
  obtain ⟨⟨n1, n2, n3, n4⟩, ⟨hjs, hro, ⟨l1, l2, l3, l4⟩, ha, hlk⟩, hX, hY, h7, hwk, hbi, iJ, iG⟩ := h
  obtain ⟨w1, w2⟩ := whyF_zero hwhy
  have hnot : j ∉ ln := fun hm => placeF_none ln 0 (by omega) (fun x hx => by have := l4 x hx; omega) w2 j hm rfl
  have hne : ∀ k ∈ ln, k ≠ j := fun k hk e => hnot (e ▸ hk)
  have hst2 : st = 0 ∨ st = 1 := by
    obtain ⟨m, rfl, m1, m2⟩ := i_num (lo := 0) (hi := 1) (by decide) (by decide) hst
    rcases (show m = 0 ∨ m = 1 by omega) with rfl | rfl
    · exact Or.inl rfl
    · exact Or.inr rfl
  have hop2 : inB op 2 6 := by
    refine ⟨?_, hop.2⟩
    have h9 := hop.1
    by_cases hc : cJ A j 1 = 0
    · rw [if_pos hc] at h9
      rw [Int32.le_iff_toInt_le] at h9 ⊢
      have h9 : (4 : Int) ≤ op.toInt := h9
      show (2 : Int) ≤ op.toInt
      omega
    · rw [if_neg hc] at h9; exact h9
  obtain ⟨o9, e9, o1, o2⟩ := i_num (lo := 2) (hi := 6) (by decide) (by decide) hop2
  have jo : ∀ k, k < nJ → jmpOk (stA A j st op) nR k := fun k hk => jmpOk_congr (fun i hi => stA_lo hi) rfl (hjs k hk)
  have ke : ∀ k ∈ ln, keyF (stA A j st op) k = keyF A k := fun k hk => keyF_congr (stA_lo (by decide)) (stA_lo (by decide)) (stA_lo (by decide)) (stA_ne (hne k hk)) (fun _ => rfl)
  have hpw : ln.Pairwise (fun a b => keyF (stA A j st op) a < keyF (stA A j st op) b) := hlk.2.1.imp_of_mem (fun h8 h9 hr => by rw [ke _ h8, ke _ h9]; exact hr)
  have low : ∀ q, q < p → keyF (stA A j st op) (ln.getD q 0) < keyF (stA A j st op) j := fun q hq => by
    have hB := hB.resolve_left (by omega)
    have h1 : keyF (stA A j st op) (ln.getD (p - 1) 0) ≠ keyF (stA A j st op) j := fun e => by
      have hm := getD_mem (ln := ln) (p := p - 1) (by omega)
      exact hne _ hm (keyF_inj (by have := l4 _ hm; omega) (by omega) e)
    by_cases hq1 : q = p - 1
    · rw [hq1]; omega
    · have := pw_get hpw (show q < p - 1 by omega) (by omega); omega
  have pw2 : (insAt ln p j).Pairwise (fun a b => keyF (stA A j st op) a < keyF (stA A j st op) b) := by
    unfold insAt
    have hd : (ln.take p ++ ln.drop p).Pairwise (fun a b => keyF (stA A j st op) a < keyF (stA A j st op) b) := by rw [List.take_append_drop]; exact hpw
    obtain ⟨d1, d2, d3⟩ := List.pairwise_append.mp hd
    refine List.pairwise_append.mpr ⟨d1, List.pairwise_cons.mpr ⟨fun a ha => ?_, d2⟩, fun a ha bb hbb => ?_⟩
    · obtain ⟨q, q1, q2⟩ := List.getElem_of_mem ha
      rw [List.length_drop] at q1
      have h9 := hA (p + q) (by omega) (by omega)
      rw [List.getD_eq_getElem?_getD, List.getElem?_eq_getElem (by omega)] at h9
      rw [← q2, List.getElem_drop]
      exact h9
    · have hal : keyF (stA A j st op) a < keyF (stA A j st op) j := by
        obtain ⟨q, q1, q2⟩ := List.getElem_of_mem ha
        rw [List.length_take] at q1
        have h9 := low q (by omega)
        rw [List.getD_eq_getElem?_getD, List.getElem?_eq_getElem (by omega)] at h9
        rw [← q2, List.getElem_take]
        exact h9
      rcases List.mem_cons.mp hbb with e | e
      · rw [e]; exact hal
      · exact d3 a ha bb e
  have ilen := insAt_length (j := j) hp
  refine ⟨⟨n1, n2, n3, n4⟩, ⟨jo, hro, ⟨by omega, by rw [ilen]; rfl, fun q hq => hL q (by omega), fun k hk => ?_⟩, fun k hk => ?_, ?_, pw2, fun k hk => ?_⟩, hX, hY, h7, hwk, by omega, fun k h1 h2 => ?_, iG⟩
  · rcases insAt_mem.mp hk with e | e
    · omega
    · exact l4 k e
  · rcases insAt_mem.mp hk with e | e
    · subst e
      refine ⟨hj, jo k hj, by show cJ (stA A k st op) k 2 ≠ -1; rw [stA_lo (by decide)]; exact w1, by show cJ (stA A k st op) k 10 = 0 ∨ cJ (stA A k st op) k 10 = 1; rw [stA_10]; exact hst2, ?_⟩
      have e11 : cJ (stA A k st op) k 11 = Int32.ofNat o9 := stA_11.trans e9
      have eN : opN (setS (repL (stA A k st op) L) 6 (Int32.ofNat (ln.length + 1))) k = o9 := by
        show (cJ (stA A k st op) k 11).toNatClampNeg = o9
        rw [e11, i_nat (by omega)]
      rw [eN]
      exact ⟨e11, o1, o2⟩
    · obtain ⟨a1, a2, a3, a4, a5⟩ := ha k e
      refine ⟨a1, jo k a1, by show cJ (stA A j st op) k 2 ≠ -1; rw [stA_lo (by decide)]; exact a3, by show cJ (stA A j st op) k 10 = 0 ∨ cJ (stA A j st op) k 10 = 1; rw [stA_ne (hne k e)]; exact a4, ?_⟩
      have eN : opN (setS (repL (stA A j st op) L) 6 (Int32.ofNat (ln.length + 1))) k = opN A k := by
        show (cJ (stA A j st op) k 11).toNatClampNeg = _
        rw [stA_ne (hne k e)]; rfl
      rw [eN]
      show cJ (stA A j st op) k 11 = _ ∧ _
      rw [stA_ne (hne k e)]; exact a5
  · exact pw2.imp (fun hr e => by rw [e] at hr; exact Int.lt_irrefl _ hr)
  · show (k ∈ insAt ln p j ∧ up1 (tS T) j st k = cJ (stA A j st op) k 10 ∧ up1 (tO T) j op k = cJ (stA A j st op) k 11) ∨ (k ∉ insAt ln p j ∧ up1 (tS T) j st k = -1)
    by_cases hkj : k = j
    · subst hkj
      rw [up1_same, up1_same, stA_10, stA_11]
      exact Or.inl ⟨insAt_mem.mpr (Or.inl rfl), rfl, rfl⟩
    · rw [up1_ne hkj, up1_ne hkj, stA_ne hkj, stA_ne hkj]
      rcases hlk.2.2 k hk with ⟨h1, h2⟩ | ⟨h1, h2⟩
      · exact Or.inl ⟨insAt_mem.mpr (Or.inr h1), h2⟩
      · exact Or.inr ⟨fun h9 => (insAt_mem.mp h9).elim hkj h1, h2⟩
  · exact iniJ_congr (A := A) (fun q => stA_ne (by omega)) (fun _ => rfl) (iJ k h1 h2)
end PURE
