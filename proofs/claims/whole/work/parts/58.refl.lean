/-! ===== THE REFERENCE: the checksum ===== -/
section REFL
variable {K : Cfg} {r : Nat → Nat} {nJ nR nF : Nat} {A : CS} {T : RT} {M0 M : Mem} {ln : List Nat}
theorem x_digest {b : Nat} {k : Int64 → Mem → Prop} (f1 : 365 ≤ nF) (f2 : nF ≤ 900) (hK : K.2.2 1 < K.2.2 0) (h : picR K r nJ nR A T M0 M) (hw : wfS A T nJ nR ln) (hn : cntOk A nJ nR) (hX : wbd (cX A)) (hY : wbd (cY A)) (hwk : wOk b A) (hb : b ≤ 2052)
    (hk : ∀ (sp : Int32) M2, isBest (fun s => pfN A (flQ A ln noT s 3) ln.length nF) sp.toInt → picR K r nJ nR A (setTh T 0) M0 M2 → k ((dgF A ln nJ nR * 31 + sp.toInt64) * 31 + (Int32.ofNat (ttQ A (flQ A ln noT 0 3) ln.length nF)).toInt64) M2) : f_X9_digest K (r 0) k M := by
  obtain ⟨hjs, hro, hl, ha, hlk⟩ := id hw
  have n1 := h.1.1.1
  have n2 := h.1.1.2
  unfold f_X9_digest
  refine q_putM0 h (fun M h => ?_)
  have hw0 : wfS A (setTh T 0) nJ nR ln := hw
  generalize setTh T 0 = T at h hw0 hk
  have hlk0 := hw0.2.2.2.2
  -- the layers, then spot and who meets
  have l263 : ∀ (d fuel i u w : Nat) (a : Int64) (M : Mem), i + d = 10 → d < fuel → u ≤ 125 → w ≤ 1017 → picR K r nJ nR A T M0 M → (∀ (sp : Int32) M2, isBest (fun s => pfN A (flQ A ln noT s 3) ln.length nF) sp.toInt → picR K r nJ nR A T M0 M2 → k ((itF (fun i a => (a * 31 + (cX A i).toInt64) * 31 + (cY A i).toInt64) d i a * 31 + sp.toInt64) * 31 + (Int32.ofNat (ttQ A (flQ A ln noT 0 3) ln.length nF)).toInt64) M2) → f_X9_digest_b263 K k fuel u w (r 0) a (Int32.ofNat i) M := by
    intro d
    induction d with
    | zero =>
      intro fuel i u w a M hi hf hu hww h hk
      obtain ⟨fuel, rfl⟩ : ∃ e, fuel = e + 1 := ⟨fuel - 1, by omega⟩
      show f_X9_digest_b263_body K k (f_X9_digest_b263 K k fuel) u w (r 0) a (Int32.ofNat i) M
      unfold f_X9_digest_b263_body
      refine s_ifT ?_ (s_as (by omega) (s_recv h.r0 (x_spotNow (g9 := 3) f1 f2 hK h hw0 hn hX hY (by decide) (fun sp M2 h1 h2 => s_as (by omega) (s_recv h2.r0 (x_flight (g9 := 3) (sp := 0) hK h2 hw0 hX (by decide) (by decide) (fun la lb g M3 h3 h4 => s_as (by omega) (x_go (g9 := 3) (sp := (0 : Int32).toInt) (trs := noT) f1 f2 h3 h4 hw0 hn hX hY (by decide) (by decide) (fun M4 h5 _ => s_as (by omega) (hk sp M4 h1 h5))))))))))
      show Int32.ofNat 10 ≤ _
      rw [i_le (by omega) (by omega)]; omega
    | succ d ih =>
      intro fuel i u w a M hi hf hu hww h hk
      obtain ⟨fuel, rfl⟩ : ∃ e, fuel = e + 1 := ⟨fuel - 1, by omega⟩
      show f_X9_digest_b263_body K k (f_X9_digest_b263 K k fuel) u w (r 0) a (Int32.ofNat i) M
      unfold f_X9_digest_b263_body
      refine s_ifF ?_ (s_getR h.r0 rfl (s_ldI h.r3 (i_in (by omega) (by omega)) (s_getR h.r0 rfl (s_ldI h.r4 (i_in (by omega) (by omega)) ?_))))
      · show ¬ Int32.ofNat 10 ≤ _
        rw [i_le (by omega) (by omega)]; omega
      · rw [i_nat (by omega), i_succ]
        exact ih fuel (i + 1) u w _ M (by omega) (by omega) hu hww h hk
  -- the rigs
  have l200 : ∀ (g : Nat) (lp184 : Nat → Nat → Nat → Int64 → Int32 → Mem → Prop) (d fuel i u w : Nat) (a : Int64) (M : Mem), g < nR → i + d = 5 → d < fuel → u + d ≤ 125 → w + 5 * d ≤ 1017 → picR K r nJ nR A T M0 M → (∀ M2, picR K r nJ nR A T M0 M2 → lp184 (u + d) (w + 5 * d) (r 0) (itF (fun i a => a * 31 + (ofRF A nJ g (Int32.ofNat i)).toInt64) d i a * 31 + FP.d2l (FP.dmul 4634204016564240384 (FP.f2d (cW A g)))) (Int32.ofNat g + 1) M2) → f_X9_digest_b200 K k lp184 fuel u w (r 0) a (Int32.ofNat g) (Int32.ofNat i) M := by
    intro g lp184 d
    induction d with
    | zero =>
      intro fuel i u w a M hg hi hf hu hww h hk
      obtain ⟨fuel, rfl⟩ : ∃ e, fuel = e + 1 := ⟨fuel - 1, by omega⟩
      show f_X9_digest_b200_body K k lp184 (f_X9_digest_b200 K k lp184 fuel) u w (r 0) a (Int32.ofNat g) (Int32.ofNat i) M
      unfold f_X9_digest_b200_body
      obtain ⟨m, m1, m2⟩ := hwk g (by omega)
      obtain ⟨-, -, -, -, -, -, w7, w8, -⟩ := wf_spec (n := m) (by omega) wf_all
      refine s_ifT ?_ (s_getR h.r0 rfl (s_as (by omega) (s_recv h.r2 (q_gG h hg (s_recv (h.rg hg) (s_getF (h.rg hg) rfl (s_as ?_ ?_)))))))
      · show Int32.ofNat 4 < _
        rw [i_lt (by omega) (by omega)]; omega
      · show vf_n32 (FP.fmul 1115684864 (cW A g))
        rw [m2]; exact w7
      · have h9 := hk M h
        rw [m2, w8, ← m2] at h9
        exact h9
    | succ d ih =>
      intro fuel i u w a M hg hi hf hu hww h hk
      obtain ⟨fuel, rfl⟩ : ∃ e, fuel = e + 1 := ⟨fuel - 1, by omega⟩
      show f_X9_digest_b200_body K k lp184 (f_X9_digest_b200 K k lp184 fuel) u w (r 0) a (Int32.ofNat g) (Int32.ofNat i) M
      unfold f_X9_digest_b200_body
      refine s_ifF ?_ (s_as (by omega) (s_recv h.r0 (x_rigNow h hro hg (by omega) (fun M2 h2 => ?_))))
      · show ¬ Int32.ofNat 4 < _
        rw [i_lt (by omega) (by omega)]; omega
      · rw [i_succ]
        refine ih fuel (i + 1) (u + 1) (w + 5) _ M2 hg (by omega) (by omega) (by omega) (by omega) h2 (fun M3 h3 => ?_)
        rw [show u + 1 + d = u + (d + 1) by omega, show w + 5 + 5 * d = w + 5 * (d + 1) by omega]
        exact hk M3 h3
  have l184 : ∀ (d fuel g u w : Nat) (a : Int64) (M : Mem), g + d = nR → d < fuel → u + 5 * d ≤ 125 → w + 25 * d ≤ 1017 → picR K r nJ nR A T M0 M → (∀ (sp : Int32) M2, isBest (fun s => pfN A (flQ A ln noT s 3) ln.length nF) sp.toInt → picR K r nJ nR A T M0 M2 → k ((itF (fun i a => (a * 31 + (cX A i).toInt64) * 31 + (cY A i).toInt64) 10 0 (itF (dgR A nJ) d g a) * 31 + sp.toInt64) * 31 + (Int32.ofNat (ttQ A (flQ A ln noT 0 3) ln.length nF)).toInt64) M2) → f_X9_digest_b184 K k fuel u w (r 0) a (Int32.ofNat g) M := by
    intro d
    induction d with
    | zero =>
      intro fuel g u w a M hg hf hu hww h hk
      obtain ⟨fuel, rfl⟩ : ∃ e, fuel = e + 1 := ⟨fuel - 1, by omega⟩
      show f_X9_digest_b184_body K k (f_X9_digest_b184 K k fuel) u w (r 0) a (Int32.ofNat g) M
      unfold f_X9_digest_b184_body
      refine s_getR h.r0 rfl (s_as (by omega) (s_recv h.r2 (q_size h.r2 (s_ifT ?_ ?_))))
      · rw [i_le (by omega) (by omega)]; omega
      · exact l263 10 mFuel 0 u w a M rfl (by decide) (by omega) (by omega) h hk
    | succ d ih =>
      intro fuel g u w a M hg hf hu hww h hk
      obtain ⟨fuel, rfl⟩ : ∃ e, fuel = e + 1 := ⟨fuel - 1, by omega⟩
      show f_X9_digest_b184_body K k (f_X9_digest_b184 K k fuel) u w (r 0) a (Int32.ofNat g) M
      unfold f_X9_digest_b184_body
      refine s_getR h.r0 rfl (s_as (by omega) (s_recv h.r2 (q_size h.r2 (s_ifF ?_ ?_))))
      · rw [i_le (by omega) (by omega)]; omega
      · refine l200 g _ 5 mFuel 0 u w a M (by omega) rfl (by decide) (by omega) (by omega) h (fun M2 h2 => ?_)
        rw [i_succ]
        exact ih fuel (g + 1) (u + 5) (w + 5 * 5) _ M2 (by omega) (by omega) (by omega) (by omega) h2 hk
  -- the jumpers
  have l54 : ∀ (j : Nat) (lp38 : Nat → Nat → Nat → Int64 → Int32 → Mem → Prop) (d fuel i u w : Nat) (a : Int64) (M : Mem), j < nJ → i + d = 9 → d < fuel → u + d ≤ 85 → w + 9 * d ≤ 817 → picR K r nJ nR A T M0 M → (∀ M2, picR K r nJ nR A T M0 M2 → lp38 (u + d) (w + 9 * d) (r 0) ((((itF (fun i a => a * 31 + (ofJF A ln j (Int32.ofNat i)).toInt64) d i a * 31 + FP.d2l (FP.dmul 4652218415073722368 (em (cP A j 8)))) * 31 + FP.d2l (FP.dmul 4652218415073722368 (em (cP A j 9)))) * 31 + (whyF A ln j).toInt64) * 31 + (bestF A nJ (Int32.ofNat j) j nR 0 (-1) 0).toInt64) (Int32.ofNat j + 1) M2) → f_X9_digest_b54 K k lp38 fuel u w (r 0) a (Int32.ofNat j) (Int32.ofNat i) M := by
    intro j lp38 d
    induction d with
    | zero =>
      intro fuel i u w a M hj hi hf hu hww h hk
      obtain ⟨fuel, rfl⟩ : ∃ e, fuel = e + 1 := ⟨fuel - 1, by omega⟩
      show f_X9_digest_b54_body K k lp38 (f_X9_digest_b54 K k lp38 fuel) u w (r 0) a (Int32.ofNat j) (Int32.ofNat i) M
      unfold f_X9_digest_b54_body
      obtain ⟨p1, p2⟩ := (hjs j hj).2.2.2
      unfold posOk at p1 p2
      refine s_ifT ?_ (s_getR h.r0 rfl (s_as (by omega) (s_recv h.r1 (q_gJ h hj (s_recv (h.rj hj) (s_getD (h.rj hj) rfl (s_as ?_ (s_getR h.r0 rfl (s_as (by omega) (s_recv h.r1 (q_gJ h hj (s_recv (h.rj hj) (s_getD (h.rj hj) rfl (s_as ?_ (s_getR h.r0 rfl (s_as (by omega) (s_recv h.r1 (q_gJ h hj (s_recv (h.rj hj) (s_as (by omega) (s_recv h.r0 (x_why h hw0 hj (s_as (by omega) (s_recv h.r0 (x_bestNow h hj (hjs j hj) hro (hk M h))))))))))))))))))))))))))
      · show Int32.ofNat 8 < _
        rw [i_lt (by omega) (by omega)]; omega
      · exact d1024 (by omega)
      · exact d1024 (by omega)
    | succ d ih =>
      intro fuel i u w a M hj hi hf hu hww h hk
      obtain ⟨fuel, rfl⟩ : ∃ e, fuel = e + 1 := ⟨fuel - 1, by omega⟩
      show f_X9_digest_b54_body K k lp38 (f_X9_digest_b54 K k lp38 fuel) u w (r 0) a (Int32.ofNat j) (Int32.ofNat i) M
      unfold f_X9_digest_b54_body
      refine s_ifF ?_ (s_as (by omega) (s_recv h.r0 (x_jumperNow h hw0 hj (by omega) (fun M2 h2 => ?_))))
      · show ¬ Int32.ofNat 8 < _
        rw [i_lt (by omega) (by omega)]; omega
      · rw [i_succ]
        refine ih fuel (i + 1) (u + 1) (w + 9) _ M2 hj (by omega) (by omega) (by omega) (by omega) h2 (fun M3 h3 => ?_)
        rw [show u + 1 + d = u + (d + 1) by omega, show w + 9 + 9 * d = w + 9 * (d + 1) by omega]
        exact hk M3 h3
  have l38 : ∀ (d fuel j u w : Nat) (a : Int64) (M : Mem), j + d = nJ → d < fuel → u + 9 * d ≤ 85 → w + 81 * d ≤ 817 → picR K r nJ nR A T M0 M → (∀ (sp : Int32) M2, isBest (fun s => pfN A (flQ A ln noT s 3) ln.length nF) sp.toInt → picR K r nJ nR A T M0 M2 → k ((itF (fun i a => (a * 31 + (cX A i).toInt64) * 31 + (cY A i).toInt64) 10 0 (itF (dgR A nJ) nR 0 (itF (dgJ A ln nJ nR) d j a)) * 31 + sp.toInt64) * 31 + (Int32.ofNat (ttQ A (flQ A ln noT 0 3) ln.length nF)).toInt64) M2) → f_X9_digest_b38 K k fuel u w (r 0) a (Int32.ofNat j) M := by
    intro d
    induction d with
    | zero =>
      intro fuel j u w a M hj hf hu hww h hk
      obtain ⟨fuel, rfl⟩ : ∃ e, fuel = e + 1 := ⟨fuel - 1, by omega⟩
      show f_X9_digest_b38_body K k (f_X9_digest_b38 K k fuel) u w (r 0) a (Int32.ofNat j) M
      unfold f_X9_digest_b38_body
      refine s_getR h.r0 rfl (s_as (by omega) (s_recv h.r1 (q_size h.r1 (s_ifT ?_ ?_))))
      · rw [i_le (by omega) (by omega)]; omega
      · exact l184 nR mFuel 0 u w a M (Nat.zero_add _) (by show nR < 4096; omega) (by omega) (by omega) h hk
    | succ d ih =>
      intro fuel j u w a M hj hf hu hww h hk
      obtain ⟨fuel, rfl⟩ : ∃ e, fuel = e + 1 := ⟨fuel - 1, by omega⟩
      show f_X9_digest_b38_body K k (f_X9_digest_b38 K k fuel) u w (r 0) a (Int32.ofNat j) M
      unfold f_X9_digest_b38_body
      refine s_getR h.r0 rfl (s_as (by omega) (s_recv h.r1 (q_size h.r1 (s_ifF ?_ ?_))))
      · rw [i_le (by omega) (by omega)]; omega
      · refine l54 j _ 9 mFuel 0 u w a M (by omega) rfl (by decide) (by omega) (by omega) h (fun M2 h2 => ?_)
        rw [i_succ]
        exact ih fuel (j + 1) (u + 9) (w + 9 * 9) _ M2 (by omega) (by omega) (by omega) (by omega) h2 hk
  have l11 : ∀ (d fuel i u w : Nat) (a : Int64) (M : Mem), i + d = 13 → d < fuel → u + d ≤ 13 → w + 13 * d ≤ 169 → picR K r nJ nR A T M0 M → (∀ (sp : Int32) M2, isBest (fun s => pfN A (flQ A ln noT s 3) ln.length nF) sp.toInt → picR K r nJ nR A T M0 M2 → k ((itF (fun i a => (a * 31 + (cX A i).toInt64) * 31 + (cY A i).toInt64) 10 0 (itF (dgR A nJ) nR 0 (itF (dgJ A ln nJ nR) nJ 0 (itF (fun i a => a * 31 + (manyF A (Int32.ofNat i)).toInt64) d i a))) * 31 + sp.toInt64) * 31 + (Int32.ofNat (ttQ A (flQ A ln noT 0 3) ln.length nF)).toInt64) M2) → f_X9_digest_b11 K k fuel u w (r 0) a (Int32.ofNat i) M := by
    intro d
    induction d with
    | zero =>
      intro fuel i u w a M hi hf hu hww h hk
      obtain ⟨fuel, rfl⟩ : ∃ e, fuel = e + 1 := ⟨fuel - 1, by omega⟩
      show f_X9_digest_b11_body K k (f_X9_digest_b11 K k fuel) u w (r 0) a (Int32.ofNat i) M
      unfold f_X9_digest_b11_body
      refine s_ifT ?_ ?_
      · show Int32.ofNat 12 < _
        rw [i_lt (by omega) (by omega)]; omega
      · exact l38 nJ mFuel 0 u w a M (Nat.zero_add _) (by show nJ < 4096; omega) (by omega) (by omega) h hk
    | succ d ih =>
      intro fuel i u w a M hi hf hu hww h hk
      obtain ⟨fuel, rfl⟩ : ∃ e, fuel = e + 1 := ⟨fuel - 1, by omega⟩
      show f_X9_digest_b11_body K k (f_X9_digest_b11 K k fuel) u w (r 0) a (Int32.ofNat i) M
      unfold f_X9_digest_b11_body
      refine s_ifF ?_ (s_as (by omega) (s_recv h.r0 (x_manyNow h hl ha hlk0 hn (by omega) (fun M2 h2 => ?_))))
      · show ¬ Int32.ofNat 12 < _
        rw [i_lt (by omega) (by omega)]; omega
      · rw [i_succ]
        exact ih fuel (i + 1) (u + 1) (w + 13) _ M2 (by omega) (by omega) (by omega) (by omega) h2 hk
  exact l11 13 mFuel 0 0 0 58311 M rfl (by decide) (by decide) (by decide) h hk
end REFL
