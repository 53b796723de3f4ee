/-! ===== THE REFERENCE: points, the best spot, who would meet ===== -/
section REFI
variable {K : Cfg} {r : Nat → Nat} {nJ nR nF : Nat} {A : CS} {T : RT} {M0 M : Mem} {ln : List Nat} {la lb : Nat} {g : Nat → Nat}
theorem x_points {g9 n : Nat} {trs : Nat → Bool} {st : Nat → JS} {k : Int32 → Mem → Prop} (ht : picT K r nJ nR M0 la lb g n (fun j => jE A ln r g9 trs j (st j)) M) (hn : n ≤ 10) (hs : ∀ j, j < n → good 50000 (st j)) (hk : k (Int32.ofNat (sumN (fun j => ptN (st j).2.2.1 (st j).2.2.2) n)) M) : f_X9_points K la k M := by
  have lp : ∀ d fuel v : Nat, v + d = n → d < fuel → f_X9_points_b4 K k fuel la (Int32.ofNat (sumN (fun j => ptN (st j).2.2.1 (st j).2.2.2) v)) (Int32.ofNat v) M := by
    intro d
    induction d with
    | zero =>
      intro fuel v hv hf
      obtain ⟨fuel, rfl⟩ : ∃ e, fuel = e + 1 := ⟨fuel - 1, by omega⟩
      have hvn : v = n := by omega
      subst hvn
      show f_X9_points_b4_body K k (f_X9_points_b4 K k fuel) la _ (Int32.ofNat v) M
      unfold f_X9_points_b4_body
      exact t_recv ht (t_size ht (s_ifT (Int32.le_refl _) hk))
    | succ d ih =>
      intro fuel v hv hf
      obtain ⟨fuel, rfl⟩ : ∃ e, fuel = e + 1 := ⟨fuel - 1, by omega⟩
      show f_X9_points_b4_body K k (f_X9_points_b4 K k fuel) la _ (Int32.ofNat v) M
      unfold f_X9_points_b4_body
      have hc := (ht.2.2.2.1 v (by omega)).2
      obtain ⟨-, -, b1, b2⟩ := hs v (by omega)
      refine t_recv ht (t_size ht (s_ifF ?_ (t_recv ht (t_get ht hn (by omega) (s_recv hc (s_recv hc (q_points hc (by omega) (by omega) ?_)))))))
      · rw [i_le (by omega) (by omega)]; omega
      · rw [ptsK_N, ← Int32.ofNat_add, i_succ]
        exact ih fuel (v + 1) (by omega) (by omega)
  unfold f_X9_points
  exact lp n mFuel 0 (Nat.zero_add _) (by show n < 4096; omega)
/-- the points of a flight that went are those of its jumps alone -/
theorem pts_end {g9 : Nat} {sp : Int} {trs : Nat → Bool} (f1 : 365 ≤ nF) (f2 : nF ≤ 900) (hw : wfS A T nJ nR ln) (hn : cntOk A nJ nR) (hX : wbd (cX A)) (hY : wbd (cY A)) (hg : g9 ≤ 9) (hsp : -200 ≤ sp ∧ sp ≤ 200) : sumN (fun j => ptN (psQ A (flQ A ln trs sp g9) nF j).2.2.2.2.1 (psQ A (flQ A ln trs sp g9) nF j).2.2.2.2.2) ln.length = pfN A (flQ A ln trs sp g9) ln.length nF := by
  obtain ⟨hjs, hro, hl, ha, hlk⟩ := hw
  have hf := flQ_ok hn hl ha hro hX hg hsp trs
  unfold pfN
  exact sumN_congr _ (fun j hj => by rw [(ps_last f1 f2 hX hY hf hj).1])
theorem x_spotStep {g9 u w fuel : Nat} {b ms far sg : Int32} {k : Int32 → Mem → Prop} {lp16 : Nat → Nat → Nat → Int32 → Int32 → Int32 → Int32 → Mem → Prop} (f1 : 365 ≤ nF) (f2 : nF ≤ 900) (hK : K.2.2 1 < K.2.2 0) (h : picR K r nJ nR A T M0 M) (hw : wfS A T nJ nR ln) (hn : cntOk A nJ nR) (hX : wbd (cX A)) (hY : wbd (cY A)) (hg : g9 ≤ 9) (hsp : -200 ≤ (sg * far).toInt ∧ (sg * far).toInt ≤ 200) (h2 : ¬ 2 ≤ sg) (hu : u + 20 ≤ 440) (hww : w + 183 ≤ 4026)
    (hk1 : ms < Int32.ofNat (pfN A (flQ A ln noT (sg * far).toInt g9) ln.length nF) → ∀ M2, picR K r nJ nR A T M0 M2 → f_X9_spotNow_b27 K k lp16 fuel (u + 13 + 7) (w + 141 + 42) (r 0) (Int32.ofNat g9) (sg * far) (Int32.ofNat (pfN A (flQ A ln noT (sg * far).toInt g9) ln.length nF)) far (sg + 2) M2)
    (hk2 : ¬ ms < Int32.ofNat (pfN A (flQ A ln noT (sg * far).toInt g9) ln.length nF) → ∀ M2, picR K r nJ nR A T M0 M2 → f_X9_spotNow_b27 K k lp16 fuel (u + 13 + 7) (w + 141 + 42) (r 0) (Int32.ofNat g9) b ms far (sg + 2) M2) : f_X9_spotNow_b27 K k lp16 (fuel + 1) u w (r 0) (Int32.ofNat g9) b ms far sg M := by
  obtain ⟨hjs, hro, hl, ha, hlk⟩ := id hw
  have l1 := hl.1
  show f_X9_spotNow_b27_body K k lp16 (f_X9_spotNow_b27 K k lp16 fuel) u w (r 0) (Int32.ofNat g9) b ms far sg M
  unfold f_X9_spotNow_b27_body f_X9_spotNow_b75
  have hf := flQ_ok hn hl ha hro hX hg hsp noT
  refine s_ifF h2 (s_as (by omega) (s_recv h.r0 (x_flight hK h hw hX hg hsp (fun la lb g M2 h3 h4 => s_as (by omega) (x_go f1 f2 h3 h4 hw hn hX hY hg hsp (fun M4 h5 h6 => s_as (by omega) ?_))))))
  have hgd : ∀ j, j < ln.length → good 50000 (psQ A (flQ A ln noT (sg * far).toInt g9) nF j).2.2 := fun j hj => good_mono (ps_last f1 f2 hX hY hf hj).2 (by decide)
  refine x_points h6 (by omega) hgd ?_
  rw [pts_end f1 f2 hw hn hX hY hg hsp]
  refine s_if (fun c1 => s_as (by omega) (x_points h6 (by omega) hgd ?_)) (fun c1 => hk2 c1 M4 h5)
  rw [pts_end f1 f2 hw hn hX hY hg hsp]
  exact hk1 c1 M4 h5
/-- the best of those tried so far -/
def bestSo (p : Int → Nat) (tried : Int → Prop) (b ms : Int) : Prop := ms = (p b : Int) ∧ (∃ i : Nat, i ≤ 20 ∧ b = 20 * (i : Int) - 200) ∧ tried b ∧ ∀ s, tried s → keyS p s ≤ keyS p b
theorem x_spotNow {g9 : Nat} {k : Int32 → Mem → Prop} (f1 : 365 ≤ nF) (f2 : nF ≤ 900) (hK : K.2.2 1 < K.2.2 0) (h : picR K r nJ nR A T M0 M) (hw : wfS A T nJ nR ln) (hn : cntOk A nJ nR) (hX : wbd (cX A)) (hY : wbd (cY A)) (hg : g9 ≤ 9)
    (hk : ∀ (b : Int32) M2, isBest (fun s => pfN A (flQ A ln noT s g9) ln.length nF) b.toInt → picR K r nJ nR A T M0 M2 → k b M2) : f_X9_spotNow K (r 0) (Int32.ofNat g9) k M := by
  obtain ⟨hjs, hro, hl, ha, hlk⟩ := id hw
  have l1 := hl.1
  generalize hp : (fun s => pfN A (flQ A ln noT s g9) ln.length nF) = p at hk
  have hpe : ∀ s, pfN A (flQ A ln noT s g9) ln.length nF = p s := fun s => by rw [← hp]
  have hple : ∀ s, p s ≤ 18 := fun s => by rw [← hpe]; exact Nat.le_trans (pfN_le _ _ _ _) (by omega)
  have hto : ∀ s, (Int32.ofNat (p s)).toInt = (p s : Int) := fun s => i_toInt (by have := hple s; omega)
  have lp : ∀ (d fuel m u w : Nat) (b ms far : Int32) (M : Mem), m + d = 11 → d < fuel → u = 40 * m → w = 366 * m → far.toInt = 20 * (m : Int) → picR K r nJ nR A T M0 M → ((m = 0 ∧ b.toInt = 0 ∧ ms.toInt = -1) ∨ bestSo p (fun s => ∃ q : Nat, q < m ∧ (s = 20 * (q : Int) ∨ s = -(20 * (q : Int)))) b.toInt ms.toInt) → f_X9_spotNow_b16 K k fuel u w (r 0) (Int32.ofNat g9) b ms far M := by
    intro d
    induction d with
    | zero =>
      intro fuel m u w b ms far M hm hfu hu hww hfar h hinv
      obtain ⟨fuel, rfl⟩ : ∃ e, fuel = e + 1 := ⟨fuel - 1, by omega⟩
      show f_X9_spotNow_b16_body K k (f_X9_spotNow_b16 K k fuel) u w (r 0) (Int32.ofNat g9) b ms far M
      unfold f_X9_spotNow_b16_body
      refine s_ifT ?_ (s_as (by omega) (hk b M ?_ h))
      · rw [Int32.lt_iff_toInt_lt]; show (200 : Int) < _; omega
      · rcases hinv with h1 | ⟨-, h2, -, h4⟩
        · omega
        · refine ⟨h2, fun i hi => h4 _ ?_⟩
          by_cases hc : i ≤ 10
          · exact ⟨10 - i, by omega, Or.inr (by omega)⟩
          · exact ⟨i - 10, by omega, Or.inl (by omega)⟩
    | succ d ih =>
      intro fuel m u w b ms far M hm hfu hu hww hfar h hinv
      obtain ⟨fuel, rfl⟩ : ∃ e, fuel = e + 1 := ⟨fuel - 1, by omega⟩
      show f_X9_spotNow_b16_body K k (f_X9_spotNow_b16 K k fuel) u w (r 0) (Int32.ofNat g9) b ms far M
      unfold f_X9_spotNow_b16_body
      refine s_ifF ?_ ?_
      · rw [Int32.lt_iff_toInt_lt]; show ¬ (200 : Int) < _; omega
      have hn1 : (-1 : Int32).toInt = -1 := rfl
      have hp1 : (1 : Int32).toInt = 1 := rfl
      have sN : ((-1 : Int32) * far).toInt = -(20 * (m : Int)) := by rw [i_mul (by rw [hn1]; omega) (by rw [hn1]; omega), hn1]; omega
      have sP : ((1 : Int32) * far).toInt = 20 * (m : Int) := by rw [i_mul (by rw [hp1]; omega) (by rw [hp1]; omega), hp1]; omega
      have e12 : (-1 : Int32) + 2 = 1 := by decide
      have e13 : (1 : Int32) + 2 = 3 := by decide
      -- behind both signs
      have tail : ∀ (b ms : Int32) (M : Mem), picR K r nJ nR A T M0 M → bestSo p (fun s => ∃ q : Nat, q < m + 1 ∧ (s = 20 * (q : Int) ∨ s = -(20 * (q : Int)))) b.toInt ms.toInt → f_X9_spotNow_b27 K k (f_X9_spotNow_b16 K k fuel) 4094 (u + 13 + 7 + 13 + 7) (w + 141 + 42 + 141 + 42) (r 0) (Int32.ofNat g9) b ms far 3 M := by
        intro b ms M h hb
        show f_X9_spotNow_b27_body K k (f_X9_spotNow_b16 K k fuel) (f_X9_spotNow_b27 K k (f_X9_spotNow_b16 K k fuel) 4093) (u + 13 + 7 + 13 + 7) (w + 141 + 42 + 141 + 42) (r 0) (Int32.ofNat g9) b ms far 3 M
        unfold f_X9_spotNow_b27_body
        refine s_ifT (by decide) (ih fuel (m + 1) _ _ b ms (far + 20) M (by omega) (by omega) (by omega) (by omega) ?_ h (Or.inr hb))
        have h20 : (20 : Int32).toInt = 20 := rfl
        rw [i_add (by rw [h20]; omega) (by rw [h20]; omega), h20]; omega
      -- the second sign
      have second : ∀ (b ms : Int32) (M : Mem), picR K r nJ nR A T M0 M → bestSo p (fun s => (∃ q : Nat, q < m ∧ (s = 20 * (q : Int) ∨ s = -(20 * (q : Int)))) ∨ s = -(20 * (m : Int))) b.toInt ms.toInt → f_X9_spotNow_b27 K k (f_X9_spotNow_b16 K k fuel) 4095 (u + 13 + 7) (w + 141 + 42) (r 0) (Int32.ofNat g9) b ms far 1 M := by
        intro b ms M h ⟨b1, ⟨bi, bi1, bi2⟩, b3, b4⟩
        have habs : b.toInt.natAbs ≤ 20 * m := by
          rcases b3 with ⟨q, q1, q2 | q2⟩ | q2 <;> omega
        refine x_spotStep (fuel := 4094) f1 f2 hK h hw hn hX hY hg (by rw [sP]; omega) (by decide) (by omega) (by omega) (fun c1 M2 h2 => ?_) (fun c1 M2 h2 => ?_)
        · rw [hpe, sP, e13]
          rw [hpe, sP, Int32.lt_iff_toInt_lt, hto, b1] at c1
          refine tail _ _ M2 h2 ?_
          rw [sP, hto]
          refine ⟨rfl, ⟨10 + m, by omega, by omega⟩, ⟨m, by omega, Or.inl rfl⟩, fun s hs => ?_⟩
          have hkey : keyS p b.toInt ≤ keyS p (20 * (m : Int)) := by
            unfold keyS
            split <;> split <;> omega
          obtain ⟨q, q1, q2⟩ := hs
          by_cases hqm : q = m
          · rcases q2 with q2 | q2
            · rw [q2, hqm]; exact Int.le_refl _
            · exact Int.le_trans (b4 s (Or.inr (by rw [q2, hqm]))) hkey
          · exact Int.le_trans (b4 s (Or.inl ⟨q, by omega, q2⟩)) hkey
        · rw [e13]
          rw [hpe, sP, Int32.lt_iff_toInt_lt, hto, b1] at c1
          refine tail _ _ M2 h2 ⟨b1, ⟨bi, bi1, bi2⟩, ?_, fun s hs => ?_⟩
          · rcases b3 with ⟨q, q1, q2⟩ | q2
            · exact ⟨q, by omega, q2⟩
            · exact ⟨m, by omega, Or.inr q2⟩
          · obtain ⟨q, q1, q2⟩ := hs
            by_cases hqm : q = m
            · rcases q2 with q2 | q2
              · rw [q2, hqm]
                unfold keyS
                split <;> split <;> omega
              · exact b4 s (Or.inr (by rw [q2, hqm]))
            · exact b4 s (Or.inl ⟨q, by omega, q2⟩)
      -- the first sign
      refine x_spotStep (fuel := 4095) f1 f2 hK h hw hn hX hY hg (by rw [sN]; omega) (by decide) (by omega) (by omega) (fun c1 M2 h2 => ?_) (fun c1 M2 h2 => ?_)
      · rw [hpe, sN, e12]
        rw [hpe, sN, Int32.lt_iff_toInt_lt, hto] at c1
        refine second _ _ M2 h2 ?_
        rw [sN, hto]
        refine ⟨rfl, ⟨10 - m, by omega, by omega⟩, Or.inr rfl, fun s hs => ?_⟩
        rcases hs with ⟨q, q1, q2⟩ | q2
        · rcases hinv with h1 | ⟨b1, ⟨bi, bi1, bi2⟩, b3, b4⟩
          · omega
          · refine Int.le_trans (b4 s ⟨q, q1, q2⟩) ?_
            rw [b1] at c1
            unfold keyS
            split <;> split <;> omega
        · rw [q2]; exact Int.le_refl _
      · rw [e12]
        rw [hpe, sN, Int32.lt_iff_toInt_lt, hto] at c1
        rcases hinv with h1 | ⟨b1, ⟨bi, bi1, bi2⟩, b3, b4⟩
        · omega
        · have habs : b.toInt.natAbs < 20 * m := by
            obtain ⟨q, q1, q2 | q2⟩ := b3 <;> omega
          rw [b1] at c1
          refine second _ _ M2 h2 ⟨b1, ⟨bi, bi1, bi2⟩, Or.inl b3, fun s hs => ?_⟩
          rcases hs with hs | q2
          · exact b4 s hs
          · rw [q2]
            unfold keyS
            split <;> split <;> omega
  unfold f_X9_spotNow
  refine s_as (by decide) (s_recv h.r0 (x_aboard h hl ha hlk (s_if (fun c1 => s_as (by decide) (hk 0 M ?_ h)) (fun c1 => ?_))))
  · have c1 : Int32.ofNat ln.length = Int32.ofNat 0 := c1
    rw [i_eq (by omega) (by omega)] at c1
    have hz : ∀ s, p s = 0 := fun s => by rw [← hpe, c1]; rfl
    have h0 : (0 : Int32).toInt = 0 := rfl
    rw [h0]
    refine ⟨⟨10, by omega, by omega⟩, fun i hi => ?_⟩
    unfold keyS
    rw [hz, hz]
    split <;> split <;> omega
  · exact lp 11 mFuel 0 0 0 0 (-1) 0 M rfl (by decide) rfl rfl rfl h (Or.inl ⟨rfl, rfl, rfl⟩)
theorem x_spot {gp : Int32} {k : Int32 → Mem → Prop} (f1 : 365 ≤ nF) (f2 : nF ≤ 900) (hK : K.2.2 1 < K.2.2 0) (h : picR K r nJ nR A T M0 M) (hw : wfS A T nJ nR ln) (hn : cntOk A nJ nR) (hX : wbd (cX A)) (hY : wbd (cY A)) (h1 : ¬ inB gp 1 9 → ∀ M2, picR K r nJ nR A (setTh T 1) M0 M2 → k 0 M2)
    (hk : ∀ g9, gp = Int32.ofNat g9 → 1 ≤ g9 → g9 ≤ 9 → ∀ (b : Int32) M2, isBest (fun s => pfN A (flQ A ln noT s g9) ln.length nF) b.toInt → picR K r nJ nR A (setTh T 0) M0 M2 → k b M2) : f_X9_spot K (r 0) gp k M := by
  unfold f_X9_spot
  refine q_putM0 h (fun M h => x_in (fun p1 => s_ifF (by decide) (s_recv h.r0 ?_)) (fun p1 => s_ifT rfl (s_recv h.r0 (x_no h (fun M h => h1 p1 M h)))))
  obtain ⟨g9, rfl, g1, g2⟩ := i_num (lo := 1) (hi := 9) (by decide) (by decide) p1
  exact x_spotNow (T := setTh T 0) f1 f2 hK h hw hn hX hY g2 (fun b M2 h3 h4 => hk g9 rfl g1 g2 b M2 h3 h4)
theorem x_wouldMeet {gp sp : Int32} {k : Int32 → Mem → Prop} (f1 : 365 ≤ nF) (f2 : nF ≤ 900) (hK : K.2.2 1 < K.2.2 0) (h : picR K r nJ nR A T M0 M) (hw : wfS A T nJ nR ln) (hn : cntOk A nJ nR) (hX : wbd (cX A)) (hY : wbd (cY A)) (h1 : ¬ (inB gp 1 9 ∧ inB sp (-200) 200) → ∀ M2, picR K r nJ nR A (setTh T 1) M0 M2 → k 0 M2)
    (hk : ∀ g9, gp = Int32.ofNat g9 → 1 ≤ g9 → g9 ≤ 9 → inB sp (-200) 200 → ∀ M2, picR K r nJ nR A (setTh T 0) M0 M2 → k (Int32.ofNat (ttQ A (flQ A ln noT sp.toInt g9) ln.length nF)) M2) : f_X9_wouldMeet K (r 0) gp sp k M := by
  unfold f_X9_wouldMeet f_X9_wouldMeet_b28
  refine q_putM0 h (fun M h => x_in (fun p1 => s_ifF (by decide) (x_in (fun p2 => s_ifF (by decide) (s_recv h.r0 ?_)) (fun p2 => s_ifT rfl (s_recv h.r0 (x_no h (fun M h => h1 (fun h9 => p2 h9.2) M h)))))) (fun p1 => s_ifT rfl (s_recv h.r0 (x_no h (fun M h => h1 (fun h9 => p1 h9.1) M h)))))
  obtain ⟨g9, rfl, g1, g2⟩ := i_num (lo := 1) (hi := 9) (by decide) (by decide) p1
  have hsp : -200 ≤ sp.toInt ∧ sp.toInt ≤ 200 := ⟨Int32.le_iff_toInt_le.mp p2.1, Int32.le_iff_toInt_le.mp p2.2⟩
  exact x_flight (T := setTh T 0) hK h hw hX g2 hsp (fun la lb g M2 h3 h4 => x_go f1 f2 h3 h4 hw hn hX hY g2 hsp (fun M4 h5 _ => hk g9 rfl g1 g2 p2 M4 h5))
end REFI
