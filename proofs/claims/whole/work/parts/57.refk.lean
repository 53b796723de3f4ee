/-! ===== THE REFERENCE: fly ===== -/
section REFK
variable {K : Cfg} {r : Nat → Nat} {nJ nR nF : Nat} {A B : CS} {T : RT} {M0 M : Mem} {ln : List Nat} {la lb : Nat} {g : Nat → Nat}
def trV (A : CS) (ln : List Nat) (v j : Nat) : Bool := decide (j < v) && trB A ln j
theorem x_draw_loop {g9 b : Nat} {sp : Int} {k : Int32 → Mem → Prop} (hw : wfS A T nJ nR ln) (hn : cntOk A nJ nR) (hwk : wOk b A) (hb : b ≤ 2052)
    (hk : ∀ M2, picR K r nJ nR (setS A 11 (drI A ln.length)) T M0 M2 → picT K r nJ nR M0 la lb g ln.length (fun j => jE A ln r g9 (trV A ln ln.length) j (10, 0, lvX A sp g9 j, 0)) M2 → mGetI (r 0) 10 11 (fun x2 => f_X9_go K la (fun r3 => mPut (r 0) 10 11 (.int (x2 + r3)) (f_X9_fly_b186 K k mFuel (r 0) la 0))) M2) :
    ∀ (d fuel v : Nat) (M : Mem), v + d = ln.length → d < fuel → picR K r nJ nR (setS A 11 (drI A v)) T M0 M → picT K r nJ nR M0 la lb g ln.length (fun j => jE A ln r g9 (trV A ln v) j (10, 0, lvX A sp g9 j, 0)) M → f_X9_fly_b64 K k fuel (r 0) la (Int32.ofNat v) M := by
  obtain ⟨hjs, hro, hl, ha, hlk⟩ := id hw
  have l1 := hl.1
  have n2 := hn.2.1
  intro d
  induction d with
  | zero =>
    intro fuel v M hv hf h ht
    obtain ⟨fuel, rfl⟩ : ∃ e, fuel = e + 1 := ⟨fuel - 1, by omega⟩
    have hvn : v = ln.length := by omega
    subst hvn
    show f_X9_fly_b64_body K k (f_X9_fly_b64 K k fuel) (r 0) la (Int32.ofNat ln.length) M
    unfold f_X9_fly_b64_body
    exact t_recv ht (t_size ht (s_ifT (Int32.le_refl _) (hk M h ht)))
  | succ d ih =>
    intro fuel v M hv hf h ht
    obtain ⟨fuel, rfl⟩ : ∃ e, fuel = e + 1 := ⟨fuel - 1, by omega⟩
    have hlt : v < ln.length := by omega
    obtain ⟨a1, a2, a3, a4, a5, a6, a7⟩ := ha _ (getD_mem hlt)
    obtain ⟨e1, e2⟩ := rig_of a2 a3 n2
    have htr : trB A ln v = !decide ((9 - cG A (rigN A (ln.getD v 0)) 2) + FP.f2i (FP.fmul (cW A (rigN A (ln.getD v 0))) FP.fconst2) ≤ drI A (v + 1)) := rfl
    show f_X9_fly_b64_body K k (f_X9_fly_b64 K k fuel) (r 0) la (Int32.ofNat v) M
    unfold f_X9_fly_b64_body
    have hc := (ht.2.2.2.1 v hlt).2
    have htq := (ht.2.2.2.1 v hlt).1
    have hcell : ∀ trs : Nat → Bool, jE A ln r g9 trs v (10, 0, lvX A sp g9 v, 0) = .inr (7, [.ref (r (16 + ln.getD v 0)), .int (Int32.ofNat (v * g9)), .int (cJ A (ln.getD v 0) 10), .float (ldF A (ln.getD v 0)), .double (em (lvX A sp g9 v)), .double (em 0), .int (lyr 10), .int (Int32.ofNat 0), .int (Int32.ofNat (opN A (ln.getD v 0))), .int 0, .int 0, .int (if trs v = true then 1 else 0), .ref (r 0)]) := fun trs => jr_10 (trs v) a6 a7
    refine t_recv ht (t_size ht (s_ifF ?_ (s_getR h.r0 rfl (t_recv ht (t_get ht (by omega) hlt (s_recv hc (s_getR hc rfl (s_getI (h.rj a1) rfl (s_recv h.r2 ?_)))))))))
    · rw [i_le (by omega) (by omega)]; omega
    show f_Jx4a65c_get_915e3 K (r 2) (cJ A (ln.getD v 0) 2) _ M
    rw [e1]
    generalize hrr : rigN A (ln.getD v 0) = rr at e2 htr
    obtain ⟨m, m1, m2⟩ := hwk rr (by omega)
    obtain ⟨-, -, -, w4, -⟩ := wf_spec (n := m) (by omega) wf_all
    refine q_gG h e2 (s_recv (h.rg e2) (s_getI h.r0 rfl (s_as (by decide) (q_putM6 h.re (fun M2 h2 => ?_)))))
    have ht2 := ht.keep h2
    have hc2 := (ht2.2.2.2.1 v hlt).2
    have e : setS (setS A 11 (drI A v)) 11 (drI A (v + 1)) = setS A 11 (drI A (v + 1)) := by
      show (up1 (up1 (cS A) 11 (drI A v)) 11 (drI A (v + 1)), _) = _
      rw [up1_up1]; rfl
    have h3 : picR K r nJ nR (setS A 11 (drI A (v + 1))) T M0 M2 := by
      have h4 := h.comp h2
      have h5 : picR K r nJ nR (setS (setS A 11 (drI A v)) 11 (drI A (v + 1))) T M0 M2 := h4
      rw [e] at h5; exact h5
    refine t_recv ht2 (t_get ht2 (by omega) hlt (s_recv hc2 (s_getI h3.r0 rfl (s_getI (h3.rg e2) rfl (s_getF (h3.rg e2) rfl (s_as ?_ ?_))))))
    · show vf_n32 (FP.fmul (cW A rr) FP.fconst2)
      rw [m2]; exact w4
    have b161 : ∀ it : Int32, it = (if trB A ln v = true then 1 else 0) → f_X9_fly_b161 K k (f_X9_fly_b64 K k fuel) (r 0) la (Int32.ofNat v) (g v) it M2 := by
      intro it hit
      unfold f_X9_fly_b161
      have hc2 : M2 (g v) = some (jE A ln r g9 (trV A ln v) v (10, 0, lvX A sp g9 v, 0)) := hc2
      rw [hcell] at hc2
      refine s_putZ (by rw [hit]; split; exact Or.inr rfl; exact Or.inl rfl) hc2 (by show 11 < 13; decide) ?_
      rw [i_succ]
      have hset : picT K r nJ nR M0 la lb g ln.length (fun j => jE A ln r g9 (trV A ln (v + 1)) j (10, 0, lvX A sp g9 j, 0)) (mUp M2 (g v) (jE A ln r g9 (trV A ln (v + 1)) v (10, 0, lvX A sp g9 v, 0))) :=
        picT.set (S2 := fun j => jE A ln r g9 (trV A ln (v + 1)) j (10, 0, lvX A sp g9 j, 0)) (jE_isJ A ln r g9 _ _) ht2 hlt (fun i hi => by
          show jr _ _ _ _ _ _ (trV A ln (v + 1) i) _ = jr _ _ _ _ _ _ (trV A ln v i) _
          have e9 : trV A ln (v + 1) i = trV A ln v i := by
            unfold trV
            rw [show decide (i < v + 1) = decide (i < v) from decide_eq_decide.mpr (by omega)]
          rw [e9])
      have hcv := hcell (trV A ln (v + 1))
      have e8 : trV A ln (v + 1) v = trB A ln v := by unfold trV; rw [decide_eq_true (by omega), Bool.true_and]
      rw [e8, ← hit] at hcv
      have hR := h3.tmp (a := g v) (e := jE A ln r g9 (trV A ln (v + 1)) v (10, 0, lvX A sp g9 v, 0)) htq.1 htq.2
      have hrec := ih fuel (v + 1) _ (by omega) (by omega) hR hset
      rw [hcv] at hrec
      exact hrec
    show mIf ((9 - cG A rr 2) + FP.f2i (FP.fmul (cW A rr) FP.fconst2) ≤ drI A (v + 1)) _ _ M2
    refine s_if (fun c1 => b161 0 ?_) (fun c1 => b161 1 ?_)
    · rw [htr, decide_eq_true c1]; rfl
    · rw [htr, decide_eq_false c1]; rfl
theorem x_land_loop2 {g9 b : Nat} {trs : Nat → Bool} {st : Nat → JS} {xy : Nat → Int × Int} {k : Int32 → Mem → Prop} (hn : cntOk B nJ nR) (hl : lnOk B nJ ln) (ha : abOk B nJ nR ln) (hwk : wOk b B) (hb : b + 4 * ln.length ≤ 2048) (hst : ∀ j, j < ln.length → good 9000 (st j) ∧ (st j).2.2.1 = (xy j).1 ∧ (st j).2.2.2 = (xy j).2)
    (hk : ∀ M2, picR K r nJ nR (setS (flyA B ln trs xy ln.length) 12 (cS (flyA B ln trs xy ln.length) 12 + 1)) (tlF T ln ln.length) M0 M2 → k (Int32.ofNat (sumN (fun j => ptN (xy j).1 (xy j).2) ln.length)) M2) :
    ∀ (d fuel v : Nat) (M : Mem), v + d = ln.length → d < fuel → picR K r nJ nR (flyA B ln trs xy v) (tlF T ln v) M0 M → picT K r nJ nR M0 la lb g ln.length (fun j => jE A ln r g9 trs j (st j)) M → wOk (b + 4 * v) (flyA B ln trs xy v) → f_X9_fly_b186 K k fuel (r 0) la (Int32.ofNat v) M := by
  have n2 := hn.2.1
  have l1 := hl.1
  intro d
  induction d with
  | zero =>
    intro fuel v M hv hf h ht hwv
    obtain ⟨fuel, rfl⟩ : ∃ e, fuel = e + 1 := ⟨fuel - 1, by omega⟩
    have hvn : v = ln.length := by omega
    subst hvn
    show f_X9_fly_b186_body K k (f_X9_fly_b186 K k fuel) (r 0) la (Int32.ofNat ln.length) M
    unfold f_X9_fly_b186_body
    refine t_recv ht (t_size ht (s_ifT (Int32.le_refl _) (s_getI h.r0 rfl (q_putM7 h.re (fun M2 h2 => ?_)))))
    refine x_points (ht.keep h2) (by omega) (fun j hj => good_mono (hst j hj).1 (by decide)) ?_
    have e : sumN (fun j => ptN (st j).2.2.1 (st j).2.2.2) ln.length = sumN (fun j => ptN (xy j).1 (xy j).2) ln.length := sumN_congr _ (fun j hj => by rw [(hst j hj).2.1, (hst j hj).2.2])
    rw [e]
    exact hk M2 (h.comp h2)
  | succ d ih =>
    intro fuel v M hv hf h ht hwv
    obtain ⟨fuel, rfl⟩ : ∃ e, fuel = e + 1 := ⟨fuel - 1, by omega⟩
    have kp := kept_flyA B ln trs xy v
    have hlt : v < ln.length := by omega
    obtain ⟨a1, a2, a3, -⟩ := ha _ (getD_mem hlt)
    obtain ⟨q2, q3, q4⟩ := hst v hlt
    have hJ2 : cJ (flyA B ln trs xy v) (ln.getD v 0) 2 = cJ B (ln.getD v 0) 2 := kp.2.1 _ 2 (by decide) (by decide) (by decide) (by decide)
    have hjo : (cJ (flyA B ln trs xy v) (ln.getD v 0) 2 = -1 ∨ ∃ r, r < nR ∧ cJ (flyA B ln trs xy v) (ln.getD v 0) 2 = Int32.ofNat r) := by rw [hJ2]; exact a2.2.2.1
    obtain ⟨rr, r1, r2⟩ := hjo.resolve_left (by rw [hJ2]; exact a3)
    have hrN : rigN (flyA B ln trs xy v) (ln.getD v 0) = rr := by unfold rigN; rw [r2, i_nat (by omega)]
    have e1 : cJ (flyA B ln trs xy v) (ln.getD v 0) 2 = Int32.ofNat (rigN (flyA B ln trs xy v) (ln.getD v 0)) := by rw [hrN]; exact r2
    have e2 : rigN (flyA B ln trs xy v) (ln.getD v 0) < nR := by rw [hrN]; exact r1
    obtain ⟨wk1, wk2⟩ := wOk_settF (kk := ln.getD v 0) (r := rigN (flyA B ln trs xy v) (ln.getD v 0)) (tr := trs v) (x := (xy v).1) (y := (xy v).2) hwv (by omega) (by rw [hrN]; omega)
    have hstep : flyA B ln trs xy (v + 1) = settF (flyA B ln trs xy v) (ln.getD v 0) (rigN (flyA B ln trs xy v) (ln.getD v 0)) (trs v) (xy v).1 (xy v).2 := rfl
    show f_X9_fly_b186_body K k (f_X9_fly_b186 K k fuel) (r 0) la (Int32.ofNat v) M
    unfold f_X9_fly_b186_body
    have hc := (ht.2.2.2.1 v hlt).2
    have htq := (ht.2.2.2.1 v hlt).1
    refine t_recv ht (t_size ht (s_ifF ?_ (t_recv ht (t_get ht (by omega) hlt (s_recv hc (s_recv h.r0 ?_))))))
    · rw [i_le (by omega) (by omega)]; omega
    refine x_land (N := 9000) h.re htq.2 hc a1 e1 e2 q2 (by decide) wk2 (fun M2 h2 => ?_)
    rw [q3, q4, ← hstep] at h2
    rw [i_succ]
    exact ih fuel (v + 1) M2 (by omega) (by omega) (h.comp h2) (ht.keep h2) (by rw [hstep]; exact wk1)
theorem x_fly {gp sp : Int32} {b : Nat} {k : Int32 → Mem → Prop} (N : Int32) (Q5 : Nat → JQ) (f1 : 365 ≤ nF) (f2 : nF ≤ 900) (hK : K.2.2 1 < K.2.2 0) (h : picR K r nJ nR A T M0 M) (hw : wfS A T nJ nR ln) (hn : cntOk A nJ nR) (hX : wbd (cX A)) (hY : wbd (cY A)) (hwk : wOk b A) (hb : b + 4 * ln.length ≤ 2048) (hx : ¬ (inB sp (-200) 200 ∧ inB gp 1 9) → ∀ M2, picR K r nJ nR A (setTh T 1) M0 M2 → k 0 M2) (hs : inB sp (-200) 200 → inB gp 1 9 → (cS A 7 ≠ 0 ∨ ln.length = 0) → ∀ M2, picR K r nJ nR A (setTh T 2) M0 M2 → k 0 M2)
    (hk : inB sp (-200) 200 → ∀ g9, gp = Int32.ofNat g9 → 1 ≤ g9 → g9 ≤ 9 → cS A 7 = 0 → 0 < ln.length → ∀ xy, xy = xyQ A (flQ A ln (trB A ln) sp.toInt g9) nF → ∀ B, B = flyB A N Q5 ln (cS A 16 + Int32.ofNat (ttQ A (flQ A ln (trB A ln) sp.toInt g9) ln.length nF)) xy → ∀ T2 M2, (∀ j, j < nJ → tS T2 j = -1) → tH T2 = 0 → picR K r nJ nR (setS B 12 (cS B 12 + 1)) T2 M0 M2 → k (Int32.ofNat (sumN (fun j => ptN (xy j).1 (xy j).2) ln.length)) M2) : f_X9_fly K (r 0) sp gp k M := by
  obtain ⟨hjs, hro, hl, ha, hlk⟩ := id hw
  have l1 := hl.1
  unfold f_X9_fly f_X9_fly_b28 f_X9_fly_b48
  refine q_putM0 h (fun M h => x_in (fun p1 => s_ifF (by decide) (x_in (fun p2 => s_ifF (by decide) (s_getI h.r0 rfl (s_if (fun c7 => s_recv h.r0 (x_aboard h hl ha hlk (s_if (fun c6 => s_recv h.r0 (x_no h (fun M h => hs p1 p2 (Or.inr ?_) M h))) (fun c6 => s_recv h.r0 ?_)))) (fun c7 => s_recv h.r0 (x_no h (fun M h => hs p1 p2 (Or.inl c7) M h)))))) (fun p2 => s_ifT rfl (s_recv h.r0 (x_no h (fun M h => hx (fun h9 => p2 h9.2) M h)))))) (fun p1 => s_ifT rfl (s_recv h.r0 (x_no h (fun M h => hx (fun h9 => p1 h9.1) M h)))))
  · have c6 : Int32.ofNat ln.length = Int32.ofNat 0 := c6
    rwa [i_eq (by omega) (by omega)] at c6
  have hpos : 0 < ln.length := Nat.pos_of_ne_zero (fun e => c6 (by rw [e]; rfl))
  obtain ⟨g9, rfl, g1, g2⟩ := i_num (lo := 1) (hi := 9) (by decide) (by decide) p2
  have hsp : -200 ≤ sp.toInt ∧ sp.toInt ≤ 200 := ⟨Int32.le_iff_toInt_le.mp p1.1, Int32.le_iff_toInt_le.mp p1.2⟩
  have hk := hk p1 g9 rfl g1 g2 c7 hpos _ rfl _ rfl
  have hw0 : wfS A (setTh T 0) nJ nR ln := hw
  refine x_flight (T := setTh T 0) hK h hw0 hX g2 hsp (fun la lb g M2 h3 h4 => ?_)
  have e0 : setS A 11 (drI A 0) = A := by
    have e2 : up1 (cS A) 11 (cS A 11) = cS A := by
      funext i; unfold up1; split
      · rename_i hi; rw [hi]
      · rfl
    show (up1 (cS A) 11 (cS A 11), A.2) = A
    rw [e2]
  refine x_draw_loop (T := setTh T 0) (g9 := g9) (sp := sp.toInt) hw0 hn hwk (by omega) (fun M4 h5 h6 => s_getI h5.r0 rfl ?_) ln.length mFuel 0 M2 (Nat.zero_add _) (by show ln.length < 4096; omega) (by rw [e0]; exact h3) (h4.cg (fun j hj => by
    show jr _ _ _ _ _ _ (trV A ln 0 j) _ = jr _ _ _ _ _ _ false _
    have e9 : trV A ln 0 j = false := by unfold trV; rw [decide_eq_false (Nat.not_lt_zero j), Bool.false_and]
    rw [e9]))
  generalize hA1 : setS A 11 (drI A ln.length) = A1 at h5
  have eX : cX A1 = cX A := by rw [← hA1]; rfl
  have eY : cY A1 = cY A := by rw [← hA1]; rfl
  have efl : ∀ trs, flQ A1 ln trs sp.toInt g9 = flQ A ln trs sp.toInt g9 := fun trs => by rw [← hA1]; rfl
  have ejE : ∀ trs j s, jE A1 ln r g9 trs j s = jE A ln r g9 trs j s := fun trs j s => by rw [← hA1]; rfl
  have elv : ∀ j, lvX A1 sp.toInt g9 j = lvX A sp.toInt g9 j := fun j => by rw [← hA1]; rfl
  have hw1 : wfS A1 (setTh T 0) nJ nR ln := by rw [← hA1]; exact hw
  have hn1 : cntOk A1 nJ nR := by rw [← hA1]; exact hn
  have e16 : cS A1 16 = cS A 16 := by rw [← hA1]; rfl
  refine x_go (T := setTh T 0) (A := A1) (trs := trB A ln) (sp := sp.toInt) (g9 := g9) f1 f2 h5 (h6.cg (fun j hj => by
    show jE A1 ln r g9 (trB A ln) j (10, 0, lvX A1 sp.toInt g9 j, 0) = jE A ln r g9 (trV A ln ln.length) j (10, 0, lvX A sp.toInt g9 j, 0)
    rw [ejE, elv]
    show jr _ _ _ _ _ _ (trB A ln j) _ = jr _ _ _ _ _ _ (trV A ln ln.length j) _
    have e9 : trV A ln ln.length j = trB A ln j := by unfold trV; rw [decide_eq_true hj, Bool.true_and]
    rw [e9])) hw1 hn1 (by rw [eX]; exact hX) (by rw [eY]; exact hY) g2 hsp (fun M5 h7 h8 => ?_)
  rw [ttQ_xy eX eY, efl]
  refine q_putM11 h7.re (fun M6 h9 => ?_)
  rw [efl] at h8
  have hf := flQ_ok hn hl ha hro hX g2 hsp (trB A ln)
  have h10 : picR K r nJ nR (setS (setS (repQ A N Q5) 11 (drI A ln.length)) 16 (cS A 16 + Int32.ofNat (ttQ A (flQ A ln (trB A ln) sp.toInt g9) ln.length nF))) (setTh T 0) M0 M6 := by
    have h11 := h7.comp h9
    rw [e16, ← hA1] at h11
    exact h11.congr rfl ⟨rfl, rfl⟩ rfl rfl (fun _ _ => rfl) (fun _ _ => rfl)
  have h8' := (h8.keep h9).cg (S2 := fun j => jE A ln r g9 (trB A ln) j (psQ A (flQ A ln (trB A ln) sp.toInt g9) nF j).2.2) (fun j hj => by
    show jE A ln r g9 (trB A ln) j _ = jE A1 ln r g9 (trB A ln) j _
    rw [ejE, psQ_xy eX eY])
  refine x_land_loop2 (A := A) (B := setS (setS (repQ A N Q5) 11 (drI A ln.length)) 16 (cS A 16 + Int32.ofNat (ttQ A (flQ A ln (trB A ln) sp.toInt g9) ln.length nF))) (T := setTh T 0) (b := b) (trs := trB A ln) (g9 := g9) (st := fun j => (psQ A (flQ A ln (trB A ln) sp.toInt g9) nF j).2.2) (xy := xyQ A (flQ A ln (trB A ln) sp.toInt g9) nF) hn hl ha hwk hb (fun j hj => ⟨good_mono (ps_last f1 f2 hX hY hf hj).2 (by decide), rfl, rfl⟩) (fun M7 h12 => hk (tlF (setTh T 0) ln ln.length) M7 (fun j hj => ?_) ?_ h12) ln.length mFuel 0 M6 (Nat.zero_add _) (by show ln.length < 4096; omega) h10 h8' hwk
  · by_cases hm : j ∈ ln
    · exact (tlF_st ln.length).2 (mem_getD hm)
    · exact (tlF_st ln.length).1 ((st_iff ha hlk hj).mpr hm)
  · rw [tlF_th]; rfl
end REFK
