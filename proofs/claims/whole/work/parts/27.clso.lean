/-! ===== THE CLASS'S CALLS, the plain ones: what each does to the store, what it answers, when it throws ===== -/
abbrev xA : String := "java/lang/IllegalArgumentException"
abbrev xS : String := "java/lang/IllegalStateException"
abbrev xI : String := "java/lang/IndexOutOfBoundsException"
def inB (x lo hi : Int32) : Prop := lo ≤ x ∧ x ≤ hi
section CLSO
variable {K : Cfg} {c : Nat → Nat} {A : CS} {M0 M : Mem} {nJ nR : Nat} {ln : List Nat} {QX : String → Mem → Prop}
theorem i_nlt {a b : Int32} : ¬ a < b ↔ b ≤ a := Int32.not_lt
theorem i_nle {a b : Int32} : ¬ a ≤ b ↔ b < a := Int32.not_le
theorem c_check {a lo hi : Int32} {k : Mem → Prop} (hk : inB a lo hi → k M) (hx : ¬ inB a lo hi → QX xA M) : f_X5_checkArgument K a lo hi k QX M := by
  unfold f_X5_checkArgument
  refine s_if (fun c1 => hx (fun h => absurd c1 (i_nlt.mpr h.1))) (fun c1 => s_if (fun c2 => hk ⟨i_nlt.mp c1, c2⟩) (fun c2 => hx (fun h => c2 h.2)))
theorem c_jumper {w z : Int32} {k : Int32 → Mem → Prop} (h : picC K c A M0 M) (hn : cntOk A nJ nR) (hx : ¬ (inB w 50 130 ∧ inB z 0 3) → QX xA M) (hs : inB w 50 130 → inB z 0 3 → nJ = 8 → QX xS M)
    (hk : inB w 50 130 → inB z 0 3 → nJ < 8 → ∀ M2, picC K c (setS (setJ (setJ (setJ A nJ 0 w) nJ 1 z) nJ 3 (cS A 10)) 1 (Int32.ofNat (nJ + 1))) M0 M2 → k (Int32.ofNat nJ) M2) : f_X5_jumper K (c 0) w z k QX M := by
  obtain ⟨n1, n2, n3, n4⟩ := hn
  unfold f_X5_jumper
  refine c_check (fun p1 => c_check (fun p2 => ?_) (fun p2 => hx (fun h9 => p2 h9.2))) (fun p1 => hx (fun h9 => p1 h9.1))
  refine s_getI h.c0 rfl (s_if (fun c1 => ?_) (fun c1 => hs p1 p2 ?_))
  · have hlt : nJ < 8 := by
      have c2 : Int32.ofNat nJ < Int32.ofNat 8 := by rw [← n3]; exact c1
      rwa [i_lt (by omega) (by omega)] at c2
    refine s_getR h.c0 rfl (s_getI h.c0 rfl ?_)
    rw [n3]
    refine s_ldQ h.c1 (i_in (by omega) hlt) (b := c (16 + nJ)) (by rw [i_nat (by omega)]; show (if nJ < 8 then some (c (16 + nJ)) else none) = _; rw [if_pos hlt]) ?_
    refine s_putJ0 h hlt (fun M h => s_putJ1 h hlt (fun M h => s_getI h.c0 rfl (s_putJ3 h hlt (fun M h => s_getI h.c0 rfl ?_))))
    show mPut (c 0) 6 1 (.int (cS A 1 + 1)) _ M
    rw [n3, i_succ]
    refine s_putS1 h (fun M h => s_getI h.c0 rfl ?_)
    show k (Int32.ofNat (nJ + 1) - 1) M
    rw [i_pred]
    exact hk p1 p2 hlt M h
  · have c2 : ¬ Int32.ofNat nJ < Int32.ofNat 8 := by rw [← n3]; exact c1
    rw [i_lt (by omega) (by omega)] at c2
    omega
theorem c_rig {w z : Int32} {k : Int32 → Mem → Prop} (h : picC K c A M0 M) (hn : cntOk A nJ nR) (hx : ¬ (inB w 80 300 ∧ inB z 0 60) → QX xA M) (hs : inB w 80 300 → inB z 0 60 → nR = 8 → QX xS M)
    (hk : inB w 80 300 → inB z 0 60 → nR < 8 → ∀ M2, picC K c (setS (setG (setG A nR 0 w) nR 1 (cS A 10 + z)) 3 (Int32.ofNat (nR + 1))) M0 M2 → k (Int32.ofNat nR) M2) : f_X5_rig K (c 0) w z k QX M := by
  obtain ⟨n1, n2, n3, n4⟩ := hn
  unfold f_X5_rig
  refine c_check (fun p1 => c_check (fun p2 => ?_) (fun p2 => hx (fun h9 => p2 h9.2))) (fun p1 => hx (fun h9 => p1 h9.1))
  refine s_getI h.c0 rfl (s_if (fun c1 => ?_) (fun c1 => hs p1 p2 ?_))
  · have hlt : nR < 8 := by
      have c2 : Int32.ofNat nR < Int32.ofNat 8 := by rw [← n4]; exact c1
      rwa [i_lt (by omega) (by omega)] at c2
    refine s_getR h.c0 rfl (s_getI h.c0 rfl ?_)
    rw [n4]
    refine s_ldQ h.c2 (i_in (by omega) hlt) (b := c (24 + nR)) (by rw [i_nat (by omega)]; show (if nR < 8 then some (c (24 + nR)) else none) = _; rw [if_pos hlt]) ?_
    refine s_putG0 h hlt (fun M h => s_getI h.c0 rfl (s_putG1 h hlt (fun M h => s_getI h.c0 rfl ?_)))
    show mPut (c 0) 6 3 (.int (cS A 3 + 1)) _ M
    rw [n4, i_succ]
    refine s_putS3 h (fun M h => s_getI h.c0 rfl ?_)
    show k (Int32.ofNat (nR + 1) - 1) M
    rw [i_pred]
    exact hk p1 p2 hlt M h
  · have c2 : ¬ Int32.ofNat nR < Int32.ofNat 8 := by rw [← n4]; exact c1
    rw [i_lt (by omega) (by omega)] at c2
    omega
theorem c_renew {r : Nat} {k : Int32 → Mem → Prop} (h : picC K c A M0 M) (hn : cntOk A nJ nR) (hr : r < nR) (hk : ∀ M2, picC K c (setG A r 1 (cS A 10 + 60)) M0 M2 → k (cS A 10 + 60) M2) : f_X5_renew K (c 0) (Int32.ofNat r) k QX M := by
  have n2 := hn.2.1
  unfold f_X5_renew
  refine s_recv h.c0 (c_rigAt h hn hr (s_getI h.c0 rfl (s_putG1 h (by omega) (fun M h => s_getI (h.cg (by omega)) rfl ?_))))
  have e : cG (setG A r 1 (cS A 10 + 60)) r 1 = cS A 10 + 60 := by show (if r = r ∧ 1 = 1 then _ else _) = _; rw [if_pos ⟨rfl, rfl⟩]
  rw [e]
  exact hk M h
theorem c_pack {r j : Nat} {k : Int32 → Mem → Prop} (h : picC K c A M0 M) (hn : cntOk A nJ nR) (hr : r < nR) (hj : j < nJ) (hs : ¬ cG A r 3 = 0 → QX xS M)
    (hk : cG A r 3 = 0 → ∀ M2, picC K c (setJ (setG (setG A r 2 (if 0 < 9 - cJ A j 6 then 9 - cJ A j 6 else 0)) r 3 1) j 6 (cJ A j 6 + 1)) M0 M2 → k (if 0 < 9 - cJ A j 6 then 9 - cJ A j 6 else 0) M2) : f_X5_pack K (c 0) (Int32.ofNat r) (Int32.ofNat j) k QX M := by
  have n1 := hn.1
  have n2 := hn.2.1
  unfold f_X5_pack
  refine s_recv h.c0 (c_rigAt h hn hr (s_recv h.c0 (c_jumperAt h hn hj (s_getI (h.cg (by omega)) rfl (s_if (fun c1 => s_getI (h.cj (by omega)) rfl ?_) (fun c1 => hs c1))))))
  have hk1 := hk c1
  have fin : ∀ v : Int32, v = (if 0 < 9 - cJ A j 6 then 9 - cJ A j 6 else 0) → mPut (c (24 + r)) 4 2 (.int v) (mPutZ (c (24 + r)) 4 3 1 <| mGetI (c (16 + j)) 3 6 fun x6 => mPut (c (16 + j)) 3 6 (.int (x6 + 1)) <| mGetI (c (24 + r)) 4 2 fun x7 => k x7) M := by
    intro v hv
    rw [← hv] at hk1
    refine s_putG2 h (by omega) (fun M h => ⟨Or.inr rfl, s_putG3 h (by omega) (fun M h => s_getI (h.cj (by omega)) rfl (s_putJ6 h (by omega) (fun M h => s_getI (h.cg (by omega)) rfl ?_)))⟩)
    have e : cG (setJ (setG (setG A r 2 v) r 3 1) j 6 (cJ (setG (setG A r 2 v) r 3 1) j 6 + 1)) r 2 = v := by
      show (if r = r ∧ 2 = 3 then _ else (if r = r ∧ 2 = 2 then _ else _)) = _
      rw [if_neg (fun e9 => absurd e9.2 (by decide)), if_pos ⟨rfl, rfl⟩]
    rw [e]
    exact hk1 M h
  unfold f_J9_max_7cf53
  refine s_if (fun c2 => fin _ (by rw [if_pos c2])) (fun c2 => fin _ (by rw [if_neg c2]))
theorem c_hold {v : Int32} {k : Int32 → Mem → Prop} (hv : v = 0 ∨ v = 1) (h : picC K c A M0 M) (hk : ∀ M2, picC K c (setS A 7 v) M0 M2 → (cS A 7 = 0 ∨ cS A 7 = 1) → k (cS A 7) M2) (h7 : cS A 7 = 0 ∨ cS A 7 = 1) : f_X5_hold K (c 0) v k M := by
  unfold f_X5_hold
  refine s_getI h.c0 rfl ⟨hv, s_putS7 h (fun M h => s_as h7 (hk M h h7))⟩
theorem c_gong {k : Int32 → Mem → Prop} (h : picC K c A M0 M) (hk : ∀ M2, picC K c (setS A 17 (cS A 17 + 1)) M0 M2 → k (cS A 17 + 1) M2) : f_X5_gong K (c 0) k M := by
  unfold f_X5_gong
  exact s_getI h.c0 rfl (s_putS17 h (fun M h => s_getI h.c0 rfl (hk M h)))
theorem c_empty {k : Int32 → Mem → Prop} (h : picC K c A M0 M) (hk : ∀ M2, picC K c (setS A 6 0) M0 M2 → k (cS A 6) M2) : f_X5_empty K (c 0) k M := by
  unfold f_X5_empty
  exact s_getI h.c0 rfl (s_putS6 h (fun M h => hk M h))
end CLSO
