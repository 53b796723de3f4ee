/-! ===== THE CLASS: one that jumps alone ===== -/
theorem up1_up1 {α : Type} {f : Nat → α} {i : Nat} {v w : α} : up1 (up1 f i v) i w = up1 f i w := by
  funext a; unfold up1; split <;> rfl
theorem up1_same {α : Type} {f : Nat → α} {i : Nat} {v : α} : up1 f i v i = v := by unfold up1; rw [if_pos rfl]
theorem up1_ne {α : Type} {f : Nat → α} {i a : Nat} {v : α} (h : a ≠ i) : up1 f i v a = f a := by unfold up1; rw [if_neg h]
theorem setQ_setQ {A : CS} {i : Nat} {v w : JQ} : setQ (setQ A i v) i w = setQ A i w := by
  show (_, _, _, _, _, _, _, _, _, up1 (up1 (cQ A) i v) i w) = _
  rw [up1_up1]; rfl
theorem i_num {a : Int32} {lo hi : Nat} (hl : lo ≤ 1000) (hh : hi ≤ 1000) (h : inB a (Int32.ofNat lo) (Int32.ofNat hi)) : ∃ n, a = Int32.ofNat n ∧ lo ≤ n ∧ n ≤ hi := by
  obtain ⟨h1, h2⟩ := h
  rw [Int32.le_iff_toInt_le, i_toInt (by omega)] at h1
  rw [Int32.le_iff_toInt_le, i_toInt (by omega)] at h2
  exact ⟨a.toInt.toNat, by rw [← Int32.toInt_inj, i_toInt (by omega)]; omega, by omega, by omega⟩
section CLSF
variable {K : Cfg} {c : Nat → Nat} {A : CS} {M0 M : Mem} {nJ nR : Nat} {ln : List Nat} {QX : String → Mem → Prop}
theorem picC.mup {i : Nat} (h : picC K c A M0 M) (hi : i < 7) : mUp M (c (9 + i)) (jcq (cQ A i)) = M := mUp_id (h.cq hi)
theorem picC.wne {i : Nat} (h : picC K c A M0 M) (hi : i < 7) : c 3 ≠ c (9 + i) ∧ c 4 ≠ c (9 + i) ∧ c 5 ≠ c (9 + i) :=
  ⟨fun e => by have := h.1 _ _ (by omega) (by omega) e; omega, fun e => by have := h.1 _ _ (by omega) (by omega) e; omega, fun e => by have := h.1 _ _ (by omega) (by omega) e; omega⟩
theorem c_plan {i o9 : Nat} {lic style : Int32} {l : UInt32} {k : Mem → Prop} (h : picC K c A M0 M) (hi : i < 7) (hl : LD l) (hk : ∀ M2, picC K c (setQ A i ((o9, faF style, glN l, fwK lic l), (0, (cQ A i).2.1.2.1, (cQ A i).2.1.2.2), (cQ A i).2.2)) M0 M2 → k M2) : f_X1_plan K (c (9 + i)) lic style (Int32.ofNat o9) l k M := by
  have h9 := hk _ (c_setQ h hi)
  rw [← h.mup hi]
  exact p_plan hl h9
theorem c_leaveJ {i : Nat} {x9 : Int} {lv9 : Int32} {k : Mem → Prop} (h : picC K c A M0 M) (hi : i < 7) (hk : ∀ M2, picC K c (setQ A i ((cQ A i).1, ((cQ A i).2.1.1, lv9, 0), (10, 0, x9, 0))) M0 M2 → k M2) : f_X1_leave K (c (9 + i)) (em x9) lv9 k M := by
  have h9 := hk _ (c_setQ h hi)
  rw [← h.mup hi]
  exact p_leave h9
variable {nF : Nat}
theorem p_comeDownF {X Y : Nat → Int32} {a wo ax ay o f g N : Nat} {b : Int} {tr lv mb : Int32} {k : Int32 → Mem → Prop} {s : JS} (f1 : 320 ≤ nF) (f2 : nF ≤ 900) (hw : wnd K wo ax ay X Y M) (w1 : wo ≠ a) (w2 : ax ≠ a) (w3 : ay ≠ a) (hX : wbd X) (hY : wbd Y) (ho : o ≤ 10) (hf : f ≤ 32) (hg : g ≤ 32) (hb : 0 < b) (hb2 : b < 2 ^ 31) (hs : good N s) (hN : N ≤ 50000)
    (hk : k (Int32.ofNat (tkn (stp X Y o f g b) nF s)) (mUp M a (jcs o f g b tr lv (itr (stp X Y o f g b) nF s) mb))) : f_X1_comeDown K a wo k (mUp M a (jcs o f g b tr lv s mb)) := by
  have h1 := pot_le hs
  exact p_comeDown_loop hw w1 w2 w3 hX hY ho hf hg hb hb2 nF mFuel 0 N s hs (by omega) (by show nF < 4096; omega) (by omega) (by omega) (by rw [Nat.zero_add]; exact hk)
abbrev qF (A : CS) (q : JQ) : JS → JS := stp (cX A) (cY A) q.1.1 q.1.2.1 q.1.2.2.1 q.1.2.2.2
def qOk (q : JQ) : Prop := q.1.1 ≤ 10 ∧ q.1.2.1 ≤ 32 ∧ q.1.2.2.1 ≤ 32 ∧ 0 < q.1.2.2.2 ∧ q.1.2.2.2 < 2 ^ 31
theorem c_comeDownJ {i N : Nat} {k : Int32 → Mem → Prop} (f1 : 320 ≤ nF) (f2 : nF ≤ 900) (h : picC K c A M0 M) (hi : i < 7) (hX : wbd (cX A)) (hY : wbd (cY A)) (hq : qOk (cQ A i)) (hs : good N (cQ A i).2.2) (hN : N ≤ 50000) (hk : ∀ M2, picC K c (setQ A i ((cQ A i).1, (cQ A i).2.1, itr (qF A (cQ A i)) nF (cQ A i).2.2)) M0 M2 → k (Int32.ofNat (tkn (qF A (cQ A i)) nF (cQ A i).2.2)) M2) : f_X1_comeDown K (c (9 + i)) (c 3) k M := by
  obtain ⟨q1, q2, q3, q4, q5⟩ := hq
  obtain ⟨w1, w2, w3⟩ := h.wne hi
  have h9 := hk _ (c_setQ h hi)
  rw [← h.mup hi]
  exact p_comeDownF f1 f2 h.wd w1 w2 w3 hX hY q1 q2 q3 q4 q5 hs hN h9
theorem c_planAlone {j o9 : Nat} {style : Int32} {k : Mem → Prop} (h : picC K c A M0 M) (hn : cntOk A nJ nR) (hj : j < nJ) (hjo : jmpOk A nR j) (hro : ∀ r, r < nR → rigOk A r) (hs : cJ A j 2 = -1 → QX xS M)
    (hk : cJ A j 2 ≠ -1 → LD (ldF A j) → ∀ tr mb s M2, picC K c (setQ A 6 ((o9, faF style, glN (ldF A j), fwK (cJ A j 1) (ldF A j)), (0, tr, mb), s)) M0 M2 → k M2) : f_X5_planAlone K (c 0) (c (16 + j)) style (Int32.ofNat o9) k QX M := by
  have n1 := hn.1
  unfold f_X5_planAlone
  refine s_getI (h.cj (by omega)) rfl (s_if hs (fun c1 => s_getR h.c0 rfl (s_getI (h.cj (by omega)) rfl (s_recv h.c0 (c_loadingOf h hn hj hjo hro ?_)))))
  have hl := (ld_some hjo hn.2.1 hro c1).2
  refine s_recv (h.cq (k := 6) (by decide)) ?_
  exact c_plan (i := 6) h (by decide) hl (fun M2 h2 => hk c1 hl _ _ _ M2 h2)
theorem c_takes {j : Nat} {style op : Int32} {k : Int32 → Mem → Prop} (f1 : 320 ≤ nF) (f2 : nF ≤ 900) (h : picC K c A M0 M) (hn : cntOk A nJ nR) (hj : j < nJ) (hjo : jmpOk A nR j) (hro : ∀ r, r < nR → rigOk A r) (hX : wbd (cX A)) (hY : wbd (cY A)) (hx : ¬ (inB style 0 1 ∧ inB op 2 6) → QX xA M) (hs : inB style 0 1 → inB op 2 6 → cJ A j 2 = -1 → QX xS M)
    (hk : inB style 0 1 → ∀ o9, op = Int32.ofNat o9 → 2 ≤ o9 → o9 ≤ 6 → cJ A j 2 ≠ -1 → LD (ldF A j) → ∀ q M2, picC K c (setQ A 6 q) M0 M2 → k (Int32.ofNat (tkn (jF style (cJ A j 1) (ldF A j) o9 false (cX A) (cY A)) nF (10, 0, 0, 0))) M2) : f_X5_takes K (c 0) (Int32.ofNat j) style op k QX M := by
  unfold f_X5_takes
  refine s_recv h.c0 (c_jumperAt h hn hj (c_check (fun p1 => c_check (fun p2 => ?_) (fun p2 => hx (fun h9 => p2 h9.2))) (fun p1 => hx (fun h9 => p1 h9.1))))
  obtain ⟨o9, rfl, o1, o2⟩ := i_num (lo := 2) (hi := 6) (by decide) (by decide) p2
  refine s_recv h.c0 (c_planAlone h hn hj hjo hro (hs p1 p2) (fun c1 hl tr mb s M h => ?_))
  have hk := hk p1 o9 rfl o1 o2 c1 hl
  refine s_getR h.c0 rfl (s_recv (h.cq (k := 6) (by decide)) ?_)
  rw [em_c0]
  refine c_leaveJ (i := 6) h (by decide) (fun M h => s_getR h.c0 rfl (s_getR h.c0 rfl (s_recv (h.cq (k := 6) (by decide)) ?_)))
  rw [setQ_setQ] at h
  have eq : ∀ v : JQ, cQ (setQ A 6 v) 6 = v := fun v => by show up1 (cQ A) 6 v 6 = v; exact up1_same
  refine c_comeDownJ (i := 6) (N := 0) f1 f2 h (by decide) hX hY ?_ ?_ (by decide) (fun M h => ?_)
  · rw [eq, eq]; exact ⟨by show o9 ≤ 10; omega, faF_le, hl.gl.2.1, (hl.fw _).2.1, (hl.fw _).2.2⟩
  · rw [eq]; exact ⟨Nat.le_refl 10, Nat.zero_le 31, ⟨Int.le_refl 0, Int.le_refl 0⟩, ⟨Int.le_refl 0, Int.le_refl 0⟩⟩
  · rw [setQ_setQ] at h
    rw [eq, eq]
    exact hk _ M h
theorem c_wouldLand {j : Nat} {style op sp z : Int32} {k : UInt64 → Mem → Prop} (f1 : 320 ≤ nF) (f2 : nF ≤ 900) (h : picC K c A M0 M) (hn : cntOk A nJ nR) (hj : j < nJ) (hjo : jmpOk A nR j) (hro : ∀ r, r < nR → rigOk A r) (hX : wbd (cX A)) (hY : wbd (cY A)) (hx : ¬ (inB style 0 1 ∧ inB op 2 6 ∧ inB sp (-200) 200) → QX xA M) (hs : inB style 0 1 → inB op 2 6 → inB sp (-200) 200 → cJ A j 2 = -1 → QX xS M)
    (hk : inB style 0 1 → inB sp (-200) 200 → ∀ o9, op = Int32.ofNat o9 → 2 ≤ o9 → o9 ≤ 6 → cJ A j 2 ≠ -1 → LD (ldF A j) → ∀ q M2, picC K c (setQ A 6 q) M0 M2 → k (em (if z = 0 then (itr (jF style (cJ A j 1) (ldF A j) o9 false (cX A) (cY A)) nF (10, 0, sp.toInt * 16777216, 0)).2.2.1 else (itr (jF style (cJ A j 1) (ldF A j) o9 false (cX A) (cY A)) nF (10, 0, sp.toInt * 16777216, 0)).2.2.2)) M2) : f_X5_wouldLand K (c 0) (Int32.ofNat j) style op sp z k QX M := by
  unfold f_X5_wouldLand
  refine s_recv h.c0 (c_jumperAt h hn hj (c_check (fun p1 => c_check (fun p2 => c_check (fun p3 => ?_) (fun p3 => hx (fun h9 => p3 h9.2.2))) (fun p2 => hx (fun h9 => p2 h9.2.1))) (fun p1 => hx (fun h9 => p1 h9.1))))
  have hsp : -200 ≤ sp.toInt ∧ sp.toInt ≤ 200 := ⟨Int32.le_iff_toInt_le.mp p3.1, Int32.le_iff_toInt_le.mp p3.2⟩
  have hk0 := hk p1 p3
  have hs0 := hs p1 p2 p3
  obtain ⟨o9, rfl, o1, o2⟩ := i_num (lo := 2) (hi := 6) (by decide) (by decide) p2
  refine s_recv h.c0 (c_planAlone h hn hj hjo hro hs0 (fun c1 hl tr mb s M h => ?_))
  have hk := hk0 o9 rfl o1 o2 c1 hl
  refine s_getR h.c0 rfl (s_recv (h.cq (k := 6) (by decide)) ?_)
  rw [em_i2d (show sp.toInt.natAbs < 2 ^ 29 by omega), show (2 : Int) ^ 24 = 16777216 from rfl]
  refine c_leaveJ (i := 6) h (by decide) (fun M h => s_getR h.c0 rfl (s_getR h.c0 rfl (s_recv (h.cq (k := 6) (by decide)) ?_)))
  rw [setQ_setQ] at h
  have eq : ∀ v : JQ, cQ (setQ A 6 v) 6 = v := fun v => by show up1 (cQ A) 6 v 6 = v; exact up1_same
  refine c_comeDownJ (i := 6) (N := 200) f1 f2 h (by decide) hX hY ?_ ?_ (by decide) (fun M h => ?_)
  · rw [eq, eq]; exact ⟨by show o9 ≤ 10; omega, faF_le, hl.gl.2.1, (hl.fw _).2.1, (hl.fw _).2.2⟩
  · rw [eq]; exact ⟨Nat.le_refl 10, Nat.zero_le 31, ⟨by show -(((200 : Nat) : Int) * 16777216) ≤ sp.toInt * 16777216; omega, by show sp.toInt * 16777216 ≤ ((200 : Nat) : Int) * 16777216; omega⟩, ⟨by show -(((200 : Nat) : Int) * 16777216) ≤ 0; omega, by show 0 ≤ ((200 : Nat) : Int) * 16777216; omega⟩⟩
  · rw [setQ_setQ] at h
    rw [eq, eq] at h
    have h6 := h.cq (k := 6) (by decide)
    rw [eq] at h6
    refine s_if (fun p => s_getR h.c0 rfl (s_getD h6 rfl ?_)) (fun p => s_getR h.c0 rfl (s_getD h6 rfl ?_))
    · have hk9 := hk _ M h
      rw [if_pos p] at hk9
      exact hk9
    · have hk9 := hk _ M h
      rw [if_neg p] at hk9
      exact hk9
end CLSF
