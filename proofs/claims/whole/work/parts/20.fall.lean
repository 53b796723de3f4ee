/-! ===== A WHOLE FALL: the step again and again; all are down soon ===== -/
abbrev JS : Type := Nat × Nat × Int × Int
def stp (X Y : Nat → Int32) (o f g : Nat) (b : Int) (s : JS) : JS := if s.1 = 0 then s else (stM o f g s.1 s.2.1, stT o f g s.1 s.2.1, stX (X (s.1 - 1)).toInt (Y (s.1 - 1)).toInt o s.1 b s.2.2.1 s.2.2.2, stY (X (s.1 - 1)).toInt (Y (s.1 - 1)).toInt o s.1 b s.2.2.1 s.2.2.2)
def jcs (o f g : Nat) (b : Int) (tr lv : Int32) (s : JS) (mb : Int32) : va_E := jc o f g b tr lv s.1 s.2.1 s.2.2.1 s.2.2.2 mb
def good (N : Nat) (s : JS) : Prop := s.1 ≤ 10 ∧ s.2.1 ≤ 31 ∧ (-((N : Int) * 16777216) ≤ s.2.2.1 ∧ s.2.2.1 ≤ (N : Int) * 16777216) ∧ (-((N : Int) * 16777216) ≤ s.2.2.2 ∧ s.2.2.2 ≤ (N : Int) * 16777216)
def pot (s : JS) : Nat := if s.1 = 0 then 0 else s.1 * 32 - s.2.1
def wbd (X : Nat → Int32) : Prop := ∀ j, j < 10 → (X j).toInt.natAbs ≤ 20
def itr (F : JS → JS) : Nat → JS → JS
  | 0 => fun s => s
  | n + 1 => fun s => itr F n (F s)
def tkn (F : JS → JS) : Nat → JS → Nat
  | 0 => fun _ => 0
  | n + 1 => fun s => if s.1 = 0 then 0 else 1 + tkn F n (F s)
theorem nearK_abs {x b B : Int} (hb : 0 < b) (h1 : -B ≤ x) (h2 : x ≤ B) : -B ≤ nearK x b ∧ nearK x b ≤ B := by
  unfold nearK; split
  · split <;> omega
  · omega
theorem good_mono {N N2 : Nat} {s : JS} (h : good N s) (hN : N ≤ N2) : good N2 s := by
  obtain ⟨h1, h2, h3, h4⟩ := h
  exact ⟨h1, h2, by omega, by omega⟩
section FALL
variable {X Y : Nat → Int32} {o f g : Nat} {b : Int}
theorem stp_down {s : JS} (h : s.1 = 0) : stp X Y o f g b s = s := by unfold stp; rw [if_pos h]
theorem good_stp {N : Nat} {s : JS} (hX : wbd X) (hY : wbd Y) (hf : f ≤ 32) (hg : g ≤ 32) (hb : 0 < b) (h : good N s) : good (N + 20) (stp X Y o f g b s) := by
  obtain ⟨m, t, x, y⟩ := s
  obtain ⟨h1, h2, h3, h4⟩ := h
  by_cases h0 : m = 0
  · rw [stp_down h0]; exact good_mono ⟨h1, h2, h3, h4⟩ (by omega)
  have hw := hX (m - 1) (by dsimp only at h1; omega)
  have hv := hY (m - 1) (by dsimp only at h1; omega)
  unfold stp
  rw [if_neg h0]
  dsimp only at h1 h2 h3 h4 ⊢
  generalize (X (m - 1)).toInt = w at hw ⊢
  generalize (Y (m - 1)).toInt = v at hv ⊢
  have h6 : (if m ≤ o + 1 then g else f) ≤ 32 := by split <;> assumption
  have hwl : -20 ≤ w ∧ w ≤ 20 := by omega
  have hvl : -20 ≤ v ∧ v ≤ 20 := by omega
  have hN : ((N + 20 : Nat) : Int) * 16777216 = (N : Int) * 16777216 + 335544320 := by omega
  unfold good
  dsimp only
  rw [hN]
  generalize (N : Int) * 16777216 = B at h3 h4 ⊢
  refine ⟨?_, ?_, ?_, ?_⟩
  · unfold stM
    by_cases h5 : t + 1 < (if m ≤ o + 1 then g else f)
    · rw [if_pos h5]; exact h1
    · rw [if_neg h5]; omega
  · unfold stT
    by_cases h5 : t + 1 < (if m ≤ o + 1 then g else f)
    · rw [if_pos h5]; omega
    · rw [if_neg h5]; omega
  · unfold stX
    by_cases h5 : m ≤ o + 1
    · rw [if_pos h5]
      by_cases h7 : (x + w * 2 ^ 24).natAbs < (y + v * 2 ^ 24).natAbs
      · rw [if_pos h7]; omega
      · rw [if_neg h7]; exact nearK_abs hb (by omega) (by omega)
    · rw [if_neg h5]; omega
  · unfold stY
    by_cases h5 : m ≤ o + 1
    · rw [if_pos h5]
      by_cases h7 : (x + w * 2 ^ 24).natAbs < (y + v * 2 ^ 24).natAbs
      · rw [if_pos h7]; exact nearK_abs hb (by omega) (by omega)
      · rw [if_neg h7]; omega
    · rw [if_neg h5]; omega
theorem pot_stp {N : Nat} {s : JS} (h : good N s) (h0 : s.1 ≠ 0) : pot (stp X Y o f g b s) < pot s := by
  obtain ⟨m, t, x, y⟩ := s
  obtain ⟨h1, h2, -, -⟩ := h
  unfold stp
  rw [if_neg h0]
  unfold pot
  dsimp only at h0 h1 h2 ⊢
  rw [if_neg h0]
  unfold stM stT
  by_cases h3 : t + 1 < (if m ≤ o + 1 then g else f)
  · rw [if_pos h3, if_pos h3, if_neg h0]; show m * 32 - (t + 1) < m * 32 - t; omega
  · rw [if_neg h3, if_neg h3]; show (if m - 1 = 0 then 0 else (m - 1) * 32 - 0) < m * 32 - t; split <;> omega
theorem pot_zero {N : Nat} {s : JS} (h : good N s) : pot s = 0 ↔ s.1 = 0 := by
  obtain ⟨h1, h2, -, -⟩ := h
  unfold pot; split
  · rename_i h3; exact ⟨fun _ => h3, fun _ => rfl⟩
  · rename_i h3; exact ⟨fun h4 => absurd h4 (by omega), fun h4 => absurd h4 h3⟩
theorem pot_le {N : Nat} {s : JS} (h : good N s) : pot s ≤ 320 := by
  obtain ⟨h1, h2, -, -⟩ := h
  unfold pot; split <;> omega
theorem itr_down {n : Nat} {s : JS} (h : s.1 = 0) : itr (stp X Y o f g b) n s = s := by
  induction n with
  | zero => rfl
  | succ n ih => show itr (stp X Y o f g b) n (stp X Y o f g b s) = s; rw [stp_down h]; exact ih
theorem itr_succ {F : JS → JS} {n : Nat} {s : JS} : itr F (n + 1) s = F (itr F n s) := by
  induction n generalizing s with
  | zero => rfl
  | succ n ih => show itr F (n + 1) (F s) = F (itr F n (F s)); exact ih
theorem itr_add {F : JS → JS} {m n : Nat} {s : JS} : itr F (m + n) s = itr F n (itr F m s) := by
  induction n with
  | zero => rfl
  | succ n ih => rw [← Nat.add_assoc, itr_succ, itr_succ, ih]
theorem itr_end {N n : Nat} {s : JS} (hX : wbd X) (hY : wbd Y) (hf : f ≤ 32) (hg : g ≤ 32) (hb : 0 < b) (h : good N s) (hn : pot s ≤ n) : (itr (stp X Y o f g b) n s).1 = 0 := by
  induction n generalizing s N with
  | zero => exact (pot_zero h).mp (by omega)
  | succ n ih =>
    by_cases h0 : s.1 = 0
    · rw [itr_down h0]; exact h0
    · have := pot_stp (X := X) (Y := Y) (o := o) (f := f) (g := g) (b := b) h h0
      exact ih (good_stp hX hY hf hg hb h) (by omega)
theorem good_itr {N n : Nat} {s : JS} (hX : wbd X) (hY : wbd Y) (hf : f ≤ 32) (hg : g ≤ 32) (hb : 0 < b) (h : good N s) : good (N + 20 * n) (itr (stp X Y o f g b) n s) := by
  induction n generalizing s N with
  | zero => exact h
  | succ n ih => exact good_mono (ih (good_stp hX hY hf hg hb h)) (by omega)
/-- where it is down, it stays -/
theorem itr_stay {n n2 : Nat} {s : JS} (h : (itr (stp X Y o f g b) n s).1 = 0) (hn : n ≤ n2) : itr (stp X Y o f g b) n2 s = itr (stp X Y o f g b) n s := by
  obtain ⟨d, rfl⟩ : ∃ d, n2 = n + d := ⟨n2 - n, by omega⟩
  rw [itr_add, itr_down h]
theorem tkn_stay {N n n2 : Nat} {s : JS} (hX : wbd X) (hY : wbd Y) (hf : f ≤ 32) (hg : g ≤ 32) (hb : 0 < b) (h : good N s) (h1 : pot s ≤ n) (hn : n ≤ n2) : tkn (stp X Y o f g b) n2 s = tkn (stp X Y o f g b) n s := by
  induction n generalizing s N n2 with
  | zero =>
    have h0 := (pot_zero h).mp (by omega)
    cases n2 with
    | zero => rfl
    | succ n2 => show (if s.1 = 0 then 0 else _) = 0; rw [if_pos h0]
  | succ n ih =>
    obtain ⟨n2, rfl⟩ : ∃ d, n2 = d + 1 := ⟨n2 - 1, by omega⟩
    show (if s.1 = 0 then 0 else 1 + tkn (stp X Y o f g b) n2 (stp X Y o f g b s)) = (if s.1 = 0 then 0 else 1 + tkn (stp X Y o f g b) n (stp X Y o f g b s))
    by_cases h0 : s.1 = 0
    · rw [if_pos h0, if_pos h0]
    · have := pot_stp (X := X) (Y := Y) (o := o) (f := f) (g := g) (b := b) h h0
      rw [if_neg h0, if_neg h0, ih (good_stp hX hY hf hg hb h) (by omega) (by omega)]
theorem tkn_le {F : JS → JS} {n : Nat} {s : JS} : tkn F n s ≤ n := by
  induction n generalizing s with
  | zero => exact Nat.le_refl _
  | succ n ih =>
    show (if s.1 = 0 then 0 else 1 + tkn F n (F s)) ≤ _
    split
    · omega
    · have := @ih (F s); omega
variable {K : Cfg} {M : Mem} {a wo ax ay : Nat} {tr lv mb : Int32}
theorem p_goOnS {k : Mem → Prop} {N : Nat} {s : JS} (hw : wnd K wo ax ay X Y M) (w1 : wo ≠ a) (w2 : ax ≠ a) (w3 : ay ≠ a) (hX : wbd X) (hY : wbd Y) (h0 : s.1 ≠ 0) (hs : good N s) (hN : N ≤ 100000) (ho : o ≤ 10) (hf : f ≤ 32) (hg : g ≤ 32) (hb : 0 < b) (hb2 : b < 2 ^ 31)
    (hk : k (mUp M a (jcs o f g b tr lv (stp X Y o f g b s) mb))) : f_X1_goOn K a wo k (mUp M a (jcs o f g b tr lv s mb)) := by
  obtain ⟨h1, h2, h3, h4⟩ := hs
  unfold stp at hk
  rw [if_neg h0] at hk
  exact p_goOn hw w1 w2 w3 (by omega) h1 ho (by omega) (by omega) (by omega) (hX _ (by omega)) (hY _ (by omega)) (by omega) (by omega) hb hb2 hk
theorem p_comeDown_loop {k : Int32 → Mem → Prop} (hw : wnd K wo ax ay X Y M) (w1 : wo ≠ a) (w2 : ax ≠ a) (w3 : ay ≠ a) (hX : wbd X) (hY : wbd Y) (ho : o ≤ 10) (hf : f ≤ 32) (hg : g ≤ 32) (hb : 0 < b) (hb2 : b < 2 ^ 31) :
    ∀ (d fuel v N : Nat) (s : JS), good N s → pot s ≤ d → d < fuel → v + d ≤ 1000 → N + 20 * d ≤ 100000 → k (Int32.ofNat (v + tkn (stp X Y o f g b) d s)) (mUp M a (jcs o f g b tr lv (itr (stp X Y o f g b) d s) mb)) → f_X1_comeDown_b2 K k fuel a wo (Int32.ofNat v) (mUp M a (jcs o f g b tr lv s mb)) := by
  intro d
  induction d with
  | zero =>
    intro fuel v N s hs hp hfu hv hN hk
    obtain ⟨fuel, rfl⟩ : ∃ e, fuel = e + 1 := ⟨fuel - 1, by omega⟩
    have h0 := (pot_zero hs).mp (by omega)
    show f_X1_comeDown_b2_body K k (f_X1_comeDown_b2 K k fuel) a wo (Int32.ofNat v) _
    unfold f_X1_comeDown_b2_body
    refine u_recv (p_isDown mUp_same hs.1 ?_)
    rw [if_pos h0]
    exact s_ifF (by decide) hk
  | succ d ih =>
    intro fuel v N s hs hp hfu hv hN hk
    obtain ⟨fuel, rfl⟩ : ∃ e, fuel = e + 1 := ⟨fuel - 1, by omega⟩
    show f_X1_comeDown_b2_body K k (f_X1_comeDown_b2 K k fuel) a wo (Int32.ofNat v) _
    unfold f_X1_comeDown_b2_body
    refine u_recv (p_isDown mUp_same hs.1 ?_)
    by_cases h0 : s.1 = 0
    · rw [if_pos h0]
      rw [itr_down h0] at hk
      have h9 : tkn (stp X Y o f g b) (d + 1) s = 0 := by show (if s.1 = 0 then 0 else _) = 0; rw [if_pos h0]
      rw [h9] at hk
      exact s_ifF (by decide) hk
    · rw [if_neg h0]
      have h9 : tkn (stp X Y o f g b) (d + 1) s = 1 + tkn (stp X Y o f g b) d (stp X Y o f g b s) := by show (if s.1 = 0 then 0 else _) = _; rw [if_neg h0]
      rw [h9] at hk
      refine s_ifT rfl (s_ifF ?_ (u_recv (p_goOnS hw w1 w2 w3 hX hY h0 hs (by omega) ho hf hg hb hb2 ?_)))
      · show ¬ Int32.ofNat 1000 ≤ _
        rw [i_le (by omega) (by omega)]; omega
      · rw [i_succ]
        have := pot_stp (X := X) (Y := Y) (o := o) (f := f) (g := g) (b := b) hs h0
        refine ih fuel (v + 1) (N + 20) _ (good_stp hX hY hf hg hb hs) (by omega) (by omega) (by omega) (by omega) ?_
        rw [Nat.add_assoc]; exact hk
theorem p_comeDown {k : Int32 → Mem → Prop} {N : Nat} {s : JS} (hw : wnd K wo ax ay X Y M) (w1 : wo ≠ a) (w2 : ax ≠ a) (w3 : ay ≠ a) (hX : wbd X) (hY : wbd Y) (ho : o ≤ 10) (hf : f ≤ 32) (hg : g ≤ 32) (hb : 0 < b) (hb2 : b < 2 ^ 31) (hs : good N s) (hN : N ≤ 50000)
    (hk : k (Int32.ofNat (tkn (stp X Y o f g b) 400 s)) (mUp M a (jcs o f g b tr lv (itr (stp X Y o f g b) 400 s) mb))) : f_X1_comeDown K a wo k (mUp M a (jcs o f g b tr lv s mb)) := by
  have h1 := pot_le hs
  exact p_comeDown_loop hw w1 w2 w3 hX hY ho hf hg hb hb2 400 mFuel 0 N s hs (by omega) (by decide) (by omega) (by omega) (by rw [Nat.zero_add]; exact hk)
end FALL
