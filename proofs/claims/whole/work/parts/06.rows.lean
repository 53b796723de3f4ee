/-! ===== the shadows' words, and a row for each ===== -/
def mGetI (a ci j : Nat) (k : Int32 → Mem → Prop) : Mem → Prop := fun M => ∃ (fs : List Value) (x : Int32), M a = some (.inr (ci, fs)) ∧ fs[j]? = some (.int x) ∧ k x M
def mGetF (a ci j : Nat) (k : UInt32 → Mem → Prop) : Mem → Prop := fun M => ∃ (fs : List Value) (x : UInt32), M a = some (.inr (ci, fs)) ∧ fs[j]? = some (.float x) ∧ k x M
def mGetD (a ci j : Nat) (k : UInt64 → Mem → Prop) : Mem → Prop := fun M => ∃ (fs : List Value) (x : UInt64), M a = some (.inr (ci, fs)) ∧ fs[j]? = some (.double x) ∧ k x M
def mGetR (a ci j : Nat) (k : Nat → Mem → Prop) : Mem → Prop := fun M => ∃ (fs : List Value) (x : Nat), M a = some (.inr (ci, fs)) ∧ fs[j]? = some (.ref x) ∧ k x M
def mPut (a ci j : Nat) (v : Value) (k : Mem → Prop) : Mem → Prop := fun M => ∃ fs : List Value, M a = some (.inr (ci, fs)) ∧ j < fs.length ∧ k (mUp M a (.inr (ci, fs.set j v)))
/-- a boolean's field, which holds 0 or 1 -/
def mPutZ (a ci j : Nat) (x : Int32) (k : Mem → Prop) : Mem → Prop := fun M => (x = 0 ∨ x = 1) ∧ mPut a ci j (.int x) k M
def mLdI (K : Cfg) (a : Nat) (i : Int32) (k : Int32 → Mem → Prop) : Mem → Prop := fun M => ∃ (n : Nat) (f : Nat → Int32), M a = some (.inl (K.2.1 0, n, .inl f)) ∧ vp_in i n ∧ k (f i.toNatClampNeg) M
def mLdL (K : Cfg) (a : Nat) (i : Int32) (k : Int64 → Mem → Prop) : Mem → Prop := fun M => ∃ (n : Nat) (f : Nat → Int64), M a = some (.inl (K.2.1 1, n, .inr (.inl f))) ∧ vp_in i n ∧ k (f i.toNatClampNeg) M
def mLdD (K : Cfg) (a : Nat) (i : Int32) (k : UInt64 → Mem → Prop) : Mem → Prop := fun M => ∃ (n : Nat) (f : Nat → UInt64), M a = some (.inl (K.2.1 2, n, .inr (.inr (.inr (.inl f))))) ∧ vp_in i n ∧ k (f i.toNatClampNeg) M
def mLdZ (K : Cfg) (a : Nat) (i : Int32) (k : Int32 → Mem → Prop) : Mem → Prop := fun M => ∃ (n : Nat) (f : Nat → Int32), M a = some (.inl (K.2.1 3, n, .inl f)) ∧ vp_in i n ∧ k (f i.toNatClampNeg) M
/-- an array of references, of kind t: the one read isn't null -/
def mLdQ (K : Cfg) (t : Nat) (a : Nat) (i : Int32) (k : Nat → Mem → Prop) : Mem → Prop := fun M => ∃ (n : Nat) (f : Nat → Option Nat) (b : Nat), M a = some (.inl (K.2.1 t, n, .inr (.inr (.inr (.inr f))))) ∧ vp_in i n ∧ f i.toNatClampNeg = some b ∧ k b M
def mStI (K : Cfg) (a : Nat) (i x : Int32) (k : Mem → Prop) : Mem → Prop := fun M => ∃ (n : Nat) (f : Nat → Int32), M a = some (.inl (K.2.1 0, n, .inl f)) ∧ vp_in i n ∧ k (mUp M a (.inl (K.2.1 0, n, .inl (upd f i.toNatClampNeg x))))
def mStL (K : Cfg) (a : Nat) (i : Int32) (x : Int64) (k : Mem → Prop) : Mem → Prop := fun M => ∃ (n : Nat) (f : Nat → Int64), M a = some (.inl (K.2.1 1, n, .inr (.inl f))) ∧ vp_in i n ∧ k (mUp M a (.inl (K.2.1 1, n, .inr (.inl (vp_updL f i.toNatClampNeg x)))))
def mStD (K : Cfg) (a : Nat) (i : Int32) (x : UInt64) (k : Mem → Prop) : Mem → Prop := fun M => ∃ (n : Nat) (f : Nat → UInt64), M a = some (.inl (K.2.1 2, n, .inr (.inr (.inr (.inl f))))) ∧ vp_in i n ∧ k (mUp M a (.inl (K.2.1 2, n, .inr (.inr (.inr (.inl (vf_upd f i.toNatClampNeg x)))))))
def mStZ (K : Cfg) (a : Nat) (i x : Int32) (k : Mem → Prop) : Mem → Prop := fun M => ∃ (n : Nat) (f : Nat → Int32), M a = some (.inl (K.2.1 3, n, .inl f)) ∧ vp_in i n ∧ (x = 0 ∨ x = 1) ∧ k (mUp M a (.inl (K.2.1 3, n, .inl (upd f i.toNatClampNeg x))))
/-- v, an object of class ci, into an array of kind t -/
def mStQ (K : Cfg) (t ci : Nat) (a : Nat) (i : Int32) (v : Nat) (k : Mem → Prop) : Mem → Prop := fun M => ∃ (n : Nat) (f : Nat → Option Nat) (fs : List Value), M a = some (.inl (K.2.1 t, n, .inr (.inr (.inr (.inr f))))) ∧ M v = some (.inr (ci, fs)) ∧ vp_in i n ∧ k (mUp M a (.inl (K.2.1 t, n, .inr (.inr (.inr (.inr (va_up f i.toNatClampNeg (some v))))))))
def mLen (K : Cfg) (t : Nat) (a : Nat) (k : Int32 → Mem → Prop) : Mem → Prop := fun M => ∃ x : vp_A, M a = some (.inl (K.2.1 t, x)) ∧ k (Int32.ofNat x.1) M
/-- of one of the two tables -/
def mLenT (K : Cfg) (a : Nat) (k : Int32 → Mem → Prop) : Mem → Prop := fun M => (a = K.2.2 2 ∨ a = K.2.2 3) ∧ k 4 M
def mTab (K : Cfg) (a : Nat) (i : Nat) : Int32 := if a = K.2.2 2 then mGL i else mLL i
def mLdT (K : Cfg) (a : Nat) (i : Int32) (k : Int32 → Mem → Prop) : Mem → Prop := fun M => (a = K.2.2 2 ∨ a = K.2.2 3) ∧ vp_in i 4 ∧ k (mTab K a i.toNatClampNeg) M
/-- of the element data: the empty one, or an array of our own -/
def mLenE (K : Cfg) (a : Nat) (k : Int32 → Mem → Prop) : Mem → Prop := fun M => if a = K.2.2 1 then k 0 M else mLen K 7 a k M
def mAs (c : Prop) (k : Mem → Prop) : Mem → Prop := fun M => c ∧ k M
def mIf (c : Prop) [Decidable c] (A B : Mem → Prop) : Mem → Prop := fun M => if c then A M else B M
def mRecv (b ci : Nat) (k : Mem → Prop) : Mem → Prop := fun M => (∃ fs : List Value, M b = some (.inr (ci, fs))) ∧ k M
def mFresh (K : Cfg) (M : Mem) (a : Nat) : Prop := K.2.2 0 ≤ a ∧ ∀ (q : Nat) (e : va_E), M q = some e → q < a
def mNew (K : Cfg) (ci : Nat) (fs : List Value) (k : Nat → Mem → Prop) : Mem → Prop := fun M => ∀ a : Nat, mFresh K M a → k a (mUp M a (.inr (ci, fs)))
def mNewA (K : Cfg) (t : Nat) (z : vp_A) (k : Nat → Mem → Prop) : Mem → Prop := fun M => ∀ a : Nat, mFresh K M a → k a (mUp M a (.inl (K.2.1 t, z)))
/-- new boolean[n][m] -/
def mNewZ (K : Cfg) (n m : Nat) (k : Nat → Mem → Prop) : Mem → Prop := fun M => ∀ a : Nat, mFresh K M a → k a (fun q => if q = a then some (.inl (K.2.1 8, n, .inr (.inr (.inr (.inr (fun i => if i < n then some (a + 1 + i) else none)))))) else if a < q ∧ q ≤ a + n then some (.inl (K.2.1 3, m, .inl (fun _ => 0))) else M q)
/-- a field of a class, as a method of own names it: class C (the table T of its N fields, place ci), field j -/
def mFl (own ref C : String) (T : u_T) (N ci index j : Nat) : Prop := vwCl[ci]? = some (C, T, N) ∧ j < N ∧ (∀ w ∈ u_ws C T N, w ∈ mLA) ∧ Cond.fieldLink own index ref (T j).2.1 (T j).2.2.1 ∈ mLA ∧ (ref = (T j).1 ∨ Cond.sameField ref (T j).1 (T j).2.1 (T j).2.2.1 ∈ mLA)
/-- a class's types, and that its fields' names are apart -/
def mFt (T : u_T) (N : Nat) (ty : Nat → FieldType) : Prop := (∀ k, k < N → parseFieldDescriptor (T k).2.2.1 = some (ty k)) ∧ (∀ a, a < N → ∀ b, b < N → a ≠ b → (T a).2.1 ≠ (T b).2.1)
section MROWS
variable {K : Cfg} {p : Program} {l : Launch} {e : Env} {R : Room} {s : State} {m : MethodId} {args : Array Value} {below : List Frame} {meth : Method} {c : Code} {H : Heap} {locs : List Loc} {cells slots : Nat} {Qf : State → Prop}
variable {cc : ByteArray} {nL : Nat} {own : String} {pc : Nat} {ls : Array Slot} {rest : List Value} {M : Mem} {a ci j index : Nat} {ref C : String} {T : u_T} {N : Nat}
theorem r_get (X : Cx K p l s m args c cc nL own) (hM : mh K M H) {fs : List Value} {v : Value} (h1 : M a = some (.inr (ci, fs))) (h2 : fs[j]? = some v) (hf : mFl own ref C T N ci index j) (hdg : decode cc pc = .ok (.getfield index, 3))
    (kk : W p l e R s m args below meth c H locs cells slots Qf (F0 m (pc + 3) ls (v :: rest))) : W p l e R s m args below meth c H locs cells slots Qf (F0 m pc ls (.ref a :: rest)) := by
  obtain ⟨⟨hx, hb, hml, hown, hts⟩, hG, -⟩ := X
  obtain ⟨f1, f2, f3, f4, f5⟩ := hf
  exact va_get hx hb hts f3 hown hG.2.1 (va_P1 (hM a _ h1).2) 0 rfl f1 j f2 (hts _ f4) (fun x h => f5.elim (fun e => by rw [e]; exact h) (fun w => u_same (hts _ w) x h)) h2 hdg kk
theorem r_geti (X : Cx K p l s m args c cc nL own) (hM : mh K M H) {k : Int32 → Mem → Prop} (hP : mGetI a ci j k M) (hf : mFl own ref C T N ci index j) (hdg : decode cc pc = .ok (.getfield index, 3))
    (kk : ∀ x : Int32, k x M → W p l e R s m args below meth c H locs cells slots Qf (F0 m (pc + 3) ls (.int x :: rest))) : W p l e R s m args below meth c H locs cells slots Qf (F0 m pc ls (.ref a :: rest)) := by
  obtain ⟨fs, x, h1, h2, h3⟩ := hP
  exact r_get X hM h1 h2 hf hdg (kk x h3)
theorem r_getf (X : Cx K p l s m args c cc nL own) (hM : mh K M H) {k : UInt32 → Mem → Prop} (hP : mGetF a ci j k M) (hf : mFl own ref C T N ci index j) (hdg : decode cc pc = .ok (.getfield index, 3))
    (kk : ∀ x : UInt32, k x M → W p l e R s m args below meth c H locs cells slots Qf (F0 m (pc + 3) ls (.float x :: rest))) : W p l e R s m args below meth c H locs cells slots Qf (F0 m pc ls (.ref a :: rest)) := by
  obtain ⟨fs, x, h1, h2, h3⟩ := hP
  exact r_get X hM h1 h2 hf hdg (kk x h3)
theorem r_getd (X : Cx K p l s m args c cc nL own) (hM : mh K M H) {k : UInt64 → Mem → Prop} (hP : mGetD a ci j k M) (hf : mFl own ref C T N ci index j) (hdg : decode cc pc = .ok (.getfield index, 3))
    (kk : ∀ x : UInt64, k x M → W p l e R s m args below meth c H locs cells slots Qf (F0 m (pc + 3) ls (.double x :: rest))) : W p l e R s m args below meth c H locs cells slots Qf (F0 m pc ls (.ref a :: rest)) := by
  obtain ⟨fs, x, h1, h2, h3⟩ := hP
  exact r_get X hM h1 h2 hf hdg (kk x h3)
theorem r_getr (X : Cx K p l s m args c cc nL own) (hM : mh K M H) {k : Nat → Mem → Prop} (hP : mGetR a ci j k M) (hf : mFl own ref C T N ci index j) (hdg : decode cc pc = .ok (.getfield index, 3))
    (kk : ∀ x : Nat, k x M → W p l e R s m args below meth c H locs cells slots Qf (F0 m (pc + 3) ls (.ref x :: rest))) : W p l e R s m args below meth c H locs cells slots Qf (F0 m pc ls (.ref a :: rest)) := by
  obtain ⟨fs, x, h1, h2, h3⟩ := hP
  exact r_get X hM h1 h2 hf hdg (kk x h3)
/-- a nest mate's field -/
theorem r_getrN (X : Cx K p l s m args c cc nL own) (hM : mh K M H) {k : Nat → Mem → Prop} (hP : mGetR a ci j k M) {host : String} (hc : vwCl[ci]? = some (C, T, N)) (hj : j < N) (hin : ∀ w ∈ u_ws C T N, w ∈ mLA) (hq : (own, index, C, (T j).2.1, (T j).2.2.1, host) ∈ mNwF) (he : C = (T j).1) (hdg : decode cc pc = .ok (.getfield index, 3))
    (kk : ∀ x : Nat, k x M → W p l e R s m args below meth c H locs cells slots Qf (F0 m (pc + 3) ls (.ref x :: rest))) : W p l e R s m args below meth c H locs cells slots Qf (F0 m pc ls (.ref a :: rest)) := by
  obtain ⟨fs, x, h1, h2, h3⟩ := hP
  obtain ⟨⟨hx, hb, hml, hown, hts⟩, hG, -⟩ := X
  exact va_getN (ref := C) (host := host) hx hb hts hin hown hG.2.1 (va_P1 (hM a _ h1).2) 0 rfl hc j hj (va_Nw.use rfl (hG.2.2.1.2.1 _ hq)) (fun x h => by rw [he]; exact h) h2 hdg (kk x h3)
theorem r_put (X : Cx K p l s m args c cc nL own) (hM : mh K M H) (hS : va_S (mFA K) s.heap H locs) {v : Value} {k : Mem → Prop} (hP : mPut a ci j v k M) (hf : mFl own ref C T N ci index j) {ty0 : Nat → FieldType} (ht : mFt T N ty0) (hfin : (T j).2.2.2 = false) {ty : FieldType} (hd : parseFieldDescriptor (T j).2.2.1 = some ty) (hn : narrow ty v = v) (hfit : fits ty v = true) (hdg : decode cc pc = .ok (.putfield index, 3))
    (kk : ∀ (M1 : Mem) (H1 : Heap) (locs1 : List Loc), mh K M1 H1 → va_S (mFA K) s.heap H1 locs1 → k M1 → W p l e R s m args below meth c H1 locs1 cells slots Qf (F0 m (pc + 3) ls rest)) : W p l e R s m args below meth c H locs cells slots Qf (F0 m pc ls (v :: .ref a :: rest)) := by
  obtain ⟨⟨hx, hb, hml, hown, hts⟩, hG, -⟩ := X
  obtain ⟨f1, f2, f3, f4, f5⟩ := hf
  obtain ⟨fs, h1, hl, h3⟩ := hP
  have hK := hG.2.1
  have hap := va_apart (own := own) hts f3 ty0 ht.1 ht.2 hK f1
  obtain ⟨hA, r, g1, cell, q1, q2, q3, q4⟩ := hM a _ h1
  have hr : r = (C, T, N) := Option.some.inj (g1.symm.trans f1)
  subst hr
  obtain ⟨hS9, hfc, kC, hkC, hkind⟩ := hK.1 ci _ f1
  obtain ⟨cf, kf, fi, f, hi, hsl⟩ := hS9 j f2
  have hlay := hts _ (f3 _ (u_in_lay f2))
  unfold u_lay at hlay
  rw [if_neg (by rw [hfin]; decide)] at hlay
  have hst := (u_facts hfc hkC (u_lays hts f3 f2) hi).1
  have h6 := u_store hfc hkC hkind hlay hi hd hn hfit
  have hsame : s.fieldFound? ref (T j).2.1 (T j).2.2.1 = some (cf, kf, fi, f) := f5.elim (fun e => by rw [e]; exact hi) (fun w => u_same (hts _ w) _ hi)
  refine W.putK hx hb (f := f) ⟨hown, hts _ f4, ⟨_, _, _, hsame⟩, hst⟩ (by rw [q2]; exact h6) q1 q3 (by rw [hsl]; exact k2_hasslot (q4 j f2)) rfl rfl hdg fun H' e1 e2 e3 => ?_
  rw [hsl] at e1 ⊢
  exact kk _ H' _ (hM.put (e := .inr (ci, fs.set j v)) hA ⟨_, f1, t_OB.to (V := updV (vp_V fs) j v) ⟨_, e1, q2, q3, t_set q4 hap f2 v⟩ (fun i _ => vp_updV_set hl v i)⟩ e3) (hS.put e2 e3 hA) h3
/-- a final field, in its class's constructor -/
theorem r_putF (X : Cx K p l s m args c cc nL own) (hM : mh K M H) (hS : va_S (mFA K) s.heap H locs) {v : Value} {k : Mem → Prop} (hP : mPut a ci j v k M) (hf : mFl own ref C T N ci index j) {ty0 : Nat → FieldType} (ht : mFt T N ty0) (hfin : (T j).2.2.2 = true) (hin2 : meth.name = "<init>") (hdecl : (T j).1 = own) {ty : FieldType} (hd : parseFieldDescriptor (T j).2.2.1 = some ty) (hn : narrow ty v = v) (hfit : fits ty v = true) (hdg : decode cc pc = .ok (.putfield index, 3))
    (kk : ∀ (M1 : Mem) (H1 : Heap) (locs1 : List Loc), mh K M1 H1 → va_S (mFA K) s.heap H1 locs1 → k M1 → W p l e R s m args below meth c H1 locs1 cells slots Qf (F0 m (pc + 3) ls rest)) : W p l e R s m args below meth c H locs cells slots Qf (F0 m pc ls (v :: .ref a :: rest)) := by
  obtain ⟨⟨hx, hb, hml, hown, hts⟩, hG, -⟩ := X
  obtain ⟨f1, f2, f3, f4, f5⟩ := hf
  obtain ⟨fs, h1, hl, h3⟩ := hP
  have hK := hG.2.1
  have hap := va_apart (own := own) hts f3 ty0 ht.1 ht.2 hK f1
  obtain ⟨hA, r, g1, cell, q1, q2, q3, q4⟩ := hM a _ h1
  have hr : r = (C, T, N) := Option.some.inj (g1.symm.trans f1)
  subst hr
  obtain ⟨hS9, hfc, kC, hkC, hkind⟩ := hK.1 ci _ f1
  obtain ⟨cf, kf, fi, f, hi, hsl⟩ := hS9 j f2
  have hlay := hts _ (f3 _ (u_in_lay f2))
  unfold u_lay at hlay
  rw [if_pos hfin] at hlay
  have hst := (u_facts hfc hkC (u_lays hts f3 f2) hi).1
  have hcf : m.cls = cf := by
    obtain ⟨_, _, c', _, _, _, -, -, hf', -, -, -, hown2, -⟩ := Cond.laysFinal_spec hlay
    have e1 : c' = cf := by have := hi.symm.trans hf'; simp at this; exact this.1.symm
    rw [hdecl] at hown2
    rw [← e1]; exact Option.some.inj (hown.symm.trans hown2)
  have h6 := u_fits hfc hkC hkind (Or.inr hlay) hi hd hn hfit
  have hsame : s.fieldFound? ref (T j).2.1 (T j).2.2.1 = some (cf, kf, fi, f) := f5.elim (fun e => by rw [e]; exact hi) (fun w => u_same (hts _ w) _ hi)
  refine W.putFinK hx hb hown (hts _ f4) hsame hst hcf hin2 (by rw [q2]; exact h6) q1 q3 (by rw [hsl]; exact k2_hasslot (q4 j f2)) rfl rfl hdg fun H' e1 e2 e3 => ?_
  rw [hsl] at e1 ⊢
  exact kk _ H' _ (hM.put (e := .inr (ci, fs.set j v)) hA ⟨_, f1, t_OB.to (V := updV (vp_V fs) j v) ⟨_, e1, q2, q3, t_set q4 hap f2 v⟩ (fun i _ => vp_updV_set hl v i)⟩ e3) (hS.put e2 e3 hA) h3
theorem narrow_z {x : Int32} (h : x = 0 ∨ x = 1) : narrow .boolean (.int x) = .int x ∧ fits .boolean (.int x) = true := by
  rcases h with rfl | rfl <;> exact ⟨by decide, by decide⟩
theorem r_putz (X : Cx K p l s m args c cc nL own) (hM : mh K M H) (hS : va_S (mFA K) s.heap H locs) {x : Int32} {k : Mem → Prop} (hP : mPutZ a ci j x k M) (hf : mFl own ref C T N ci index j) {ty0 : Nat → FieldType} (ht : mFt T N ty0) (hfin : (T j).2.2.2 = false) (hd : parseFieldDescriptor (T j).2.2.1 = some .boolean) (hdg : decode cc pc = .ok (.putfield index, 3))
    (kk : ∀ (M1 : Mem) (H1 : Heap) (locs1 : List Loc), mh K M1 H1 → va_S (mFA K) s.heap H1 locs1 → k M1 → W p l e R s m args below meth c H1 locs1 cells slots Qf (F0 m (pc + 3) ls rest)) : W p l e R s m args below meth c H locs cells slots Qf (F0 m pc ls (.int x :: .ref a :: rest)) :=
  r_put X hM hS hP.2 hf ht hfin hd (narrow_z hP.1).1 (narrow_z hP.1).2 hdg kk
theorem r_ldi (X : Cx K p l s m args c cc nL own) (hM : mh K M H) {i : Int32} {k : Int32 → Mem → Prop} (hP : mLdI K a i k M) (hdg : decode cc pc = .ok (.iaload, 1))
    (kk : ∀ x : Int32, k x M → W p l e R s m args below meth c H locs cells slots Qf (F0 m (pc + 1) ls (.int x :: rest))) : W p l e R s m args below meth c H locs cells slots Qf (F0 m pc ls (.int i :: .ref a :: rest)) := by
  obtain ⟨n, f, h1, h2, h3⟩ := hP
  obtain ⟨⟨hx, hb, hml, hown, hts⟩, hG, -⟩ := X
  exact va_iald hx hb hG.2.1 (va_P1 (hM a _ h1).2) 0 0 rfl rfl h2 hdg (kk _ h3)
theorem r_ldz (X : Cx K p l s m args c cc nL own) (hM : mh K M H) {i : Int32} {k : Int32 → Mem → Prop} (hP : mLdZ K a i k M) (hdg : decode cc pc = .ok (.baload, 1))
    (kk : ∀ x : Int32, k x M → W p l e R s m args below meth c H locs cells slots Qf (F0 m (pc + 1) ls (.int x :: rest))) : W p l e R s m args below meth c H locs cells slots Qf (F0 m pc ls (.int i :: .ref a :: rest)) := by
  obtain ⟨n, f, h1, h2, h3⟩ := hP
  obtain ⟨⟨hx, hb, hml, hown, hts⟩, hG, -⟩ := X
  exact va_zald hx hb hG.2.1 (va_P1 (hM a _ h1).2) 0 3 rfl rfl h2 hdg (kk _ h3)
theorem r_ldl (X : Cx K p l s m args c cc nL own) (hM : mh K M H) {i : Int32} {k : Int64 → Mem → Prop} (hP : mLdL K a i k M) (hdg : decode cc pc = .ok (.laload, 1))
    (kk : ∀ x : Int64, k x M → W p l e R s m args below meth c H locs cells slots Qf (F0 m (pc + 1) ls (.long x :: rest))) : W p l e R s m args below meth c H locs cells slots Qf (F0 m pc ls (.int i :: .ref a :: rest)) := by
  obtain ⟨n, f, h1, h2, h3⟩ := hP
  obtain ⟨⟨hx, hb, hml, hown, hts⟩, hG, -⟩ := X
  exact va_lald hx hb hG.2.1 (va_P1 (hM a _ h1).2) 0 1 rfl rfl h2 hdg (kk _ h3)
theorem r_ldd (X : Cx K p l s m args c cc nL own) (hM : mh K M H) {i : Int32} {k : UInt64 → Mem → Prop} (hP : mLdD K a i k M) (hdg : decode cc pc = .ok (.daload, 1))
    (kk : ∀ x : UInt64, k x M → W p l e R s m args below meth c H locs cells slots Qf (F0 m (pc + 1) ls (.double x :: rest))) : W p l e R s m args below meth c H locs cells slots Qf (F0 m pc ls (.int i :: .ref a :: rest)) := by
  obtain ⟨n, f, h1, h2, h3⟩ := hP
  obtain ⟨⟨hx, hb, hml, hown, hts⟩, hG, -⟩ := X
  exact va_dald hx hb hG.2.1 (va_P1 (hM a _ h1).2) 0 2 rfl rfl h2 hdg (kk _ h3)
theorem r_ldq {t : Nat} {E : String} (ht : ∀ K : Cfg, (mTys K)[t]? = some (K.2.1 t, .object E)) (X : Cx K p l s m args c cc nL own) (hM : mh K M H) {i : Int32} {k : Nat → Mem → Prop} (hP : mLdQ K t a i k M) (hdg : decode cc pc = .ok (.aaload, 1))
    (kk : ∀ x : Nat, k x M → W p l e R s m args below meth c H locs cells slots Qf (F0 m (pc + 1) ls (.ref x :: rest))) : W p l e R s m args below meth c H locs cells slots Qf (F0 m pc ls (.int i :: .ref a :: rest)) := by
  obtain ⟨n, f, b, h1, h2, h4, h3⟩ := hP
  obtain ⟨⟨hx, hb, hml, hown, hts⟩, hG, -⟩ := X
  refine va_aldq hx hb hG.2.1 (va_P1 (hM a _ h1).2) 0 t rfl (ht K) h2 hdg ?_
  rw [h4]
  exact kk _ h3
/-- an array of arrays -/
theorem r_ldqZ (X : Cx K p l s m args c cc nL own) (hM : mh K M H) {i : Int32} {k : Nat → Mem → Prop} (hP : mLdQ K 8 a i k M) (hdg : decode cc pc = .ok (.aaload, 1))
    (kk : ∀ x : Nat, k x M → W p l e R s m args below meth c H locs cells slots Qf (F0 m (pc + 1) ls (.ref x :: rest))) : W p l e R s m args below meth c H locs cells slots Qf (F0 m pc ls (.int i :: .ref a :: rest)) := by
  obtain ⟨n, f, b, h1, h2, h4, h3⟩ := hP
  obtain ⟨⟨hx, hb, hml, hown, hts⟩, hG, -⟩ := X
  have hlt : i.toNatClampNeg < n := Nat.not_le.mp fun q => h2 (Or.inr q)
  refine W.aald (v := va_rf (f i.toNatClampNeg)) (ty := .array .boolean) hx hb (hM a _ h1).2 ((hG.2.1.2 8 _ rfl).1 n (fun j => va_rf (f j))) rfl (fun q => by cases q) (by show ¬ (i < 0 ∨ (arrV _ _ _).slots.size ≤ _); rw [arrV_size]; exact h2) (by show (arrV _ _ _).slots[_]? = _; rw [arrV_read _ _ hlt]) rfl rfl hdg ?_
  rw [h4]
  exact kk _ h3
theorem r_len {t : Nat} {ty : FieldType} (ht : ∀ K : Cfg, (mTys K)[t]? = some (K.2.1 t, ty)) (X : Cx K p l s m args c cc nL own) (hM : mh K M H) {k : Int32 → Mem → Prop} (hP : mLen K t a k M) (hdg : decode cc pc = .ok (.arraylength, 1))
    (kk : ∀ x : Int32, k x M → W p l e R s m args below meth c H locs cells slots Qf (F0 m (pc + 1) ls (.int x :: rest))) : W p l e R s m args below meth c H locs cells slots Qf (F0 m pc ls (.ref a :: rest)) := by
  obtain ⟨x, h1, h3⟩ := hP
  obtain ⟨⟨hx, hb, hml, hown, hts⟩, hG, -⟩ := X
  exact va_alen hx hb hG.2.1 (va_P1 (hM a _ h1).2) 0 t rfl (ht K) rfl hdg (kk _ h3)
theorem r_lenE (X : Cx K p l s m args c cc nL own) (hM : mh K M H) (hS : va_S (mFA K) s.heap H locs) {k : Int32 → Mem → Prop} (hP : mLenE K a k M) (hdg : decode cc pc = .ok (.arraylength, 1))
    (kk : ∀ x : Int32, k x M → W p l e R s m args below meth c H locs cells slots Qf (F0 m (pc + 1) ls (.int x :: rest))) : W p l e R s m args below meth c H locs cells slots Qf (F0 m pc ls (.ref a :: rest)) := by
  unfold mLenE at hP
  split at hP
  · rename_i ha
    subst ha
    obtain ⟨⟨hx, hb, hml, hown, hts⟩, hG, -⟩ := X
    exact va_tlen hx hb hG.2.2.2.2.2.2.1.2 hS rfl hdg (kk _ hP)
  · exact r_len (t := 7) (fun _ => rfl) X hM hP hdg kk
theorem r_lenT (X : Cx K p l s m args c cc nL own) (hS : va_S (mFA K) s.heap H locs) {k : Int32 → Mem → Prop} (hP : mLenT K a k M) (hdg : decode cc pc = .ok (.arraylength, 1))
    (kk : ∀ x : Int32, k x M → W p l e R s m args below meth c H locs cells slots Qf (F0 m (pc + 1) ls (.int x :: rest))) : W p l e R s m args below meth c H locs cells slots Qf (F0 m pc ls (.ref a :: rest)) := by
  obtain ⟨h1, h3⟩ := hP
  obtain ⟨⟨hx, hb, hml, hown, hts⟩, hG, -⟩ := X
  obtain ⟨⟨-, t2⟩, -, t4⟩ := hG.2.2.2.2.2.1
  rcases h1 with rfl | rfl
  · exact va_tlen hx hb t2 hS rfl hdg (kk _ h3)
  · exact va_tlen hx hb t4 hS rfl hdg (kk _ h3)
theorem r_ldt (X : Cx K p l s m args c cc nL own) (hS : va_S (mFA K) s.heap H locs) {i : Int32} {k : Int32 → Mem → Prop} (hP : mLdT K a i k M) (hdg : decode cc pc = .ok (.iaload, 1))
    (kk : ∀ x : Int32, k x M → W p l e R s m args below meth c H locs cells slots Qf (F0 m (pc + 1) ls (.int x :: rest))) : W p l e R s m args below meth c H locs cells slots Qf (F0 m pc ls (.int i :: .ref a :: rest)) := by
  obtain ⟨h1, h2, h3⟩ := hP
  obtain ⟨⟨hx, hb, hml, hown, hts⟩, hG, -⟩ := X
  obtain ⟨⟨-, t2⟩, -, t4⟩ := hG.2.2.2.2.2.1
  by_cases ha : a = K.2.2 2
  · rw [mTab, if_pos ha] at h3
    subst ha
    exact va_ti hx hb t2 hS h2 rfl hdg (kk _ h3)
  · rw [mTab, if_neg ha] at h3
    have h4 := h1.resolve_left ha
    subst h4
    exact va_ti hx hb t4 hS h2 rfl hdg (kk _ h3)
end MROWS
