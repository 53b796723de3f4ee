/-! ===== THE CLASS: the flight runs ===== -/
def psQ (A : CS) (Q : Nat → JQ) : Nat → Nat → JQ
  | 0 => Q
  | t + 1 => fun j => tkQ A t (psQ A Q t j)
def btQ (A : CS) (Q : Nat → JQ) (n : Nat) : Nat → Nat → Nat
  | 0 => fun _ => 0
  | t + 1 => newM (psQ A Q (t + 1)) (btQ A Q n t) n
def ttQ (A : CS) (Q : Nat → JQ) (n : Nat) : Nat → Nat
  | 0 => 0
  | t + 1 => ttQ A Q n t + newC (psQ A Q (t + 1)) (btQ A Q n t) n n 0
section CLSR2
variable {K : Cfg} {c : Nat → Nat} {A : CS} {M0 M : Mem}
theorem newM_with {Q Q2 : Nat → JQ} {bits b2 : Nat → Nat} {n : Nat} (h : ∀ j, ∃ m, Q2 j = ((Q j).1, ((Q j).2.1.1, (Q j).2.1.2.1, m), (Q j).2.2)) (hb : ∀ j, b2 j = bits j) : newM Q2 b2 n = newM Q bits n := by
  funext i
  unfold newM
  have e : (fun j => nrQ (Q2 i) (Q2 j)) = (fun j => nrQ (Q i) (Q j)) := by
    funext j
    obtain ⟨m, hm⟩ := h i
    obtain ⟨m2, hm2⟩ := h j
    rw [hm, hm2]; rfl
  rw [e, hb]
end CLSR2
