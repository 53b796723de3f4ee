theorem pure_law {K : Cfg} {L : Nat} {xs : Nat → Int32} (h1 : K.2.2 2 ≠ K.2.2 3) (h2 : K.2.2 1 < K.2.2 0) (h3 : K.2.2 2 < K.2.2 0) (h4 : K.2.2 3 < K.2.2 0) (hL : L ≤ 3072) : f_L_law K L xs (fun _ => none) := by
  sorry
