theorem law_pure {L : Nat} {xs : Nat → Int32} (hL : L ≤ 4096) : P_L_law L xs ((z0S, z0B), z0M) 0 (fun _ => True) := by
  sorry
