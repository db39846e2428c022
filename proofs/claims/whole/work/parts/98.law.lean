theorem q_law_ok (L : Nat) (xs : Nat → Int32) (hL : L ≤ 3584) : ∃ h2 : q_H, q_Ex (some (L, xs)) j_L_law 0 [(0, .ref 0)] [] ([], fun _ _ => 0, fun _ _ => 0, fun _ _ => none) (some (.int 1)) h2 ∧ h2.1.length ≤ 600000 ∧ q_sl h2 ≤ 7302250 := by
  sorry
