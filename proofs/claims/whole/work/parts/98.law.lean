/-- what is left to be shown, over pure functions alone -/
theorem q_pure (L : Nat) (xs : Nat → Int32) (hL : L ≤ 3584) : ∃ (z0 z2 : q_Z) (l3 : Int32), F_X10_becomes (q_Ih, q_Lm) (-4) = some ((), z0) ∧ q_lp (B_L_law_18 L xs) q_fu (0, z0) = some ((l3, z2), 0) := by
  sorry
theorem q_law_ok (L : Nat) (xs : Nat → Int32) (hL : L ≤ 3584) : ∃ h2 : q_H, q_Ex (some (L, xs)) j_L_law 0 [(0, .ref 0)] [] ([], fun _ _ => 0, fun _ _ => 0, fun _ _ => none) (some (.int 1)) h2 ∧ h2.1.length ≤ 600000 ∧ q_sl h2 ≤ 7302250 := by
  obtain ⟨z0, z2, l3, hB, hl⟩ := q_pure L xs hL
  exact q_law_of L xs hB hl
