/-- where both begin -/
theorem q_begin {z : q_Z} (hg : z.1 128 0 = q_i (-4)) (hR : z.1 128 1 = q_i 0) (hM : q_Mtab (-4) 0 z) (hI : ∀ n, n ≠ 128 → (n < 134 ∨ 138 < n) → z.1 n = q_Ih n ∧ z.2 n = q_Lm n) (h8 : ∀ k, k ≠ 0 → k ≠ 1 → k ≠ 22 → k ≠ 23 → z.1 128 k = q_Ih 128 k) : q_LI z := by
  have hI' : ∀ n, n ≠ 128 → (n < 134 ∨ 138 < n) → ∀ k, z.1 n k = q_Ih n k ∧ z.2 n k = q_Lm n k := by
    intro n h1 h2 k
    rw [(hI n h1 h2).1, (hI n h1 h2).2]
    exact ⟨rfl, rfl⟩
  refine ⟨((-4, 0, 0), (0, fun _ => (0, 0, 0)), (0, fun _ => (0, (0, 0, 0))), (1, 0, 0, 1), (0, fun _ => (0, 0))), ⟨Or.inl ⟨by decide, by decide, rfl⟩, by show (-4 : Int) % 4 ≤ 1; decide, by decide, by decide, by decide, fun i hi => absurd hi (Nat.not_lt_zero i), fun i hi => absurd hi (Nat.not_lt_zero i), trivial⟩, ⟨⟨?_, ?_⟩, ?_, ⟨?_, fun i hi => absurd hi (Nat.not_lt_zero i)⟩, ⟨0, by decide, ?_, ?_, fun i hi => absurd hi (Nat.not_lt_zero i)⟩, ⟨?_, ?_, ?_, ?_⟩, ⟨?_, fun i hi => absurd hi (Nat.not_lt_zero i)⟩, q_Ctab_0 ?_ ?_⟩, ⟨⟨hg, hR⟩, ?_, ⟨?_, fun i hi => absurd hi (Nat.not_lt_zero i)⟩, ⟨?_, fun i hi => absurd hi (Nat.not_lt_zero i)⟩, ⟨?_, ?_, ?_, ?_⟩, ⟨?_, fun i hi => absurd hi (Nat.not_lt_zero i)⟩, hM⟩⟩
  · rw [(hI' 4 (by decide) (by decide) 0).1]; decide
  · rw [(hI' 4 (by decide) (by decide) 1).1]; decide
  · rw [(hI' 1 (by decide) (by decide) 9).1]; decide
  · rw [(hI' 17 (by decide) (by decide) 3).1]; decide
  · rw [(hI' 17 (by decide) (by decide) 4).1]; decide
  · rw [(hI' 17 (by decide) (by decide) 5).1]; decide
  · rw [(hI' 121 (by decide) (by decide) 0).2]; decide
  · rw [(hI' 121 (by decide) (by decide) 1).2]; decide
  · rw [(hI' 121 (by decide) (by decide) 2).2]; decide
  · rw [(hI' 121 (by decide) (by decide) 3).2]; decide
  · rw [(hI' 122 (by decide) (by decide) 2).1]; decide
  · rw [(hI' 3 (by decide) (by decide) 11).1]; decide
  · rw [(hI' 2 (by decide) (by decide) 7).1]; decide
  · rw [h8 2 (by decide) (by decide) (by decide) (by decide)]; decide
  · rw [h8 6 (by decide) (by decide) (by decide) (by decide)]; decide
  · rw [h8 7 (by decide) (by decide) (by decide) (by decide)]; decide
  · rw [(hI' 131 (by decide) (by decide) 0).2]; decide
  · rw [(hI' 131 (by decide) (by decide) 1).2]; decide
  · rw [(hI' 131 (by decide) (by decide) 2).2]; decide
  · rw [(hI' 131 (by decide) (by decide) 3).2]; decide
  · rw [h8 11 (by decide) (by decide) (by decide) (by decide)]; decide
/-- what is left to be shown, over pure functions alone -/
theorem q_pure (L : Nat) (xs : Nat → Int32) (hL : L ≤ 3584) : ∃ (z0 z2 : q_Z) (l3 : Int32), F_X10_becomes (q_Ih, q_Lm) (-4) = some ((), z0) ∧ q_lp (B_L_law_18 L xs) q_fu (0, z0) = some ((l3, z2), 0) := by
  obtain ⟨z0, a1, a2, a3, a4, a5, a6⟩ := p_becomes (d := -4) (R := 0) (Or.inl ⟨by decide, by decide, rfl⟩) (by show (-4 : Int) % 4 ≤ 1; decide) (q_Ih, q_Lm)
  obtain ⟨l3, z2, h⟩ := q_law_loop L xs hL L 0 z0 (by omega) (by omega) (q_begin a2 a3 a4 a5 a6)
  exact ⟨z0, z2, l3, a1, q_lp_mono h (by unfold q_fu; omega)⟩
theorem q_law_ok (L : Nat) (xs : Nat → Int32) (hL : L ≤ 3584) : ∃ h2 : q_H, q_Ex (some (L, xs)) j_L_law 0 [(0, .ref 0)] [] ([], fun _ _ => 0, fun _ _ => 0, fun _ _ => none) (some (.int 1)) h2 ∧ h2.1.length ≤ 600000 ∧ q_sl h2 ≤ 7302250 := by
  obtain ⟨z0, z2, l3, hB, hl⟩ := q_pure L xs hL
  exact q_law_of L xs hB hl
