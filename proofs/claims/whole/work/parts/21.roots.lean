/-! square roots and greatest common divisors, of both -/
theorem q_sqrt_uni {n r s : Int} (hr : 0 ≤ r) (hs : 0 ≤ s) (h1 : r * r ≤ n) (h2 : n < (r + 1) * (r + 1)) (h3 : s * s ≤ n) (h4 : n < (s + 1) * (s + 1)) : r = s := by
  rcases Int.lt_trichotomy r s with c | c | c
  · have : (r + 1) * (r + 1) ≤ s * s := Int.mul_le_mul (by omega) (by omega) (by omega) (by omega)
    omega
  · exact c
  · have : (s + 1) * (s + 1) ≤ r * r := Int.mul_le_mul (by omega) (by omega) (by omega) (by omega)
    omega
theorem q_mulB {m : Int} (h0 : 0 ≤ m) (h1 : m ≤ 3037000499) : q_B (m * m) := by
  have h2 : m * m ≤ 3037000499 * 3037000499 := Int.mul_le_mul h1 h1 h0 (by omega)
  have h3 : 0 ≤ m * m := Int.mul_nonneg h0 h0
  constructor <;> omega
theorem q_tdiv2 {x : Int} (h : 0 ≤ x) : x.tdiv 2 = x / 2 := Int.tdiv_eq_ediv_of_nonneg h
theorem p_root0_step {z : q_Z} {n lo hi : Int} (hn0 : 0 ≤ n) (hn : q_B n) (h0 : 0 ≤ lo) (h1 : lo ≤ hi) (h2 : hi ≤ 3037000499) (h3 : lo * lo ≤ n) (h4 : n < (hi + 1) * (hi + 1) ∨ hi = 3037000499) :
    (hi ≤ lo ∧ B_X10_root0_7 (q_l n, q_l lo, q_l hi, z) = some ((q_l n, q_l lo, q_l hi, z), 1)) ∨
    ∃ lo2 hi2, B_X10_root0_7 (q_l n, q_l lo, q_l hi, z) = some ((q_l n, q_l lo2, q_l hi2, z), 0) ∧ 0 ≤ lo2 ∧ lo2 ≤ hi2 ∧ hi2 ≤ 3037000499 ∧ lo2 * lo2 ≤ n ∧ (n < (hi2 + 1) * (hi2 + 1) ∨ hi2 = 3037000499) ∧ 2 * (hi2 - lo2) ≤ hi - lo := by
  have hlo : q_B lo := ⟨by omega, by omega⟩
  have hhi : q_B hi := ⟨by omega, by omega⟩
  by_cases c : hi ≤ lo
  · refine Or.inl ⟨c, ?_⟩
    simp only [B_X10_root0_7]
    rw [if_pos ((q_l_le hhi hlo).mpr c)]
  · refine Or.inr ?_
    have hm : q_B (lo + hi + 1) := ⟨by omega, by omega⟩
    have em : (q_l lo + q_l hi + 1) / 2 = q_l ((lo + hi + 1) / 2) := by
      rw [q_l1, q_l2, q_l_add, q_l_add, q_l_div hm (by decide) (by rw [q_tdiv2 (by omega)]; constructor <;> omega), q_tdiv2 (by omega)]
    obtain ⟨m, hmd⟩ : ∃ m, m = (lo + hi + 1) / 2 := ⟨_, rfl⟩
    have hmB := q_mulB (m := m) (by omega) (by omega)
    simp only [B_X10_root0_7, T_X10_root0_48, em, ← hmd]
    rw [if_neg (fun q => c ((q_l_le hhi hlo).mp q)), q_l_mul]
    by_cases c2 : n < m * m
    · rw [if_pos ((q_l_lt hn hmB).mpr c2), q_l1, q_l_sub]
      refine ⟨lo, m - 1, rfl, h0, by omega, by omega, h3, Or.inl ?_, by omega⟩
      rw [Int.sub_add_cancel]
      exact c2
    · rw [if_neg (fun q => c2 ((q_l_lt hn hmB).mp q))]
      exact ⟨m, hi, rfl, by omega, by omega, h2, by omega, h4, by omega⟩
theorem p_root0_loop {z : q_Z} {n : Int} (hn0 : 0 ≤ n) (hn : q_B n) : ∀ (k : Nat) (lo hi : Int), 0 ≤ lo → lo ≤ hi → hi ≤ 3037000499 → lo * lo ≤ n → (n < (hi + 1) * (hi + 1) ∨ hi = 3037000499) → hi - lo < 2 ^ k → ∃ r, 0 ≤ r ∧ r ≤ 3037000499 ∧ r * r ≤ n ∧ n < (r + 1) * (r + 1) ∧ q_lp B_X10_root0_7 (k + 1) (q_l n, q_l lo, q_l hi, z) = some ((q_l n, q_l r, q_l r, z), 0) := by
  intro k
  induction k with
  | zero =>
    intro lo hi h0 h1 h2 h3 h4 h5
    have e : hi = lo := by omega
    subst e
    rcases p_root0_step (z := z) hn0 hn h0 h1 h2 h3 h4 with ⟨_, g⟩ | ⟨lo2, hi2, g, _⟩
    · refine ⟨hi, h0, h2, h3, ?_, q_lp_end g⟩
      rcases h4 with h4 | h4
      · exact h4
      · subst h4; have := hn.2; omega
    · simp only [B_X10_root0_7] at g
      rw [if_pos ((q_l_le ⟨by omega, by omega⟩ ⟨by omega, by omega⟩).mpr (Int.le_refl _))] at g
      simp only [Option.some.injEq, Prod.mk.injEq] at g
      exact absurd g.2 (by decide)
  | succ k ih =>
    intro lo hi h0 h1 h2 h3 h4 h5
    rcases p_root0_step (z := z) hn0 hn h0 h1 h2 h3 h4 with ⟨g0, g⟩ | ⟨lo2, hi2, g, g1, g2, g3, g4, g5, g6⟩
    · have e : hi = lo := by omega
      subst e
      refine ⟨hi, h0, h2, h3, ?_, q_lp_end g⟩
      rcases h4 with h4 | h4
      · exact h4
      · subst h4; have := hn.2; omega
    · obtain ⟨r, r1, r2, r3, r4, r5⟩ := ih lo2 hi2 g1 g2 g3 g4 g5 (by rw [Int.pow_succ] at h5; omega)
      exact ⟨r, r1, r2, r3, r4, by rw [q_lp_go g]; exact r5⟩
theorem p_X10_root0 {z : q_Z} {n : Int} (hn0 : 0 ≤ n) (hn : q_B n) : ∃ r, 0 ≤ r ∧ r ≤ 3037000499 ∧ r * r ≤ n ∧ n < (r + 1) * (r + 1) ∧ F_X10_root0 z (q_l n) = some (q_l r, z) := by
  obtain ⟨r, r1, r2, r3, r4, r5⟩ := p_root0_loop (z := z) hn0 hn 40 0 3037000499 (by omega) (by omega) (by omega) (by omega) (Or.inr rfl) (by decide)
  refine ⟨r, r1, r2, r3, r4, ?_⟩
  unfold F_X10_root0
  have h1 := q_lp_mono r5 (show 40 + 1 ≤ q_fu by decide)
  rw [q_l0, show (3037000499 : Int64) = q_l 3037000499 from rfl, h1]
  rfl
theorem q_shr1 : ∀ k, k < 16 → q_l (2 ^ k) >>> (Int32.toInt64 1 &&& 63) = q_l (2 ^ k / 2) := by decide
theorem p_rootOf_loop {z : q_Z} {n : Int} (hn : q_B n) : ∀ (k : Nat) (f : Int), k ≤ 16 → 0 ≤ f → f + 2 ^ k ≤ 65536 → f * f ≤ n → n < (f + 2 ^ k) * (f + 2 ^ k) → ∃ r, 0 ≤ r ∧ r < 65536 ∧ r * r ≤ n ∧ n < (r + 1) * (r + 1) ∧ q_lp B_X7_rootOf_7 (k + 1) (q_l n, q_l f, q_l (2 ^ k / 2), z) = some ((q_l n, q_l r, q_l 0, z), 0) := by
  intro k
  induction k with
  | zero =>
    intro f _ h1 h2 h3 h4
    refine ⟨f, h1, by simp at h2; omega, h3, by simpa using h4, ?_⟩
    refine q_lp_end ?_
    simp only [B_X7_rootOf_7]
    rw [if_pos (by decide)]
    rfl
  | succ k ih =>
    intro f hk h1 h2 h3 h4
    have e0 : (2 : Int) ^ (k + 1) / 2 = 2 ^ k := by rw [Int.pow_succ]; omega
    have hp : (0 : Int) < 2 ^ k := Int.pow_pos (by decide)
    have hk2 : (2 : Int) ^ k ≤ 32768 := by
      have : k < 16 := by omega
      exact (by decide : ∀ k, k < 16 → (2 : Int) ^ k ≤ 32768) k this
    rw [Int.pow_succ] at h2 h4
    have hmB := q_mulB (m := f + 2 ^ k) (by omega) (by omega)
    have hb : B_X7_rootOf_7 (q_l n, q_l f, q_l (2 ^ k), z) = some ((q_l n, q_l (if n < (f + 2 ^ k) * (f + 2 ^ k) then f else f + 2 ^ k), q_l (2 ^ k / 2), z), 0) := by
      simp only [B_X7_rootOf_7, T_X7_rootOf_33]
      rw [q_l0, if_neg (by rw [q_l_le ⟨by omega, by omega⟩ (by decide)]; omega), q_l_add, q_l_mul, q_shr1 k (by omega)]
      by_cases c : n < (f + 2 ^ k) * (f + 2 ^ k)
      · rw [if_pos ((q_l_lt hn hmB).mpr c), if_pos c]
      · rw [if_neg (fun q => c ((q_l_lt hn hmB).mp q)), if_neg c]
    rw [e0, q_lp_go hb]
    by_cases c : n < (f + 2 ^ k) * (f + 2 ^ k)
    · rw [if_pos c]
      exact ih f (by omega) h1 (by omega) h3 c
    · rw [if_neg c]
      refine ih (f + 2 ^ k) (by omega) (by omega) (by omega) (by omega) ?_
      have e1 : f + 2 ^ k + 2 ^ k = f + 2 ^ k * 2 := by omega
      rw [e1]
      exact h4
theorem p_X7_rootOf {z : q_Z} {n : Int} (hn0 : 0 ≤ n) (hn : n < 4294967296) : ∃ r, 0 ≤ r ∧ r < 65536 ∧ r * r ≤ n ∧ n < (r + 1) * (r + 1) ∧ F_X7_rootOf z (q_l n) = some (q_l r, z) := by
  obtain ⟨r, r1, r2, r3, r4, r5⟩ := p_rootOf_loop (z := z) (n := n) ⟨by omega, by omega⟩ 16 0 (by omega) (by omega) (by decide) (by omega) (by show n < (0 + 65536) * (0 + 65536); omega)
  refine ⟨r, r1, r2, r3, r4, ?_⟩
  unfold F_X7_rootOf
  have h1 := q_lp_mono r5 (show 16 + 1 ≤ q_fu by decide)
  rw [q_l0, show (32768 : Int64) = q_l (2 ^ 16 / 2) from rfl, h1]
  rfl
theorem p_X7_isSquare {z : q_Z} {n : Int} (hn0 : 0 ≤ n) (hn : n < 4294967296) : (∃ r, 0 ≤ r ∧ r * r = n ∧ F_X7_isSquare z (q_l n) = some (1, z)) ∨ ((∀ r, ¬ r * r = n) ∧ F_X7_isSquare z (q_l n) = some (0, z)) := by
  obtain ⟨r, r1, r2, r3, r4, r5⟩ := p_X7_rootOf (z := z) hn0 hn
  have hB := q_mulB r1 (by omega)
  have hnB : q_B n := ⟨by omega, by omega⟩
  by_cases c : r * r = n
  · refine Or.inl ⟨r, r1, c, ?_⟩
    unfold F_X7_isSquare
    rw [r5, Option.bind_some]
    dsimp only
    rw [q_l_mul, if_pos ((q_l_eq hB hnB).mpr c)]
  · refine Or.inr ⟨fun s hs => c ?_, ?_⟩
    · have hs2 : (s.natAbs : Int) * s.natAbs = n := by rw [← Int.natCast_mul, Int.natAbs_mul_self]; exact hs
      have h9 : n < ((s.natAbs : Int) + 1) * (s.natAbs + 1) := by rw [← hs2, Int.add_mul, Int.mul_add]; omega
      have := q_sqrt_uni r1 (Int.natCast_nonneg _) r3 r4 (Int.le_of_eq hs2) h9
      rw [this]
      exact hs2
    · unfold F_X7_isSquare
      rw [r5, Option.bind_some]
      dsimp only
      rw [q_l_mul, if_neg (fun q => c ((q_l_eq hB hnB).mp q))]
