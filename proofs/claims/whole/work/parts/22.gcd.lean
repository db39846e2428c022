/-! greatest common divisors -/
theorem q_gcd_next (x y : Nat) : Nat.gcd x y = Nat.gcd y (x % y) := by
  rw [Nat.gcd_comm x y, Nat.gcd_rec y x, Nat.gcd_comm]
theorem q_half {y r k : Nat} (hr : 0 < r) (hry : r < y) (hy : y < 2 ^ (k + 1)) : y % r < 2 ^ k := by
  have h1 : y % r < r := Nat.mod_lt _ hr
  have h2 : y % r + r ≤ y := by
    have h3 := Nat.div_add_mod y r
    have h4 : 1 ≤ y / r := (Nat.one_le_div_iff hr).mpr (by omega)
    have h5 : r * 1 ≤ r * (y / r) := Nat.mul_le_mul_left r h4
    omega
  rw [Nat.pow_succ] at hy
  omega
theorem p_div_step {z : q_Z} {x y : Nat} (hx : x < 9223372036854775808) (hy : y < 9223372036854775808) (h0 : y ≠ 0) : B_X10_divisor_14 (q_l x, q_l y, z) = some ((q_l y, q_l (x % y : Nat), z), 0) := by
  have hxB : q_B (x : Int) := ⟨by omega, by omega⟩
  have hyB : q_B (y : Int) := ⟨by omega, by omega⟩
  have hne : ¬ q_l (y : Int) = 0 := by rw [q_l0, q_l_eq hyB (by decide)]; omega
  have hd : q_B ((x : Int).tdiv y) := by
    have : (x : Int).tdiv y = ((x / y : Nat) : Int) := rfl
    rw [this]
    have h9 := Nat.div_le_self x y
    generalize x / y = w at h9 ⊢
    constructor <;> omega
  simp only [B_X10_divisor_14]
  rw [if_neg hne, if_pos hne, q_l_rem hxB hyB hd]
  rfl
theorem p_div_end {z : q_Z} {x : Nat} : B_X10_divisor_14 (q_l x, q_l 0, z) = some ((q_l x, q_l 0, z), 1) := by
  simp only [B_X10_divisor_14]
  rw [if_pos (by rfl)]
theorem p_div_loop {z : q_Z} : ∀ (k x y : Nat), x < 9223372036854775808 → y < 9223372036854775808 → y < 2 ^ k → ∃ n, n ≤ 2 * k + 1 ∧ q_lp B_X10_divisor_14 n (q_l x, q_l y, z) = some ((q_l (Nat.gcd x y), q_l 0, z), 0) := by
  intro k
  induction k with
  | zero =>
    intro x y hx hy h
    have e : y = 0 := by simp at h; omega
    subst e
    refine ⟨1, by omega, ?_⟩
    rw [Nat.gcd_zero_right]
    exact q_lp_end p_div_end
  | succ k ih =>
    intro x y hx hy h
    by_cases h0 : y = 0
    · subst h0
      refine ⟨1, by omega, ?_⟩
      rw [Nat.gcd_zero_right]
      exact q_lp_end p_div_end
    · have hr : x % y < y := Nat.mod_lt _ (by omega)
      by_cases h1 : x % y = 0
      · refine ⟨2, by omega, ?_⟩
        rw [q_lp_go (p_div_step hx hy h0), q_gcd_next, h1, Nat.gcd_zero_right]
        exact q_lp_end p_div_end
      · have h2 := q_half (k := k) (by omega) hr h
        obtain ⟨n, hn, g⟩ := ih (x % y) (y % (x % y)) (by omega) (by have := Nat.mod_le y (x % y); omega) h2
        refine ⟨n + 1 + 1, by omega, ?_⟩
        rw [q_lp_go (p_div_step hx hy h0), q_lp_go (p_div_step hy (by omega) h1), g]
        congr 4
        rw [q_gcd_next x y, q_gcd_next y (x % y)]
theorem p_X10_divisor {z : q_Z} {x y : Int} (hx : q_B x) (hx2 : q_B (-x)) (hy : q_B y) (hy2 : q_B (-y)) : F_X10_divisor z (q_l x) (q_l y) = some (q_l (Int.gcd x y), z) := by
  unfold F_X10_divisor
  rw [p_X10_abs hx hx2, Option.bind_some]
  dsimp only
  rw [p_X10_abs hy hy2, Option.bind_some]
  dsimp only
  obtain ⟨n, hn, g⟩ := p_div_loop (z := z) 63 x.natAbs y.natAbs (by omega) (by omega) (by omega)
  rw [q_lp_mono g (show n ≤ q_fu by unfold q_fu; omega), Option.bind_some]
  rfl
theorem p_cd_step {z : q_Z} {x y t : Nat} (hx : x < 9223372036854775808) (hy : y < 9223372036854775808) (h0 : y ≠ 0) (ht : t < 100000) : B_X7_commonDivisor_15 (q_l x, q_l y, q_i t, z) = some ((q_l y, q_l (x % y : Nat), q_i (t + 1 : Nat), z), 0) := by
  have hxB : q_B (x : Int) := ⟨by omega, by omega⟩
  have hyB : q_B (y : Int) := ⟨by omega, by omega⟩
  have hne : ¬ q_l (y : Int) = 0 := by rw [q_l0, q_l_eq hyB (by decide)]; omega
  have hd : q_B ((x : Int).tdiv y) := by
    have : (x : Int).tdiv y = ((x / y : Nat) : Int) := rfl
    rw [this]
    have h9 := Nat.div_le_self x y
    generalize x / y = w at h9 ⊢
    constructor <;> omega
  have hti : ¬ (100000 : Int32) ≤ q_i (t : Int) := by
    rw [show (100000 : Int32) = q_i 100000 from rfl, q_i_le (by decide) ⟨by omega, by omega⟩]
    omega
  simp only [B_X7_commonDivisor_15]
  rw [if_neg hti, if_neg hne, if_pos hne, q_l_rem hxB hyB hd, q_i1, q_i_add]
  rfl
theorem p_cd_end {z : q_Z} {x t : Nat} : B_X7_commonDivisor_15 (q_l x, q_l 0, q_i t, z) = some ((q_l x, q_l 0, q_i t, z), 1) := by
  simp only [B_X7_commonDivisor_15]
  by_cases c : (100000 : Int32) ≤ q_i (t : Int)
  · rw [if_pos c]
  · rw [if_neg c, if_pos (by rfl)]
theorem p_cd_loop {z : q_Z} : ∀ (k x y t : Nat), x < 9223372036854775808 → y < 9223372036854775808 → y < 2 ^ k → t + 2 * k + 1 < 100000 → ∃ n t2, n ≤ 2 * k + 1 ∧ q_lp B_X7_commonDivisor_15 n (q_l x, q_l y, q_i t, z) = some ((q_l (Nat.gcd x y), q_l 0, q_i (t2 : Nat), z), 0) := by
  intro k
  induction k with
  | zero =>
    intro x y t hx hy h ht
    have e : y = 0 := by simp at h; omega
    subst e
    refine ⟨1, t, by omega, ?_⟩
    rw [Nat.gcd_zero_right]
    exact q_lp_end p_cd_end
  | succ k ih =>
    intro x y t hx hy h ht
    by_cases h0 : y = 0
    · subst h0
      refine ⟨1, t, by omega, ?_⟩
      rw [Nat.gcd_zero_right]
      exact q_lp_end p_cd_end
    · have hr : x % y < y := Nat.mod_lt _ (by omega)
      by_cases h1 : x % y = 0
      · refine ⟨2, t + 1, by omega, ?_⟩
        rw [q_lp_go (p_cd_step hx hy h0 (by omega)), q_gcd_next, h1, Nat.gcd_zero_right]
        exact q_lp_end p_cd_end
      · have h2 := q_half (k := k) (by omega) hr h
        obtain ⟨n, t2, hn, g⟩ := ih (x % y) (y % (x % y)) (t + 2) (by omega) (by have := Nat.mod_le y (x % y); omega) h2 (by omega)
        refine ⟨n + 1 + 1, t2, by omega, ?_⟩
        rw [q_lp_go (p_cd_step hx hy h0 (by omega)), q_lp_go (p_cd_step hy (by omega) h1 (by omega)), g]
        congr 4
        rw [q_gcd_next x y, q_gcd_next y (x % y)]
theorem p_X7_commonDivisor {z : q_Z} {x y : Int} (hx : q_B x) (hx2 : q_B (-x)) (hy : q_B y) (hy2 : q_B (-y)) : F_X7_commonDivisor z (q_l x) (q_l y) = some (q_l (Int.gcd x y), z) := by
  unfold F_X7_commonDivisor T_X7_commonDivisor_50
  rw [p_J9_absl hx hx2, Option.bind_some]
  dsimp only
  rw [p_J9_absl hy hy2, Option.bind_some]
  dsimp only
  obtain ⟨n, t2, hn, g⟩ := p_cd_loop (z := z) 63 x.natAbs y.natAbs 0 (by omega) (by omega) (by omega) (by omega)
  have g2 := q_lp_mono g (show n ≤ q_fu by unfold q_fu; omega)
  rw [show (0 : Int32) = q_i ((0 : Nat) : Int) from rfl, g2, Option.bind_some]
  rfl
