/-! quotients of a root: the states (P, Q), P + root N by Q -/
def q_N (N R : Int) : Prop := 0 < R ∧ R ≤ 100 ∧ R * R < N ∧ N < (R + 1) * (R + 1)
def q_qk (R : Int) (x : Int × Int) : Int := (x.1 + R) / x.2
def q_qn (N R : Int) (x : Int × Int) : Int × Int := (q_qk R x * x.2 - x.1, (N - (q_qk R x * x.2 - x.1) * (q_qk R x * x.2 - x.1)) / x.2)
/-- a state from which one goes on -/
def q_q0 (N R : Int) (x : Int × Int) : Prop := 0 ≤ x.1 ∧ x.1 ≤ R ∧ 0 < x.2 ∧ x.2 ≤ x.1 + R ∧ x.2 ∣ (N - x.1 * x.1)
/-- a state within the period -/
def q_q1 (N R : Int) (x : Int × Int) : Prop := 0 < x.1 ∧ x.1 ≤ R ∧ R - x.1 < x.2 ∧ x.2 ≤ R + x.1 ∧ x.2 ∣ (N - x.1 * x.1)
theorem q_q1_q0 {N R : Int} {x : Int × Int} (h : q_q1 N R x) : q_q0 N R x := ⟨by have := h.1; omega, h.2.1, by have := h.2.1; have := h.2.2.1; omega, by have := h.2.2.2.1; omega, h.2.2.2.2⟩
theorem q_qn_mul {N R : Int} {x : Int × Int} (h : q_q0 N R x) : x.2 * (q_qn N R x).2 = N - (q_qn N R x).1 * (q_qn N R x).1 := by
  obtain ⟨P, Q⟩ := x
  obtain ⟨h1, h2, h3, h4, h5⟩ := h
  simp only at h1 h2 h3 h4 h5
  simp only [q_qn]
  generalize q_qk R (P, Q) = k
  refine Int.mul_ediv_cancel' ?_
  obtain ⟨m, hm⟩ := h5
  refine ⟨m - k * k * Q + 2 * k * P, ?_⟩
  have e : N - (k * Q - P) * (k * Q - P) = (N - P * P) - Q * (k * k * Q) + Q * (2 * k * P) := by grind
  rw [e, hm]
  grind
theorem q_qk_pos {N R : Int} {x : Int × Int} (h : q_q0 N R x) : 1 ≤ q_qk R x ∧ q_qk R x * x.2 ≤ x.1 + R ∧ x.1 + R < q_qk R x * x.2 + x.2 := by
  obtain ⟨P, Q⟩ := x
  obtain ⟨h1, h2, h3, h4, h5⟩ := h
  simp only at h1 h2 h3 h4
  simp only [q_qk]
  have e2 := Int.mul_ediv_add_emod (P + R) Q
  have e3 := Int.emod_nonneg (P + R) (show Q ≠ 0 by omega)
  have e4 := Int.emod_lt_of_pos (P + R) h3
  have e5 : Q * ((P + R) / Q) = (P + R) / Q * Q := Int.mul_comm _ _
  exact ⟨Int.le_ediv_of_mul_le h3 (by omega), by omega, by omega⟩
theorem q_qn_c1 {N R : Int} {x : Int × Int} (hN : q_N N R) (h : q_q0 N R x) : q_q1 N R (q_qn N R x) := by
  have hm := q_qn_mul h
  obtain ⟨k1, k2, k3⟩ := q_qk_pos h
  obtain ⟨P, Q⟩ := x
  obtain ⟨h1, h2, h3, h4, h5⟩ := h
  simp only at h1 h2 h3 h4 h5 k2 k3
  have e1 : (q_qn N R (P, Q)).1 = q_qk R (P, Q) * Q - P := rfl
  have k4 : 1 * Q ≤ q_qk R (P, Q) * Q := Int.mul_le_mul_of_nonneg_right k1 (by omega)
  obtain ⟨n1, n2, n3, n4⟩ := hN
  generalize hp : (q_qn N R (P, Q)).1 = p at e1 hm
  generalize hq : (q_qn N R (P, Q)).2 = q at hm
  simp only at hm
  have p1 : 0 < p := by omega
  have p2 : p ≤ R := by omega
  have p3 : R - p < Q := by omega
  have p4 : Q ≤ R + p := by omega
  have hpp := q_sq_le (x := p) (M := R) ⟨by omega, by omega⟩
  have hq0 : 0 < q := by
    rcases Int.lt_or_le 0 q with c | c
    · exact c
    · have := Int.mul_nonpos_of_nonneg_of_nonpos (show 0 ≤ Q by omega) c
      omega
  show q_q1 N R (q_qn N R (P, Q))
  refine ⟨by rw [hp]; exact p1, by rw [hp]; exact p2, ?_, ?_, ?_⟩
  · rw [hp, hq]
    rcases Int.lt_or_le (R - p) q with c | c
    · exact c
    · exfalso
      have g1 : Q * q ≤ (R + p) * (R - p) := Int.mul_le_mul p4 c (by omega) (by omega)
      have g2 : (R + p) * (R - p) = R * R - p * p := by grind
      omega
  · rw [hp, hq]
    rcases Int.lt_or_le (R + p) q with c | c
    · exfalso
      have g1 : (R - p + 1) * (R + p + 1) ≤ Q * q := Int.mul_le_mul (by omega) (by omega) (by omega) (by omega)
      have g2 : (R - p + 1) * (R + p + 1) = (R + 1) * (R + 1) - p * p := by grind
      omega
    · exact c
  · rw [hp, hq]
    exact ⟨Q, by rw [← hm, Int.mul_comm]⟩
theorem q_qn_inj {N R : Int} {x y : Int × Int} (hN : q_N N R) (hx : q_q1 N R x) (hy : q_q1 N R y) (h : q_qn N R x = q_qn N R y) : x = y := by
  have m1 := q_qn_mul (q_q1_q0 hx)
  have m2 := q_qn_mul (q_q1_q0 hy)
  have c1 := q_qn_c1 hN (q_q1_q0 hx)
  obtain ⟨a1, a2, a3⟩ := q_qk_pos (q_q1_q0 hx)
  obtain ⟨b1, b2, b3⟩ := q_qk_pos (q_q1_q0 hy)
  rw [← h] at m2
  have hq : 0 < (q_qn N R x).2 := by have := c1.2.1; have := c1.2.2.1; omega
  have e1 : x.2 = y.2 := Int.eq_of_mul_eq_mul_right (show (q_qn N R x).2 ≠ 0 by omega) (by omega)
  have e2 : q_qk R x * x.2 - x.1 = q_qk R y * y.2 - y.1 := congrArg (fun z => z.1) h
  obtain ⟨x1, x2, x3, x4, x5⟩ := hx
  obtain ⟨y1, y2, y3, y4, y5⟩ := hy
  rw [← e1] at b2 b3 e2 y3 y4
  have e3 : x.1 - y.1 = x.2 * (q_qk R x - q_qk R y) := by rw [Int.mul_sub, Int.mul_comm x.2, Int.mul_comm x.2]; omega
  have e4 : x.1 = y.1 := by
    rcases Int.lt_trichotomy (q_qk R x) (q_qk R y) with q | q | q
    · have : x.2 * (q_qk R x - q_qk R y) ≤ x.2 * (-1) := Int.mul_le_mul_of_nonneg_left (by omega) (by omega)
      omega
    · rw [q] at e3
      simp at e3
      omega
    · have : x.2 * 1 ≤ x.2 * (q_qk R x - q_qk R y) := Int.mul_le_mul_of_nonneg_left (by omega) (by omega)
      omega
  exact Prod.ext e4 e1
def q_qit (N R : Int) : Nat → Int × Int → Int × Int
  | 0, x => x
  | n + 1, x => q_qit N R n (q_qn N R x)
theorem q_qit_c1 {N R : Int} (hN : q_N N R) : ∀ (n : Nat) (x : Int × Int), q_q1 N R x → q_q1 N R (q_qit N R n x)
  | 0, _, h => h
  | n + 1, x, h => q_qit_c1 hN n _ (q_qn_c1 hN (q_q1_q0 h))
theorem q_qit_add (N R : Int) : ∀ (m n : Nat) (x : Int × Int), q_qit N R (m + n) x = q_qit N R n (q_qit N R m x)
  | 0, n, x => by rw [Nat.zero_add]; rfl
  | m + 1, n, x => by
    rw [show m + 1 + n = (m + n) + 1 by omega]
    exact q_qit_add N R m n (q_qn N R x)
theorem q_qit_inj {N R : Int} (hN : q_N N R) : ∀ (n : Nat) (x y : Int × Int), q_q1 N R x → q_q1 N R y → q_qit N R n x = q_qit N R n y → x = y
  | 0, _, _, _, _, h => h
  | n + 1, x, y, hx, hy, h => q_qn_inj hN hx hy (q_qit_inj hN n _ _ (q_qn_c1 hN (q_q1_q0 hx)) (q_qn_c1 hN (q_q1_q0 hy)) h)
/-- the period -/
theorem q_period {N R : Int} {x : Int × Int} (hN : q_N N R) (hx : q_q1 N R x) : ∃ n, 0 < n ∧ n ≤ 32768 ∧ q_qit N R n x = x ∧ ∀ m, 0 < m → m < n → q_qit N R m x ≠ x := by
  have hb : ∀ n, (q_qit N R n x).1.toNat * 256 + (q_qit N R n x).2.toNat < 32768 ∧ 0 < (q_qit N R n x).1 ∧ (q_qit N R n x).1 ≤ 100 ∧ 0 < (q_qit N R n x).2 ∧ (q_qit N R n x).2 ≤ 200 := by
    intro n
    obtain ⟨h1, h2, h3, h4, -⟩ := q_qit_c1 hN n x hx
    obtain ⟨n1, n2, -, -⟩ := hN
    omega
  obtain ⟨i, j, h1, h2, h3⟩ := q_pigeon 32768 (fun n => (q_qit N R n x).1.toNat * 256 + (q_qit N R n x).2.toNat) (fun n _ => (hb n).1)
  have h4 : q_qit N R i x = q_qit N R j x := by
    have b1 := hb i
    have b2 := hb j
    exact Prod.ext (by omega) (by omega)
  have h5 : q_qit N R i x = q_qit N R i (q_qit N R (j - i) x) := by
    rw [← q_qit_add, show j - i + i = j by omega]
    exact h4
  have h6 := q_qit_inj hN i _ _ hx (q_qit_c1 hN (j - i) x hx) h5
  obtain ⟨k, g1, g2⟩ := pk_least (fun n => 0 < n ∧ q_qit N R n x = x) ⟨j - i, by omega, h6.symm⟩
  refine ⟨k, g1.1, ?_, g1.2, fun m hm hk e => g2 m hk ⟨hm, e⟩⟩
  rcases Nat.lt_or_ge (j - i) k with q | q
  · exact absurd ⟨by omega, h6.symm⟩ (g2 (j - i) q)
  · omega
