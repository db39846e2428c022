/-! the quotients of the class -/
def q_X5 (z : q_Z) (N R : Int) (x : Int × Int) (f : q_fr) : Prop := z.2 125 0 = q_l N ∧ z.2 125 1 = q_l R ∧ z.2 125 2 = q_l x.1 ∧ z.2 125 3 = q_l x.2 ∧ z.2 125 4 = q_l (q_qk R x) ∧ z.2 125 5 = q_l f.1 ∧ z.2 125 7 = q_l f.2.1 ∧ z.2 125 6 = q_l f.2.2.1 ∧ z.2 125 8 = q_l f.2.2.2.1 ∧ z.1 125 9 = (if f.2.2.2.2 then 1 else 0)
/-- nothing but row o has changed -/
def q_only (o : Nat) (z z2 : q_Z) : Prop := ∀ n, n ≠ o → z2.1 n = z.1 n ∧ z2.2 n = z.2 n
theorem q_only_rfl (o : Nat) (z : q_Z) : q_only o z z := fun _ _ => ⟨rfl, rfl⟩
theorem q_only_trans {o : Nat} {x y z : q_Z} (h1 : q_only o x y) (h2 : q_only o y z) : q_only o x z := fun n hn => ⟨(h2 n hn).1.trans (h1 n hn).1, (h2 n hn).2.trans (h1 n hn).2⟩
theorem q_only_L {o k : Nat} {z : q_Z} {I : Nat → Nat → Int32} {L : Nat → Nat → Int64} {v : Int64} (h : q_only o z (I, L)) : q_only o z (I, q_u2 L o k v) := fun n hn => ⟨(h n hn).1, by show q_u2 L o k v n = z.2 n; rw [q_u2_ne hn]; exact (h n hn).2⟩
theorem q_only_I {o k : Nat} {z : q_Z} {I : Nat → Nat → Int32} {L : Nat → Nat → Int64} {v : Int32} (h : q_only o z (I, L)) : q_only o z (q_u2 I o k v, L) := fun n hn => ⟨by show q_u2 I o k v n = z.1 n; rw [q_u2_ne hn]; exact (h n hn).1, (h n hn).2⟩
def q_fr0 (f : q_fr) : Prop := 0 ≤ f.1 ∧ f.1 ≤ 1000000000000000000 ∧ 0 ≤ f.2.2.1 ∧ f.2.2.1 ≤ 1000000000000000000
theorem q_fr0_b {f : q_fr} (h : q_fr0 f) : q_frb f := ⟨h.1, h.2.1, by have := h.2.2.1; omega, h.2.2.2⟩
theorem q_frn_0 {k : Int} {f : q_fr} (hk : 1 ≤ k) (h : q_fr0 f) : q_fr0 (q_frn k f) := by
  obtain ⟨u, l, ub, lb, g⟩ := f
  obtain ⟨h3, h4, h5, h6⟩ := h
  simp only at h3 h4 h5 h6
  unfold q_frn
  split
  · exact ⟨h3, h4, h5, h6⟩
  · split
    · rename_i c
      simp only at c
      have := Int.mul_nonneg (show 0 ≤ k by omega) h3
      exact ⟨by show 0 ≤ k * u + ub; omega, c, h3, h4⟩
    · exact ⟨h3, h4, h5, h6⟩
theorem q_qkB {N R : Int} {x : Int × Int} (hN : q_N N R) (hx : q_q0 N R x) : 1 ≤ q_qk R x ∧ q_qk R x ≤ 200 := by
  obtain ⟨k1, k2, k3⟩ := q_qk_pos hx
  obtain ⟨x1, x2, x3, x4, x5⟩ := hx
  obtain ⟨n1, n2, n3, n4⟩ := hN
  have : q_qk R x * 1 ≤ q_qk R x * x.2 := Int.mul_le_mul_of_nonneg_left (by omega) (by omega)
  omega
theorem q_qk_l {N R : Int} {x : Int × Int} (hN : q_N N R) (hx : q_q0 N R x) : (q_l R + q_l x.1) / q_l x.2 = q_l (q_qk R x) := by
  obtain ⟨x1, x2, x3, x4, x5⟩ := hx
  obtain ⟨n1, n2, n3, n4⟩ := hN
  have e : (R + x.1).tdiv x.2 = q_qk R x := by
    rw [Int.add_comm]
    exact Int.tdiv_eq_ediv_of_nonneg (by omega)
  rw [q_l_add, q_l_div ⟨by omega, by omega⟩ ⟨by omega, by omega⟩ (q_tdivB ⟨by omega, by omega⟩ ⟨by omega, by omega⟩), e]
theorem p_X5_advance {z : q_Z} {N R : Int} {x : Int × Int} {f : q_fr} (hN : q_N N R) (hx : q_q0 N R x) (h : q_X5 z N R x f) : ∃ z2, F_X5_advance z = some ((), z2) ∧ q_X5 z2 N R (q_qn N R x) f ∧ q_only 125 z z2 := by
  have hm := q_qn_mul hx
  obtain ⟨k1, k2, k3⟩ := q_qk_pos hx
  have hc1 := q_qn_c1 hN hx
  have hkn := q_qk_l hN (q_q1_q0 hc1)
  have hx0 := hx
  obtain ⟨P, Q⟩ := x
  obtain ⟨x1, x2, x3, x4, x5⟩ := hx
  have hN0 := hN
  obtain ⟨n1, n2, n3, n4⟩ := hN
  obtain ⟨c0, c1, c2, c3, c4, c5, c7, c6, c8, c9⟩ := h
  simp only at x1 x2 x3 x4 k2 k3 hm c2 c3
  have hQ0 : ¬ q_l Q = 0 := by rw [q_l0, q_l_eq ⟨by omega, by omega⟩ (by decide)]; omega
  have hQp : (0 : Int64) < q_l Q := by rw [q_l0, q_l_lt (by decide) ⟨by omega, by omega⟩]; omega
  have eP : q_l (q_qk R (P, Q)) * q_l Q - q_l P = q_l (q_qn N R (P, Q)).1 := by rw [q_l_mul, q_l_sub]; rfl
  have hNb : N ≤ 10201 := by
    have := q_sq_le (x := R + 1) (M := 101) ⟨by omega, by omega⟩
    omega
  have hpp := q_sq_le (x := (q_qn N R (P, Q)).1) (M := R) ⟨by have := hc1.1; omega, hc1.2.1⟩
  have hp0 := q_sq_nn (q_qn N R (P, Q)).1
  have eQ : (q_l N - q_l (q_qn N R (P, Q)).1 * q_l (q_qn N R (P, Q)).1) / q_l Q = q_l (q_qn N R (P, Q)).2 := by
    have e : (N - (q_qn N R (P, Q)).1 * (q_qn N R (P, Q)).1).tdiv Q = (q_qn N R (P, Q)).2 := by
      rw [← hm]
      exact Int.mul_tdiv_cancel_left _ (by omega)
    have hB : q_B (N - (q_qn N R (P, Q)).1 * (q_qn N R (P, Q)).1) := ⟨by omega, by omega⟩
    rw [q_l_mul, q_l_sub, q_l_div hB ⟨by omega, by omega⟩ (q_tdivB hB ⟨by omega, by omega⟩), e]
  have hq2 : 0 < (q_qn N R (P, Q)).2 ∧ (q_qn N R (P, Q)).2 ≤ 200 := by
    have g1 := hc1.2.1
    have g2 := hc1.2.2.1
    have g3 := hc1.2.2.2.1
    omega
  have hn1 : ¬ q_l (q_qn N R (P, Q)).2 ≤ 0 := by rw [q_l0, q_l_le ⟨by omega, by omega⟩ (by decide)]; omega
  have hn2 : ¬ q_l (q_qn N R (P, Q)).2 = 0 := by rw [q_l0, q_l_eq ⟨by omega, by omega⟩ (by decide)]; omega
  unfold F_X5_advance
  simp only [c0, c1, c2, c3, c4, eP, eQ]
  rw [if_pos hQp, if_pos hQ0, if_neg hn1, if_pos hn2, hkn]
  refine ⟨_, rfl, ⟨c0, c1, rfl, rfl, rfl, c5, c7, c6, c8, c9⟩, ?_⟩
  exact q_only_L (q_only_L (q_only_L (q_only_rfl 125 z)))
theorem q_BIGcmp {k u ub : Int} (hk : 1 ≤ k ∧ k ≤ 200) (hf : 0 ≤ u ∧ u ≤ 1000000000000000000 ∧ 0 ≤ ub ∧ ub ≤ 1000000000000000000) : q_l u ≤ (1000000000000000000 - q_l ub) / q_l k ↔ k * u + ub ≤ 1000000000000000000 := by
  have hG : q_B (1000000000000000000 - ub) := ⟨by omega, by omega⟩
  have hdv : (1000000000000000000 - q_l ub) / q_l k = q_l ((1000000000000000000 - ub) / k) := by
    have e : (1000000000000000000 - ub).tdiv k = (1000000000000000000 - ub) / k := Int.tdiv_eq_ediv_of_nonneg (by omega)
    rw [show (1000000000000000000 : Int64) = q_l 1000000000000000000 from rfl, q_l_sub, q_l_div hG ⟨by omega, by omega⟩ (q_tdivB hG ⟨by omega, by omega⟩), e]
  have hB : q_B ((1000000000000000000 - ub) / k) := by
    have g1 := Int.ediv_le_self (b := k) (a := 1000000000000000000 - ub) (by omega)
    have g2 := Int.ediv_nonneg (a := 1000000000000000000 - ub) (b := k) (by omega) (by omega)
    constructor <;> omega
  rw [hdv, q_l_le ⟨by omega, by omega⟩ hB, Int.le_ediv_iff_mul_le (by omega), Int.mul_comm]
  omega
theorem p_X5_widen {z : q_Z} {N R : Int} {x : Int × Int} {f : q_fr} (hN : q_N N R) (hx : q_q0 N R x) (hf : q_fr0 f) (h : q_X5 z N R x f) : ∃ z2, F_X5_widenFraction z = some ((), z2) ∧ q_X5 z2 N R x (q_frn (q_qk R x) f) ∧ q_only 125 z z2 := by
  have hk := q_qkB hN hx
  obtain ⟨u, l, ub, lb, g⟩ := f
  have hf0 : 0 ≤ u ∧ u ≤ 1000000000000000000 ∧ 0 ≤ ub ∧ ub ≤ 1000000000000000000 := hf
  obtain ⟨c0, c1, c2, c3, c4, c5, c7, c6, c8, c9⟩ := h
  simp only at c5 c6 c7 c8
  unfold F_X5_widenFraction
  cases g with
  | true =>
    have c9 : z.1 125 9 = 1 := c9
    rw [if_neg (by rw [c9]; decide)]
    have ef : q_frn (q_qk R x) (u, l, ub, lb, true) = (u, l, ub, lb, true) := if_pos rfl
    rw [ef]
    exact ⟨z, rfl, ⟨c0, c1, c2, c3, c4, c5, c7, c6, c8, c9⟩, q_only_rfl 125 z⟩
  | false =>
    have c9 : z.1 125 9 = 0 := c9
    have hp : (0 : Int64) < q_l (q_qk R x) := by rw [q_l0, q_l_lt (by decide) ⟨by omega, by omega⟩]; omega
    have hk0 : ¬ q_l (q_qk R x) = 0 := by rw [q_l0, q_l_eq ⟨by omega, by omega⟩ (by decide)]; omega
    rw [if_pos c9]
    simp only [c4, c5, c6, c7, c8]
    rw [if_pos hp, if_pos hk0]
    by_cases cb : q_qk R x * u + ub ≤ 1000000000000000000
    · rw [if_pos ((q_BIGcmp hk hf0).mpr cb), q_l_mul, q_l_mul, q_l_add, q_l_add]
      have ef : q_frn (q_qk R x) (u, l, ub, lb, false) = (q_qk R x * u + ub, q_qk R x * l + lb, u, l, false) := by
        unfold q_frn
        rw [if_neg (by simp)]
        exact if_pos cb
      rw [ef]
      exact ⟨_, rfl, ⟨c0, c1, c2, c3, c4, rfl, rfl, rfl, rfl, c9⟩, q_only_L (q_only_L (q_only_L (q_only_L (q_only_rfl 125 z))))⟩
    · rw [if_neg (fun q => cb ((q_BIGcmp hk hf0).mp q))]
      have ef : q_frn (q_qk R x) (u, l, ub, lb, false) = (u, l, ub, lb, true) := by
        unfold q_frn
        rw [if_neg (by simp)]
        exact if_neg cb
      rw [ef]
      exact ⟨_, rfl, ⟨c0, c1, c2, c3, c4, c5, c7, c6, c8, rfl⟩, q_only_I (q_only_rfl 125 z)⟩
/-- begin of the class: the state (s, t), with its quotient -/
theorem p_X5_begin {z : q_Z} {N R : Int} {x : Int × Int} (hN : q_N N R) (hx : q_q0 N R x) : ∃ z2, F_X5_begin z (q_l N) (q_l x.1) (q_l x.2) = some ((), z2) ∧ q_X5 z2 N R x (q_qk R x, 1, 1, 0, false) ∧ q_only 125 z z2 := by
  have hN0 := hN
  obtain ⟨n1, n2, n3, n4⟩ := hN
  have hNb : N ≤ 10201 := by
    have := q_sq_le (x := R + 1) (M := 101) ⟨by omega, by omega⟩
    omega
  have hRR := q_sq_nn R
  obtain ⟨r, r1, r2, r3, r4, r5⟩ := p_X7_rootOf (z := (z.1, q_u2 z.2 125 0 (q_l N))) (n := N) (by omega) (by omega)
  have er : r = R := q_sqrt_uni (by omega) (by omega) r3 r4 (by omega) n4
  have hk := q_qk_l hN0 hx
  obtain ⟨P, Q⟩ := x
  obtain ⟨x1, x2, x3, x4, x5⟩ := hx
  simp only at x1 x2 x3 x4
  have hQ0 : ¬ q_l Q = 0 := by rw [q_l0, q_l_eq ⟨by omega, by omega⟩ (by decide)]; omega
  have hQp : ¬ q_l Q ≤ 0 := by rw [q_l0, q_l_le ⟨by omega, by omega⟩ (by decide)]; omega
  subst er
  unfold F_X5_begin
  rw [r5, Option.bind_some]
  dsimp only at hk ⊢
  rw [if_neg hQp, if_pos hQ0, hk]
  refine ⟨_, rfl, ⟨rfl, rfl, rfl, rfl, rfl, rfl, rfl, rfl, rfl, rfl⟩, ?_⟩
  exact q_only_I (q_only_L (q_only_L (q_only_L (q_only_L (q_only_L (q_only_L (q_only_L (q_only_L (q_only_L (q_only_rfl 125 z))))))))))
/-- fractions -/
def q_fit (N R : Int) : Nat → Int × Int → q_fr → q_fr
  | 0, _, f => f
  | n + 1, x, f => q_fit N R n (q_qn N R x) (q_frn (q_qk R x) f)
theorem q_qit_succ (N R : Int) (n : Nat) (x : Int × Int) : q_qit N R (n + 1) x = q_qn N R (q_qit N R n x) := q_qit_add N R n 1 x
theorem q_fit_succ (N R : Int) : ∀ (n : Nat) (x : Int × Int) (f : q_fr), q_fit N R (n + 1) x f = q_frn (q_qk R (q_qit N R n x)) (q_fit N R n x f)
  | 0, _, _ => rfl
  | n + 1, x, f => q_fit_succ N R n (q_qn N R x) (q_frn (q_qk R x) f)
theorem q_fit_0 {N R : Int} (hN : q_N N R) : ∀ (n : Nat) (x : Int × Int) (f : q_fr), q_q0 N R x → q_fr0 f → q_fr0 (q_fit N R n x f)
  | 0, _, _, _, h => h
  | n + 1, x, f, hx, h => q_fit_0 hN n (q_qn N R x) _ (q_q1_q0 (q_qn_c1 hN hx)) (q_frn_0 (q_qkB hN hx).1 h)
theorem q_qit_0 {N R : Int} (hN : q_N N R) (n : Nat) {x : Int × Int} (hx : q_q0 N R x) : q_q0 N R (q_qit N R n x) := by
  cases n with
  | zero => exact hx
  | succ n => exact q_q1_q0 (q_qit_c1 hN n _ (q_qn_c1 hN hx))
/-- goTo of the class -/
theorem p_X5_goTo_loop {N R : Int} (hN : q_N N R) : ∀ (r : Nat) (j K : Nat) (x : Int × Int) (f : q_fr) (z : q_Z), j + r = K → K ≤ 1000 → q_q0 N R x → q_fr0 f → q_X5 z N R x f → ∃ z2, q_lp B_X5_goTo_10 (r + 1) (q_i K, q_i j, z) = some ((q_i K, q_i K, z2), 0) ∧ q_X5 z2 N R (q_qit N R r x) (q_fit N R r (q_qn N R x) f) ∧ q_only 125 z z2 := by
  intro r
  induction r with
  | zero =>
    intro j K x f z hj hK hx hf h
    have e : j = K := by omega
    subst e
    refine ⟨z, q_lp_end ?_, h, q_only_rfl 125 z⟩
    simp only [B_X5_goTo_10]
    rw [if_pos ((q_i_le ⟨by omega, by omega⟩ ⟨by omega, by omega⟩).mpr (Int.le_refl _))]
  | succ r ih =>
    intro j K x f z hj hK hx hf h
    obtain ⟨z1, a1, a2, a3⟩ := p_X5_advance hN hx h
    have hx1 := q_q1_q0 (q_qn_c1 hN hx)
    obtain ⟨z2, b1, b2, b3⟩ := p_X5_widen hN hx1 hf a2
    obtain ⟨z3, g1, g2, g3⟩ := ih (j + 1) K (q_qn N R x) _ z2 (by omega) hK hx1 (q_frn_0 (q_qkB hN hx1).1 hf) b2
    refine ⟨z3, ?_, g2, q_only_trans a3 (q_only_trans b3 g3)⟩
    rw [← g1]
    refine q_lp_go ?_
    simp only [B_X5_goTo_10]
    rw [if_neg (by rw [q_i_le ⟨by omega, by omega⟩ ⟨by omega, by omega⟩]; omega), a1, Option.bind_some]
    dsimp only
    rw [b1, Option.bind_some, q_i1, q_i_add]
    rfl
theorem q_x00 {N R : Int} (hN : q_N N R) : q_q0 N R (0, 1) := ⟨by decide, by have := hN.1; show (0 : Int) ≤ R; omega, by decide, by have := hN.1; show (1 : Int) ≤ 0 + R; omega, ⟨N - 0 * 0, by show N - 0 * 0 = 1 * (N - 0 * 0); omega⟩⟩
theorem p_X5_goTo {z : q_Z} {N R : Int} {K : Nat} (hN : q_N N R) (hK : K ≤ 1000) : ∃ z2, F_X5_goTo z (q_l N) (q_i K) = some ((), z2) ∧ q_X5 z2 N R (q_qit N R K (0, 1)) (q_fit N R (K + 1) (0, 1) (1, 0, 0, 1, false)) ∧ q_only 125 z z2 := by
  have hx := q_x00 hN
  obtain ⟨z1, a1, a2, a3⟩ := p_X5_begin (z := z) hN hx
  have hN0 := hN
  obtain ⟨n1, n2, n3, n4⟩ := hN0
  have ek : q_qk R (0, 1) = R := by show (0 + R) / 1 = R; rw [Int.zero_add, Int.ediv_one]
  rw [ek] at a2
  obtain ⟨z2, b1, b2, b3⟩ := p_X5_goTo_loop hN K 0 K (0, 1) (R, 1, 1, 0, false) z1 (by omega) hK hx ⟨by show 0 ≤ R; omega, by show R ≤ _; omega, by show (0 : Int) ≤ 1; decide, by show (1 : Int) ≤ 1000000000000000000; decide⟩ a2
  refine ⟨z2, ?_, ?_, q_only_trans a3 b3⟩
  · unfold F_X5_goTo
    have a1 : F_X5_begin z (q_l N) 0 1 = some ((), z1) := a1
    have b1 := q_lp_mono b1 (show K + 1 ≤ q_fu by unfold q_fu; omega)
    rw [a1, Option.bind_some]
    dsimp only
    rw [show (0 : Int32) = q_i ((0 : Nat) : Int) from rfl, b1, Option.bind_some]
    rfl
  · have e : q_fit N R (K + 1) (0, 1) (1, 0, 0, 1, false) = q_fit N R K (q_qn N R (0, 1)) (R, 1, 1, 0, false) := by
      show q_fit N R K (q_qn N R (0, 1)) (q_frn (q_qk R (0, 1)) (1, 0, 0, 1, false)) = _
      rw [ek]
      have e2 : q_frn R (1, 0, 0, 1, false) = (R, 1, 1, 0, false) := by
        unfold q_frn
        rw [if_neg (by simp), if_pos (by show R * 1 + 0 ≤ 1000000000000000000; omega)]
        simp
      rw [e2]
    rw [e]
    exact b2
