/-! going round, of the class; the loops of the reference -/
theorem p_X5_round_loop {N R q : Int} (hN : q_N N R) (hq : 0 < q ∧ q ≤ 200) : ∀ (r : Nat) (j : Nat) (x : Int × Int) (f : q_fr) (z : q_Z), j + r < 100000 → q_q0 N R x → q_fr0 f → q_X5 z N R x f → (q_qit N R r x).2 = q → (∀ m, m < r → (q_qit N R m x).2 ≠ q) → ∃ z2, q_lp B_X5_goRound_15 (r + 1) (q_l q, q_i j, z) = some ((q_l q, q_i ((j + r : Nat) : Int), z2), 0) ∧ q_X5 z2 N R (q_qit N R r x) (q_fit N R r x f) ∧ q_only 125 z z2 := by
  intro r
  have tst : ∀ j : Nat, j < 100000 → ¬ (100000 : Int32) ≤ q_i j := by
    intro j hj
    rw [show (100000 : Int32) = q_i 100000 from rfl, q_i_le (by decide) ⟨by omega, by omega⟩]
    omega
  induction r with
  | zero =>
    intro j x f z hj hx hf h h1 _
    refine ⟨z, q_lp_end ?_, h, q_only_rfl 125 z⟩
    have h1 : x.2 = q := h1
    simp only [B_X5_goRound_15]
    rw [if_neg (tst j (by omega)), if_pos (by rw [h.2.2.2.1, h1])]
    rfl
  | succ r ih =>
    intro j x f z hj hx hf h h1 h2
    obtain ⟨z1, a1, a2, a3⟩ := p_X5_widen hN hx hf h
    obtain ⟨z2, b1, b2, b3⟩ := p_X5_advance hN hx a2
    have hx1 := q_q1_q0 (q_qn_c1 hN hx)
    obtain ⟨z3, g1, g2, g3⟩ := ih (j + 1) (q_qn N R x) _ z2 (by omega) hx1 (q_frn_0 (q_qkB hN hx).1 hf) b2 h1 (fun m hm => h2 (m + 1) (by omega))
    refine ⟨z3, ?_, g2, q_only_trans a3 (q_only_trans b3 g3)⟩
    rw [show j + (r + 1) = j + 1 + r by omega, ← g1]
    refine q_lp_go ?_
    have hne : x.2 ≠ q := h2 0 (by omega)
    have hxb : 0 < x.2 ∧ x.2 ≤ 200 := by
      obtain ⟨x1, x2, x3, x4, x5⟩ := hx
      obtain ⟨n1, n2, n3, n4⟩ := hN
      omega
    simp only [B_X5_goRound_15]
    rw [if_neg (tst j (by omega)), if_neg (by rw [h.2.2.2.1, q_l_eq ⟨by omega, by omega⟩ ⟨by omega, by omega⟩]; exact hne), a1, Option.bind_some]
    dsimp only
    rw [b1, Option.bind_some, q_i1, q_i_add]
    rfl
theorem p_X5_goRound {z : q_Z} {N R : Int} {x : Int × Int} {r : Nat} (hN : q_N N R) (hx : q_q0 N R x) (hr : r < 99999) (h1 : (q_qit N R r (q_qn N R x)).2 = x.2) (h2 : ∀ m, m < r → (q_qit N R m (q_qn N R x)).2 ≠ x.2) : ∃ z2, F_X5_goRound z (q_l N) (q_l x.1) (q_l x.2) = some (q_i ((r + 1 : Nat) : Int), z2) ∧ q_X5 z2 N R (q_qit N R (r + 1) x) (q_fit N R r (q_qn N R x) (q_qk R x, 1, 1, 0, false)) ∧ q_only 125 z z2 := by
  obtain ⟨z1, a1, a2, a3⟩ := p_X5_begin (z := z) hN hx
  obtain ⟨z2, b1, b2, b3⟩ := p_X5_advance hN hx a2
  have hk := q_qkB hN hx
  have hxb : 0 < x.2 ∧ x.2 ≤ 200 := by
    obtain ⟨x1, x2, x3, x4, x5⟩ := hx
    obtain ⟨n1, n2, n3, n4⟩ := hN
    omega
  obtain ⟨z3, g1, g2, g3⟩ := p_X5_round_loop hN hxb r 1 (q_qn N R x) (q_qk R x, 1, 1, 0, false) z2 (by omega) (q_q1_q0 (q_qn_c1 hN hx)) ⟨by show 0 ≤ q_qk R x; omega, by show q_qk R x ≤ _; omega, by show (0 : Int) ≤ 1; decide, by show (1 : Int) ≤ 1000000000000000000; decide⟩ b2 h1 h2
  refine ⟨z3, ?_, g2, q_only_trans a3 (q_only_trans b3 g3)⟩
  have g1 := q_lp_mono g1 (show r + 1 ≤ q_fu by unfold q_fu; omega)
  unfold F_X5_goRound T_X5_goRound_46
  rw [a1, Option.bind_some]
  dsimp only
  rw [b1, Option.bind_some]
  dsimp only
  rw [show (1 : Int32) = q_i ((1 : Nat) : Int) from rfl, g1, Option.bind_some, Nat.add_comm 1 r]
  rfl
/-! the reference -/
theorem p_X10_begin {z : q_Z} {N R P Q : Int} (hN : q_N N R) : ∃ z2, F_X10_begin z (q_l N) (q_l P) (q_l Q) = some ((), z2) ∧ q_CFm z2 N R (P, Q) (Q, 0, -P, 1, false) ∧ q_FRm z z2 := by
  obtain ⟨n1, n2, n3, n4⟩ := hN
  have hNb : N ≤ 10201 := by
    have := q_sq_le (x := R + 1) (M := 101) ⟨by omega, by omega⟩
    omega
  have hRR := q_sq_nn R
  obtain ⟨r, r1, r2, r3, r4, r5⟩ := p_X10_root0 (z := (z.1, q_u2 z.2 128 36 (q_l N))) (n := N) (by omega) ⟨by omega, by omega⟩
  have er : r = R := q_sqrt_uni (by omega) (by omega) r3 r4 (by omega) n4
  subst er
  unfold F_X10_begin
  rw [r5, Option.bind_some, q_l_neg]
  refine ⟨_, rfl, ⟨rfl, rfl, rfl, rfl, rfl, rfl, rfl, rfl, rfl⟩, ?_, ?_, ?_⟩
  · intro n hn
    refine ⟨?_, ?_⟩
    · show q_u2 z.1 128 43 0 n = z.1 n
      rw [q_u2_ne hn]
    · show q_u2 _ 128 42 _ n = z.2 n
      simp only [q_u2_ne hn]
  · intro k hk
    show q_u2 _ 128 42 _ 128 k = z.2 128 k
    rw [q_u2_at, if_neg (by omega), q_u2_at, if_neg (by omega), q_u2_at, if_neg (by omega), q_u2_at, if_neg (by omega), q_u2_at, if_neg (by omega), q_u2_at, if_neg (by omega), q_u2_at, if_neg (by omega)]
    show q_u2 z.2 128 36 (q_l N) 128 k = z.2 128 k
    rw [q_u2_at, if_neg (by omega)]
  · intro k hk
    show q_u2 z.1 128 43 0 128 k = z.1 128 k
    rw [q_u2_at, if_neg hk]
/-- a fraction with which one goes on: nothing below 0, or what unit() begins with -/
def q_frs (R : Int) (x : Int × Int) (f : q_fr) : Prop := q_frb f ∧ 0 ≤ q_qk R x * f.1 + f.2.2.1
theorem q_frs_0 {N R : Int} {x : Int × Int} {f : q_fr} (hN : q_N N R) (hx : q_q0 N R x) (h : q_fr0 f) : q_frs R x f := by
  refine ⟨q_fr0_b h, ?_⟩
  have := Int.mul_nonneg (show 0 ≤ q_qk R x by have := (q_qkB hN hx).1; omega) h.1
  have := h.2.2.1
  omega
theorem q_frn_s {k : Int} {f : q_fr} (h : q_frb f) (h2 : 0 ≤ k * f.1 + f.2.2.1) (hg : f.2.2.2.2 = false) : q_fr0 (q_frn k f) ∨ (q_frn k f).2.2.2.2 = true := by
  obtain ⟨u, l, ub, lb, g⟩ := f
  simp only at hg
  subst hg
  obtain ⟨h3, h4, h5, h6⟩ := h
  simp only at h2 h3 h4 h5 h6
  unfold q_frn
  rw [if_neg (by simp)]
  by_cases c : k * u + ub ≤ 1000000000000000000
  · rw [if_pos c]
    exact Or.inl ⟨h2, c, h3, h4⟩
  · rw [if_neg c]
    exact Or.inr rfl
theorem p_X10_quotient_loop {N R : Int} (hN : q_N N R) : ∀ (r : Nat) (j K : Nat) (x : Int × Int) (f : q_fr) (z : q_Z), j + r = K + 1 → K ≤ 1000 → q_q0 N R x → q_fr0 f → q_CFm z N R x f → ∃ z2, q_lp B_X10_quotient_47 (r + 1) (q_i K, q_i j, z) = some ((q_i K, q_i ((K + 1 : Nat) : Int), z2), 0) ∧ q_CFm z2 N R (q_qit N R r x) (q_fit N R r x f) ∧ (∀ t, r = t + 1 → z2.2 128 38 = q_l (q_qk R (q_qit N R t x))) ∧ q_FRm z z2 := by
  intro r
  induction r with
  | zero =>
    intro j K x f z hj hK hx hf h
    have e : j = K + 1 := by omega
    subst e
    refine ⟨z, q_lp_end ?_, h, fun t ht => by omega, q_FRm_rfl z⟩
    simp only [B_X10_quotient_47]
    rw [if_pos ((q_i_lt ⟨by omega, by omega⟩ ⟨by omega, by omega⟩).mpr (by omega))]
  | succ r ih =>
    intro j K x f z hj hK hx hf h
    obtain ⟨z1, a1, a2, a3, a4⟩ := p_X10_goes hN hx (q_fr0_b hf) h
    have hx1 := q_q1_q0 (q_qn_c1 hN hx)
    obtain ⟨z3, g1, g2, g3, g4⟩ := ih (j + 1) K (q_qn N R x) _ z1 (by omega) hK hx1 (q_frn_0 (q_qkB hN hx).1 hf) a2
    refine ⟨z3, ?_, g2, ?_, q_FRm_trans a4 g4⟩
    · rw [← g1]
      refine q_lp_go ?_
      simp only [B_X10_quotient_47]
      rw [if_neg (by rw [q_i_lt ⟨by omega, by omega⟩ ⟨by omega, by omega⟩]; omega), a1, Option.bind_some, q_i1, q_i_add]
      rfl
    · intro t ht
      cases r with
      | zero =>
        have e1 : q_lp B_X10_quotient_47 (0 + 1) (q_i K, q_i ((j + 1 : Nat) : Int), z1) = some ((q_i K, q_i ((j + 1 : Nat) : Int), z1), 0) := by
          refine q_lp_end ?_
          simp only [B_X10_quotient_47]
          rw [if_pos ((q_i_lt ⟨by omega, by omega⟩ ⟨by omega, by omega⟩).mpr (by omega))]
        rw [e1] at g1
        simp only [Option.some.injEq, Prod.mk.injEq] at g1
        have e2 : t = 0 := by omega
        subst e2
        rw [← g1.1.2.2]
        exact a3
      | succ r =>
        have e2 : t = r + 1 := by omega
        subst e2
        exact g3 r rfl
theorem p_X10_near_loop {N R : Int} (hN : q_N N R) (l3 : Int32) : ∀ (r : Nat) (j K : Nat) (x : Int × Int) (f : q_fr) (z : q_Z), j + r = K + 1 → K ≤ 1000 → q_q0 N R x → q_fr0 f → q_CFm z N R x f → ∃ z2, q_lp B_X10_near_44 (r + 1) (q_i K, l3, q_i j, z) = some ((q_i K, l3, q_i ((K + 1 : Nat) : Int), z2), 0) ∧ q_CFm z2 N R (q_qit N R r x) (q_fit N R r x f) ∧ q_FRm z z2 := by
  intro r
  induction r with
  | zero =>
    intro j K x f z hj hK hx hf h
    have e : j = K + 1 := by omega
    subst e
    refine ⟨z, q_lp_end ?_, h, q_FRm_rfl z⟩
    simp only [B_X10_near_44]
    rw [if_pos ((q_i_lt ⟨by omega, by omega⟩ ⟨by omega, by omega⟩).mpr (by omega))]
  | succ r ih =>
    intro j K x f z hj hK hx hf h
    obtain ⟨z1, a1, a2, a3, a4⟩ := p_X10_goes hN hx (q_fr0_b hf) h
    have hx1 := q_q1_q0 (q_qn_c1 hN hx)
    obtain ⟨z3, g1, g2, g4⟩ := ih (j + 1) K (q_qn N R x) _ z1 (by omega) hK hx1 (q_frn_0 (q_qkB hN hx).1 hf) a2
    refine ⟨z3, ?_, g2, q_FRm_trans a4 g4⟩
    rw [← g1]
    refine q_lp_go ?_
    simp only [B_X10_near_44]
    rw [if_neg (by rw [q_i_lt ⟨by omega, by omega⟩ ⟨by omega, by omega⟩]; omega), a1, Option.bind_some, q_i1, q_i_add]
    rfl
/-- the loop of period() -/
theorem p_X10_period_loop {N R : Int} {x : Int × Int} (hN : q_N N R) (hx : q_q1 N R x) {n : Nat} (hn : n ≤ 32768) (h1 : q_qit N R n x = x) (h2 : ∀ m, 0 < m → m < n → q_qit N R m x ≠ x) : ∀ (r k : Nat) (f : q_fr) (z : q_Z), k + r + 1 = n → q_fr0 f → q_CFm z N R (q_qit N R k x) f → ∃ z2 , q_lp B_X10_period_53 (r + 2) (q_l x.1, q_l x.2, q_i k, 1, z) = some ((q_l x.1, q_l x.2, q_i n, 0, z2), 0) ∧ q_FRm z z2 := by
  intro r
  have bnd : ∀ k, 0 < (q_qit N R k x).1 ∧ (q_qit N R k x).1 ≤ 100 ∧ 0 < (q_qit N R k x).2 ∧ (q_qit N R k x).2 ≤ 200 := by
    intro k
    obtain ⟨g1, g2, g3, g4, -⟩ := q_qit_c1 hN k x hx
    obtain ⟨n1, n2, -, -⟩ := hN
    omega
  have b0 : 0 < x.1 ∧ x.1 ≤ 100 ∧ 0 < x.2 ∧ x.2 ≤ 200 := bnd 0
  induction r with
  | zero =>
    intro k f z hk hf h
    have e : k + 1 = n := by omega
    obtain ⟨z1, a1, a2, a3, a4⟩ := p_X10_goes hN (q_q1_q0 (q_qit_c1 hN k x hx)) (q_fr0_b hf) h
    rw [← q_qit_succ, e, h1] at a2
    refine ⟨z1, ?_, a4⟩
    have hb : B_X10_period_53 (q_l x.1, q_l x.2, q_i k, 1, z) = some ((q_l x.1, q_l x.2, q_i n, 0, z1), 0) := by
      simp only [B_X10_period_53, T_X10_period_89, a1, Option.bind_some]
      rw [if_neg (by decide), if_pos a2.2.2.1, if_pos a2.2.2.2.1, q_i1, q_i_add, show (k : Int) + 1 = (n : Nat) by omega]
    rw [q_lp_go hb]
    refine q_lp_end ?_
    simp only [B_X10_period_53]
    rw [if_pos (by decide)]
  | succ r ih =>
    intro k f z hk hf h
    have hx0 := q_q1_q0 (q_qit_c1 hN k x hx)
    obtain ⟨z1, a1, a2, a3, a4⟩ := p_X10_goes hN hx0 (q_fr0_b hf) h
    rw [← q_qit_succ] at a2
    obtain ⟨z2, g1, g2⟩ := ih (k + 1) _ z1 (by omega) (q_frn_0 (q_qkB hN hx0).1 hf) a2
    refine ⟨z2, ?_, q_FRm_trans a4 g2⟩
    have hb : B_X10_period_53 (q_l x.1, q_l x.2, q_i k, 1, z) = some ((q_l x.1, q_l x.2, q_i ((k + 1 : Nat) : Int), 1, z1), 0) := by
      have hne := h2 (k + 1) (by omega) (by omega)
      have b1 := bnd (k + 1)
      simp only [B_X10_period_53, T_X10_period_84, T_X10_period_89, a1, Option.bind_some]
      rw [if_neg (by decide)]
      by_cases c1 : (q_qit N R (k + 1) x).1 = x.1
      · rw [if_pos (by rw [a2.2.2.1, c1]), if_neg, q_i1, q_i_add]
        · rfl
        · rw [a2.2.2.2.1, q_l_eq ⟨by omega, by omega⟩ ⟨by omega, by omega⟩]
          intro c2
          exact hne (Prod.ext c1 c2)
      · rw [if_neg, q_i1, q_i_add]
        · rfl
        · rw [a2.2.2.1, q_l_eq ⟨by omega, by omega⟩ ⟨by omega, by omega⟩]
          exact c1
    rw [q_lp_go hb]
    exact g1
