/-! period() and unit(): both go round once -/
theorem q_round {N R : Int} {y : Int × Int} (hN : q_N N R) (hy : q_q1 N R y) (hu : ∀ x, q_q1 N R x → x.2 = y.2 → x = y) : ∃ r, r < 32768 ∧ q_qit N R r (q_qn N R y) = y ∧ (∀ m, m < r → (q_qit N R m (q_qn N R y)).2 ≠ y.2) ∧ q_qit N R (r + 1) (q_qn N R y) = q_qn N R y ∧ ∀ m, 0 < m → m < r + 1 → q_qit N R m (q_qn N R y) ≠ q_qn N R y := by
  obtain ⟨n, h1, h2, h3, h4⟩ := q_period hN hy
  obtain ⟨r, rfl⟩ : ∃ r, n = r + 1 := ⟨n - 1, by omega⟩
  have hy1 := q_qn_c1 hN (q_q1_q0 hy)
  refine ⟨r, by omega, h3, ?_, ?_, ?_⟩
  · intro m hm e
    have := hu _ (q_qit_c1 hN m _ hy1) e
    exact h4 (m + 1) (by omega) (by omega) this
  · have h3 : q_qit N R r (q_qn N R y) = y := h3
    rw [q_qit_succ, h3]
  · intro m hm hm2 e
    have e1 : q_qit N R m (q_qn N R y) = q_qn N R (q_qit N R m y) := q_qit_succ N R m y
    rw [e1] at e
    exact h4 m hm hm2 (q_qn_inj hN (q_qit_c1 hN m y hy) hy e)
theorem q_per0 (N R : Int) : q_qn N R (R, 1) = q_qn N R (0, 1) := by
  have e1 : q_qk R (R, 1) = R + R := by show (R + R) / 1 = R + R; rw [Int.ediv_one]
  have e2 : q_qk R (0, 1) = R := by show (0 + R) / 1 = R; rw [Int.zero_add, Int.ediv_one]
  unfold q_qn
  rw [e1, e2]
  show ((R + R) * 1 - R, (N - ((R + R) * 1 - R) * ((R + R) * 1 - R)) / 1) = (R * 1 - 0, (N - (R * 1 - 0) * (R * 1 - 0)) / 1)
  rw [show (R + R) * 1 - R = R * 1 - 0 by omega]
/-- the number that period() answers -/
theorem p_period {N R : Int} (hN : q_N N R) : ∃ T : Int, (∀ z, ∃ z2, F_X5_goRound z (q_l N) 0 1 = some (q_i T, z2) ∧ q_only 125 z z2) ∧
    (∀ z, ∃ z1 z2 z3, F_X10_begin z (q_l N) 0 1 = some ((), z1) ∧ F_X10_goes z1 = some ((), z2) ∧ (∃ a b c, q_lp B_X10_period_53 q_fu (z2.2 128 34, z2.2 128 35, 0, 1, z2) = some ((a, b, q_i T, c, z3), 0)) ∧ q_FRm z z3) := by
  have n1 := hN.1
  have hy : q_q1 N R (R, 1) := ⟨n1, Int.le_refl _, by show R - R < 1; omega, by show 1 ≤ R + R; omega, ⟨N - R * R, by show N - R * R = 1 * (N - R * R); omega⟩⟩
  obtain ⟨r, r0, r1, r2, r3, r4⟩ := q_round hN hy (by
    intro x hx e
    obtain ⟨x1, x2, x3, x4, x5⟩ := hx
    have e : x.2 = 1 := e
    exact Prod.ext (by show x.1 = R; omega) e)
  rw [q_per0] at r1 r2 r3 r4
  refine ⟨((r + 1 : Nat) : Int), ?_, ?_⟩
  · intro z
    obtain ⟨z2, a1, a2, a3⟩ := p_X5_goRound (z := z) hN (q_x00 hN) (show r < 99999 by omega) (by rw [r1]) r2
    exact ⟨z2, a1, a3⟩
  · intro z
    obtain ⟨z1, a1, a2, a3⟩ := p_X10_begin (z := z) (P := 0) (Q := 1) hN
    have hf0 : q_fr0 ((1, 0, -0, 1, false) : q_fr) := ⟨by show (0 : Int) ≤ 1; decide, by show (1 : Int) ≤ 1000000000000000000; decide, by show (0 : Int) ≤ -0; decide, by show (-0 : Int) ≤ 1000000000000000000; decide⟩
    obtain ⟨z2, b1, b2, b3, b4⟩ := p_X10_goes hN (q_x00 hN) (q_fr0_b hf0) a2
    obtain ⟨z3, c1, c2⟩ := p_X10_period_loop hN (q_qn_c1 hN (q_x00 hN)) (n := r + 1) (by omega) r3 r4 r 0 _ z2 (by omega) (q_frn_0 (q_qkB hN (q_x00 hN)).1 hf0) b2
    refine ⟨z1, z2, z3, a1, b1, ⟨q_l (q_qn N R (0, 1)).1, q_l (q_qn N R (0, 1)).2, 0, ?_⟩, q_FRm_trans a3 (q_FRm_trans b4 c2)⟩
    have h := q_lp_mono c1 (show r + 2 ≤ q_fu by unfold q_fu; omega)
    rw [b2.2.2.1, b2.2.2.2.1]
    exact h
/-! unit() -/
/-- the fractions of both: those of the class, and of the reference -/
def q_urel (s : Int) (f g : q_fr) : Prop :=
  0 ≤ s * f.2.2.2.1 ∧ s * f.2.2.2.1 ≤ f.2.2.1 ∧ 0 ≤ s * f.2.1 ∧ s * f.2.1 ≤ f.1 ∧
  ((f.2.2.2.2 = false ∧ g.2.2.2.2 = false ∧ g.1 = 2 * f.1 - s * f.2.1 ∧ g.2.1 = f.2.1 ∧ g.2.2.1 = 2 * f.2.2.1 - s * f.2.2.2.1 ∧ g.2.2.2.1 = f.2.2.2.1 ∧ g.1 ≤ 1000000000000000000) ∨
   (g.2.2.2.2 = true ∧ (f.2.2.2.2 = true ∨ 1000000000000000000 < 2 * f.1 - s * f.2.1)))
theorem q_frn_f (k u l ub lb : Int) : q_frn k (u, l, ub, lb, false) = if k * u + ub ≤ 1000000000000000000 then (k * u + ub, k * l + lb, u, l, false) else (u, l, ub, lb, true) := by
  unfold q_frn
  rw [if_neg (by simp)]
theorem q_frn_t (k u l ub lb : Int) : q_frn k (u, l, ub, lb, true) = (u, l, ub, lb, true) := by
  unfold q_frn
  rw [if_pos (by simp)]
theorem q_urel_n {s k : Int} {f g : q_fr} (hk : 1 ≤ k) (h : q_urel s f g) : q_urel s (q_frn k f) (q_frn k g) := by
  obtain ⟨u, l, ub, lb, fb⟩ := f
  obtain ⟨gu, gl, gub, glb, gb⟩ := g
  obtain ⟨h1, h2, h3, h4, h5⟩ := h
  simp only at h1 h2 h3 h4 h5
  have m1 : k * (s * l) ≤ k * u := Int.mul_le_mul_of_nonneg_left h4 (by omega)
  have m2 : 0 ≤ k * (s * l) := Int.mul_nonneg (by omega) h3
  have e1 : s * (k * l + lb) = k * (s * l) + s * lb := by grind
  have m3 : 1 * (2 * u - s * l) ≤ k * (2 * u - s * l) := Int.mul_le_mul_of_nonneg_right hk (by omega)
  have e2 : k * (2 * u - s * l) = 2 * (k * u) - k * (s * l) := by grind
  rcases h5 with ⟨a1, a2, a3, a4, a5, a6, a7⟩ | ⟨a1, a2⟩
  · subst a1
    subst a2
    subst a3
    subst a5
    have a4 := a4.symm
    have a6 := a6.symm
    subst a4
    subst a6
    rw [q_frn_f, q_frn_f]
    by_cases c : k * (2 * u - s * l) + (2 * ub - s * lb) ≤ 1000000000000000000
    · rw [if_pos c, if_pos (by omega)]
      refine ⟨h3, h4, by show 0 ≤ s * (k * l + lb); omega, by show s * (k * l + lb) ≤ k * u + ub; omega, Or.inl ⟨rfl, rfl, ?_, rfl, rfl, rfl, c⟩⟩
      show k * (2 * u - s * l) + (2 * ub - s * lb) = 2 * (k * u + ub) - s * (k * l + lb)
      omega
    · rw [if_neg c]
      by_cases c2 : k * u + ub ≤ 1000000000000000000
      · rw [if_pos c2]
        refine ⟨h3, h4, by show 0 ≤ s * (k * l + lb); omega, by show s * (k * l + lb) ≤ k * u + ub; omega, Or.inr ⟨rfl, Or.inr ?_⟩⟩
        show 1000000000000000000 < 2 * (k * u + ub) - s * (k * l + lb)
        omega
      · rw [if_neg c2]
        exact ⟨h1, h2, h3, h4, Or.inr ⟨rfl, Or.inl rfl⟩⟩
  · subst a1
    have eg : (q_frn k (gu, gl, gub, glb, true)).2.2.2.2 = true := by unfold q_frn; rw [if_pos (by simp)]
    cases fb with
    | true =>
      have ef : q_frn k (u, l, ub, lb, true) = (u, l, ub, lb, true) := by unfold q_frn; rw [if_pos (by simp)]
      rw [ef]
      exact ⟨h1, h2, h3, h4, Or.inr ⟨eg, Or.inl rfl⟩⟩
    | false =>
      have a2 : 1000000000000000000 < 2 * u - s * l := by
        rcases a2 with a2 | a2
        · exact absurd a2 (by simp)
        · exact a2
      by_cases c2 : k * u + ub ≤ 1000000000000000000
      · have ef : q_frn k (u, l, ub, lb, false) = (k * u + ub, k * l + lb, u, l, false) := by unfold q_frn; rw [if_neg (by simp)]; exact if_pos c2
        rw [ef]
        refine ⟨h3, h4, by show 0 ≤ s * (k * l + lb); omega, by show s * (k * l + lb) ≤ k * u + ub; omega, Or.inr ⟨eg, Or.inr ?_⟩⟩
        show 1000000000000000000 < 2 * (k * u + ub) - s * (k * l + lb)
        omega
      · have ef : q_frn k (u, l, ub, lb, false) = (u, l, ub, lb, true) := by unfold q_frn; rw [if_neg (by simp)]; exact if_neg c2
        rw [ef]
        exact ⟨h1, h2, h3, h4, Or.inr ⟨eg, Or.inl rfl⟩⟩
theorem q_urel_it {N R s : Int} (hN : q_N N R) : ∀ (n : Nat) (x : Int × Int) (f g : q_fr), q_q0 N R x → q_urel s f g → q_urel s (q_fit N R n x f) (q_fit N R n x g)
  | 0, _, _, _, _, h => h
  | n + 1, x, f, g, hx, h => q_urel_it hN n (q_qn N R x) _ _ (q_q1_q0 (q_qn_c1 hN hx)) (q_urel_n (q_qkB hN hx).1 h)
theorem p_X10_unit_loop {N R : Int} (hN : q_N N R) (w : Int32) : ∀ (r : Nat) (j : Nat) (x : Int × Int) (f : q_fr) (z : q_Z), q_q0 N R x → q_frb f → q_fr0 (q_frn (q_qk R x) f) → q_CFm z N R x f → (q_qit N R (r + 1) x).2 = 2 → (∀ m, m < r → (q_qit N R (m + 1) x).2 ≠ 2) → ∃ z2 e, q_lp B_X10_unit_62 (r + 2) (w, q_i ((j % 2 : Nat) : Int), 1, z) = some ((w, q_i (((j + r + 1) % 2 : Nat) : Int), e, z2), 0) ∧ q_CFm z2 N R (q_qit N R (r + 1) x) (q_fit N R (r + 1) x f) ∧ q_FRm z z2 := by
  have step : ∀ (j : Nat) (z z1 : q_Z), F_X10_goes z = some ((), z1) → B_X10_unit_62 (w, q_i ((j % 2 : Nat) : Int), 1, z) = T_X10_unit_79 z1 w (q_i (((j + 1) % 2 : Nat) : Int)) := by
    intro j z z1 h
    simp only [B_X10_unit_62]
    rw [if_neg (by decide), h, Option.bind_some]
    rcases Nat.mod_two_eq_zero_or_one j with c | c
    · rw [c, show (j + 1) % 2 = 1 by omega, if_pos (by decide)]
      rfl
    · rw [c, show (j + 1) % 2 = 0 by omega, if_neg (by decide)]
      rfl
  intro r
  induction r with
  | zero =>
    intro j x f z hx hf hf1 h h1 _
    obtain ⟨z1, a1, a2, a3, a4⟩ := p_X10_goes hN hx hf h
    refine ⟨z1, 0, ?_, a2, a4⟩
    have h1 : (q_qn N R x).2 = 2 := h1
    have hb : B_X10_unit_62 (w, q_i ((j % 2 : Nat) : Int), 1, z) = some ((w, q_i (((j + 0 + 1) % 2 : Nat) : Int), 0, z1), 0) := by
      rw [step j z z1 a1]
      unfold T_X10_unit_79 T_X10_unit_96
      rw [if_pos (by rw [a2.2.2.2.1, h1]; rfl)]
    rw [q_lp_go hb]
    refine q_lp_end ?_
    simp only [B_X10_unit_62]
    rw [if_pos (by decide)]
  | succ r ih =>
    intro j x f z hx hf hf1 h h1 h2
    obtain ⟨z1, a1, a2, a3, a4⟩ := p_X10_goes hN hx hf h
    have hx1 := q_q1_q0 (q_qn_c1 hN hx)
    obtain ⟨z2, e, g1, g2, g3⟩ := ih (j + 1) (q_qn N R x) _ z1 hx1 (q_fr0_b hf1) (q_frn_0 (q_qkB hN hx1).1 hf1) a2 h1 (fun m hm => h2 (m + 1) (by omega))
    refine ⟨z2, e, ?_, g2, q_FRm_trans a4 g3⟩
    have hne : (q_qn N R x).2 ≠ 2 := h2 0 (by omega)
    have hxb : 0 < (q_qn N R x).2 ∧ (q_qn N R x).2 ≤ 200 := by
      obtain ⟨x1, x2, x3, x4, x5⟩ := hx1
      obtain ⟨n1, n2, n3, n4⟩ := hN
      omega
    have hb : B_X10_unit_62 (w, q_i ((j % 2 : Nat) : Int), 1, z) = some ((w, q_i (((j + 1) % 2 : Nat) : Int), 1, z1), 0) := by
      rw [step j z z1 a1]
      unfold T_X10_unit_79 T_X10_unit_96
      rw [if_neg (by rw [a2.2.2.2.1, q_l2, q_l_eq ⟨by omega, by omega⟩ (by decide)]; exact hne)]
    rw [q_lp_go hb, show j + (r + 1) + 1 = j + 1 + r + 1 by omega]
    exact g1
theorem q_i_and1 (x : Int) : q_i x &&& 1 = q_i (x % 2) := by
  apply Int32.toBitVec_inj.mp
  apply BitVec.eq_of_toNat_eq
  rw [Int32.toBitVec_and, BitVec.toNat_and]
  show (BitVec.ofInt 32 x).toNat &&& 1 = (BitVec.ofInt 32 (x % 2)).toNat
  rw [Nat.and_one_is_mod, BitVec.toNat_ofInt, BitVec.toNat_ofInt]
  omega
/-- where the class begins -/
def q_us (d R : Int) : Int := R - (R - d) % 2
theorem q_us_b {d R : Int} (hdc : q_dc d R) (hp : 0 < d) (h4 : d % 4 ≤ 1) : q_N d R ∧ 2 ≤ R ∧ R - 1 ≤ q_us d R ∧ q_us d R ≤ R ∧ (q_us d R - d) % 2 = 0 := by
  have hR := q_dc_R hdc
  rcases hdc with hd | ⟨g1, g2, g3, g4, g5⟩
  · omega
  · refine ⟨⟨g3, by omega, g4, g5⟩, ?_, ?_, ?_, ?_⟩
    · rcases Int.lt_or_le 1 R with c | c
      · omega
      · have e : R = 1 := by omega
        subst e
        omega
    · unfold q_us; omega
    · unfold q_us; omega
    · unfold q_us; omega
theorem q_even_sq {d x : Int} (h : (x - d) % 2 = 0) : (2 : Int) ∣ (d - x * x) := by
  have e : d - x * x = (d - x) - x * (x - 1) := by grind
  have h1 : (2 : Int) ∣ d - x := by omega
  have h2 : (2 : Int) ∣ x * (x - 1) := by
    rcases (show x % 2 = 0 ∨ x % 2 = 1 by omega) with c | c
    · exact Int.dvd_mul_of_dvd_left (by omega)
    · exact Int.dvd_mul_of_dvd_right (by omega)
  rw [e]
  exact Int.dvd_sub h1 h2
theorem q_sq_even {d x : Int} (h : (2 : Int) ∣ (d - x * x)) : (x - d) % 2 = 0 := by
  have e : d - x = (d - x * x) + x * (x - 1) := by grind
  have h2 : (2 : Int) ∣ x * (x - 1) := by
    rcases (show x % 2 = 0 ∨ x % 2 = 1 by omega) with c | c
    · exact Int.dvd_mul_of_dvd_left (by omega)
    · exact Int.dvd_mul_of_dvd_right (by omega)
  have h3 : (2 : Int) ∣ d - x := by rw [e]; exact Int.dvd_add h h2
  omega
theorem p_unit {d R : Int} (hdc : q_dc d R) (hp : 0 < d) (h4 : d % 4 ≤ 1) : ∃ (big : Bool) (t u v : Int64),
    (∀ (z : q_Z) (x : Int), z.1 4 0 = q_i d → z.1 4 1 = q_i R → 0 ≤ x → x ≤ 2 → ∃ z2, F_X9_unit z (q_i x) = some (if big then -1 else if x = 0 then t else if x = 1 then u else v, (q_u2 z2.1 1 9 (if big then 6 else 0), z2.2)) ∧ q_only 125 z z2) ∧
    (∀ (z : q_Z) (x : Int), z.1 128 0 = q_i d → 0 ≤ x → x ≤ 2 → ∃ z2, F_X10_unit z (q_i x) = some (if big then -1 else if x = 0 then t else if x = 1 then u else v, (q_u2 z2.1 128 2 (if big then 6 else 0), z2.2)) ∧ q_FRm (q_u2 z.1 128 3 0, z.2) z2) := by
  obtain ⟨hN, hR2, s1, s2, s3⟩ := q_us_b hdc hp h4
  have hdb : -4000 ≤ d ∧ d ≤ 4000 := by rcases hdc with q | q <;> omega
  have hR := q_dc_R hdc
  obtain ⟨s, hs⟩ : ∃ s, s = q_us d R := ⟨_, rfl⟩
  rw [← hs] at s1 s2 s3
  have hy : q_q1 d R (s, 2) := ⟨by show 0 < s; omega, s2, by show R - s < 2; omega, by show 2 ≤ R + s; omega, q_even_sq s3⟩
  obtain ⟨r, r0, r1, r2, r3, r4⟩ := q_round hN hy (by
    intro x hx e
    obtain ⟨x1, x2, x3, x4, x5⟩ := hx
    have e : x.2 = 2 := e
    rw [e] at x5
    have := q_sq_even x5
    exact Prod.ext (by show x.1 = s; omega) e)
  have ek : q_qk R (s, 2) = s := by show (s + R) / 2 = s; omega
  obtain ⟨e, he, e0, e1⟩ : ∃ e, e = d % 2 ∧ 0 ≤ e ∧ e ≤ 1 := ⟨d % 2, rfl, by omega, by omega⟩
  have hx0 : q_q0 d R (e, 2) := ⟨e0, by show e ≤ R; omega, by show (0 : Int) < 2; decide, by show 2 ≤ e + R; omega, q_even_sq (by omega)⟩
  have ek2 : q_qk R (e, 2) * 2 - e = s := by show (e + R) / 2 * 2 - e = s; omega
  have en : q_qn d R (e, 2) = q_qn d R (s, 2) := by
    unfold q_qn
    rw [ek]
    show (q_qk R (e, 2) * 2 - e, (d - (q_qk R (e, 2) * 2 - e) * (q_qk R (e, 2) * 2 - e)) / 2) = (s * 2 - s, (d - (s * 2 - s) * (s * 2 - s)) / 2)
    rw [ek2, show s * 2 - s = s by omega]
  have g1 : q_frn (q_qk R (e, 2)) (2, 0, -e, 1, false) = (s, 1, 2, 0, false) := by
    unfold q_frn
    rw [if_neg (by simp), if_pos (by show q_qk R (e, 2) * 2 + -e ≤ 1000000000000000000; omega)]
    show (q_qk R (e, 2) * 2 + -e, q_qk R (e, 2) * 0 + 1, 2, 0, false) = _
    rw [show q_qk R (e, 2) * 2 + -e = s by omega, Int.mul_zero]
    rfl
  have hx1 := q_q1_q0 (q_qn_c1 hN (q_q1_q0 hy))
  have hu := q_urel_it hN (s := s) r (q_qn d R (s, 2)) (s, 1, 1, 0, false) (s, 1, 2, 0, false) hx1 ⟨by show 0 ≤ s * 0; omega, by show s * 0 ≤ 1; omega, by show 0 ≤ s * 1; omega, by show s * 1 ≤ s; omega, Or.inl ⟨rfl, rfl, by show s = 2 * s - s * 1; omega, rfl, by show (2 : Int) = 2 * 1 - s * 0; omega, rfl, by show s ≤ _; omega⟩⟩
  have hf0 := q_fit_0 hN r (q_qn d R (s, 2)) (s, 1, 1, 0, false) hx1 ⟨by show 0 ≤ s; omega, by show s ≤ _; omega, by show (0 : Int) ≤ 1; decide, by show (1 : Int) ≤ 1000000000000000000; decide⟩
  have hg0 : q_fr0 (s, 1, 2, 0, false) := ⟨by show 0 ≤ s; omega, by show s ≤ _; omega, by show (0 : Int) ≤ 2; decide, by show (2 : Int) ≤ 1000000000000000000; decide⟩
  obtain ⟨f, hf⟩ : ∃ f, f = q_fit d R r (q_qn d R (s, 2)) (s, 1, 1, 0, false) := ⟨_, rfl⟩
  obtain ⟨g, hg⟩ : ∃ g, g = q_fit d R r (q_qn d R (s, 2)) (s, 1, 2, 0, false) := ⟨_, rfl⟩
  rw [← hf] at hu hf0
  rw [← hg] at hu
  refine ⟨g.2.2.2.2, q_l g.1, q_l g.2.1, if (r + 1) % 2 = 0 then 4 else -4, ?_, ?_⟩
  · intro z x c1 c2 x0 x2
    obtain ⟨z2, a1, a2, a3⟩ := p_X5_goRound (z := z) hN (q_q1_q0 hy) (show r < 99999 by omega) (by rw [r1]) r2
    rw [ek, ← hf] at a2
    refine ⟨z2, ?_, a3⟩
    have es : Int32.toInt64 ((z.1 4 1) - (((z.1 4 1) - (z.1 4 0)) &&& 1)) = q_l s := by
      rw [c1, c2, q_i_sub, q_i_and1, q_i_sub, q_l_i ⟨by omega, by omega⟩, hs]
      rfl
    unfold F_X9_unit
    rw [es, c1, q_l_i ⟨by omega, by omega⟩, if_pos (by rw [q_i0, q_i_le (by decide) ⟨by omega, by omega⟩]; omega), if_neg (by rw [q_i0, q_i_lt ⟨by omega, by omega⟩ (by decide)]; omega), if_pos (by rw [show (2 : Int32) = q_i 2 from rfl, q_i_le ⟨by omega, by omega⟩ (by decide)]; omega)]
    have a1 : F_X5_goRound z (q_l d) (q_l s) 2 = some (q_i ((r + 1 : Nat) : Int), z2) := a1
    rw [a1, Option.bind_some]
    dsimp only
    have esg : (q_i ((r + 1 : Nat) : Int) - q_i ((r + 1 : Nat) : Int) / 2 * 2 = (0 : Int32)) ↔ (r + 1) % 2 = 0 := by
      rw [show (2 : Int32) = q_i 2 from rfl, q_i_rem ⟨by omega, by omega⟩ (by decide) (by rw [Int.tdiv_eq_ediv_of_nonneg (by omega)]; constructor <;> omega), q_i0, Int.tmod_eq_emod_of_nonneg (by omega), q_i_eq ⟨by omega, by omega⟩ (by decide)]
      omega
    have et : 2 * z2.2 125 5 - q_l s * z2.2 125 7 = q_l (2 * f.1 - s * f.2.1) := by
      rw [a2.2.2.2.2.2.1, a2.2.2.2.2.2.2.1, q_l2, q_l_mul, q_l_mul, q_l_sub]
    rw [et]
    have eb := a2.2.2.2.2.2.2.2.2.2
    obtain ⟨u1, u2, u3, u4, u5⟩ := hu
    have hB : q_B (2 * f.1 - s * f.2.1) := by
      have := hf0.2.1
      have := hf0.1
      constructor <;> omega
    rcases u5 with ⟨w1, w2, w3, w4, w5, w6, w7⟩ | ⟨w1, w2⟩
    · rw [w1] at eb
      rw [if_pos (show _ = (0 : Int32) from eb), if_pos (by rw [show (1000000000000000000 : Int64) = q_l 1000000000000000000 from rfl, q_l_le hB (by decide)]; omega), w2, a2.2.2.2.2.2.2.1, ← w3, ← w4]
      have hx : x = 0 ∨ x = 1 ∨ x = 2 := by omega
      rcases hx with hx | hx | hx
      · subst hx
        rfl
      · subst hx
        rfl
      · subst hx
        rw [if_neg (by decide), if_neg (by decide)]
        by_cases c : (r + 1) % 2 = 0
        · rw [if_pos (esg.mpr c), if_pos c]
          rfl
        · rw [if_neg (fun q => c (esg.mp q)), if_neg c]
          rfl
    · rw [w1]
      unfold T_X9_unit_123 F_X9_refuse
      rcases w2 with w2 | w2
      · rw [w2] at eb
        rw [if_neg (by rw [eb]; decide)]
        rfl
      · by_cases cf : f.2.2.2.2 = true
        · rw [cf] at eb
          rw [if_neg (by rw [eb]; decide)]
          rfl
        · have cf : f.2.2.2.2 = false := by simpa using cf
          rw [cf] at eb
          rw [if_pos (show _ = (0 : Int32) from eb), if_neg (by rw [show (1000000000000000000 : Int64) = q_l 1000000000000000000 from rfl, q_l_le hB (by decide)]; omega)]
          rfl
  · intro z x c1 x0 x2
    obtain ⟨z1, a1, a2, a3⟩ := p_X10_begin (z := (q_u2 z.1 128 3 0, z.2)) (P := e) (Q := 2) hN
    obtain ⟨z2, e2, b1, b2, b3⟩ := p_X10_unit_loop hN (q_i x) r 0 (e, 2) (2, 0, -e, 1, false) z1 hx0 ⟨by show (0 : Int) ≤ 2; decide, by show (2 : Int) ≤ 1000000000000000000; decide, by show -1 ≤ -e; omega, by show -e ≤ 1000000000000000000; omega⟩ (by rw [g1]; exact hg0) a2 (by show (q_qit d R r (q_qn d R (e, 2))).2 = 2; rw [en, r1]) (by intro m hm; show (q_qit d R m (q_qn d R (e, 2))).2 ≠ 2; rw [en]; exact r2 m hm)
    have eg : q_fit d R (r + 1) (e, 2) (2, 0, -e, 1, false) = g := by
      show q_fit d R r (q_qn d R (e, 2)) (q_frn (q_qk R (e, 2)) (2, 0, -e, 1, false)) = g
      rw [en, g1, hg]
    rw [eg] at b2
    have b1 := q_lp_mono b1 (show r + 2 ≤ q_fu by unfold q_fu; omega)
    refine ⟨z2, ?_, q_FRm_trans a3 b3⟩
    have er : q_i d - q_i d / 2 * 2 = q_i e := by
      rw [show (2 : Int32) = q_i 2 from rfl, q_i_rem ⟨by omega, by omega⟩ (by decide) (by rw [Int.tdiv_eq_ediv_of_nonneg (by omega)]; constructor <;> omega), Int.tmod_eq_emod_of_nonneg (by omega), he]
    unfold F_X10_unit
    have hin := p_X10_in (z := (q_u2 z.1 128 3 0, z.2)) (x := x) (a := 0) (c := 2) ⟨by omega, by omega⟩ (by decide) (by decide)
    rw [if_pos (show 0 ≤ x ∧ x ≤ 2 by omega)] at hin
    rw [c1, if_pos (by rw [q_i0, q_i_le (by decide) ⟨by omega, by omega⟩]; omega), q_l_i ⟨by omega, by omega⟩]
    have hin : F_X10_in (q_u2 z.1 128 3 0, z.2) (q_l x) 0 2 = some (1, (q_u2 z.1 128 3 0, z.2)) := hin
    rw [hin, Option.bind_some]
    dsimp only
    have c1' : q_u2 z.1 128 3 0 128 0 = q_i d := c1
    rw [if_neg (by decide), c1', er, q_l_i ⟨by omega, by omega⟩, q_l_i ⟨by omega, by omega⟩]
    have a1 : F_X10_begin (q_u2 z.1 128 3 0, z.2) (q_l d) (q_l e) 2 = some ((), z1) := a1
    rw [a1, Option.bind_some]
    dsimp only
    have b1 : q_lp B_X10_unit_62 q_fu (q_i x, 0, 1, z1) = some ((q_i x, q_i (((0 + r + 1) % 2 : Nat) : Int), e2, z2), 0) := b1
    rw [b1, Option.bind_some]
    dsimp only
    rw [if_pos rfl, b2.2.2.2.2.1, b2.2.2.2.2.2.1]
    have eb := b2.2.2.2.2.2.2.2.2
    by_cases cb : g.2.2.2.2 = true
    · rw [cb] at eb ⊢
      rw [if_neg (by rw [eb]; decide)]
      rfl
    · have cb : g.2.2.2.2 = false := by simpa using cb
      rw [cb] at eb ⊢
      rw [if_pos (show _ = (0 : Int32) from eb)]
      have hx : x = 0 ∨ x = 1 ∨ x = 2 := by omega
      rcases hx with hx | hx | hx
      · subst hx
        rfl
      · subst hx
        rfl
      · subst hx
        rw [if_neg (by decide), if_neg (by decide), show 0 + r + 1 = r + 1 by omega]
        rcases Nat.mod_two_eq_zero_or_one (r + 1) with c | c
        · rw [c, if_pos (by decide)]
          rfl
        · rw [c, if_neg (by decide)]
          rfl
