/-! joined() of the class -/
theorem p_X0_joined {d R : Int} {z : q_Z} {i j : Nat} (hdc : q_dc d R) (h4 : q_d4 d) (hg : q_Cg d R z) (hT : q_TC d R z) (hi : i < q_nc2 d R) (hj : j < q_nc2 d R) : ∃ k L2, 0 ≤ k ∧ k < q_jA (q_hd d R i) (q_hd d R j) ∧ q_fits (q_jA (q_hd d R i) (q_hd d R j)) (q_jB (q_hd d R i) (q_hd d R j)) (q_jS (q_hd d R i) (q_hd d R j)) (q_jn (q_hd d R i) (q_hd d R j)) (q_hd d R j).2.2 k ∧ F_X0_joined z (q_i i) (q_i j) = some (q_i (q_kls d R (q_red d R (q_j3 d (q_hd d R i) (q_hd d R j) k))), (z.1, L2)) ∧ ∀ m, m ≠ 10 → m ≠ 11 → m ≠ 12 → L2 m = z.2 m := by
  obtain ⟨hf, ha⟩ := q_hd_LF hdc h4 hi
  obtain ⟨hg2, hb⟩ := q_hd_LF hdc h4 hj
  obtain ⟨f, ef⟩ : ∃ f, f = q_hd d R i := ⟨_, rfl⟩
  obtain ⟨g, eg⟩ : ∃ g, g = q_hd d R j := ⟨_, rfl⟩
  have cp1 := p_X0_copyHead (o := 11) hdc h4 hT hi
  have cp2 := p_X0_copyHead (z := (z.1, q_v3 z.2 11 (q_hd d R i))) (o := 12) hdc h4 hT hj
  rw [← ef] at hf ha cp1 cp2
  rw [← eg] at hg2 hb cp2
  rw [← ef, ← eg]
  obtain ⟨j1, j2, j3, j4, j5, j6, j7, j8, j9, j10, j11, j12⟩ := q_j_all hdc hf hg2 ha hb
  have bf := q_LF_b hdc hf
  have bg := q_LF_b hdc hg2
  have bc := (q_LF_G hdc hg2).2.2.2.2
  have hdb : -4000 ≤ d ∧ d ≤ 4000 := by rcases hdc with q | q <;> omega
  obtain ⟨s, hs⟩ : ∃ s, s = (f.2.1 + g.2.1) / 2 := ⟨_, rfl⟩
  obtain ⟨c0, hc0⟩ : ∃ c0 : Nat, c0 = Int.gcd f.1 g.1 := ⟨_, rfl⟩
  have he : q_je f g = (Int.gcd (c0 : Int) s : Int) := by rw [hc0, hs]; rfl
  have hc0p : 0 < (c0 : Int) ∧ (c0 : Int) ≤ 63 := by
    have h1 : c0 ∣ f.1.natAbs := by rw [hc0]; exact Nat.gcd_dvd_left _ _
    have h2 := Nat.le_of_dvd (by omega) h1
    have h3 := Nat.pos_of_dvd_of_pos h1 (by omega)
    omega
  rw [← hs] at j5
  obtain ⟨L, hL⟩ : ∃ L, L = q_v3 (q_v3 z.2 11 f) 12 g := ⟨_, rfl⟩
  obtain ⟨x0, x1, x2⟩ : L 11 0 = q_l f.1 ∧ L 11 1 = q_l f.2.1 ∧ L 11 2 = q_l f.2.2 := by
    rw [hL, q_v3_ne (by decide)]
    exact q_v3_at z.2 11 f
  obtain ⟨y0, y1, y2⟩ : L 12 0 = q_l g.1 ∧ L 12 1 = q_l g.2.1 ∧ L 12 2 = q_l g.2.2 := by
    rw [hL]
    exact q_v3_at _ 12 g
  rw [← hL] at cp2
  have hev : (2 : Int) ∣ f.2.1 + g.2.1 := by
    have e1 := q_even_b hf.1.1
    have e2 := q_even_b hg2.1.1
    omega
  have hmid : (L 11 1 + L 12 1) / 2 = q_l s := by
    have e1 : (f.2.1 + g.2.1).tdiv 2 = s := by rw [hs]; exact q_tdiv_ex hev
    rw [x1, y1, q_l_add, q_l2, q_l_div ⟨by omega, by omega⟩ (by decide) (by rw [e1]; exact ⟨by omega, by omega⟩), e1]
  have hsb : -63 ≤ s ∧ s ≤ 63 := by omega
  have cd1 := p_X7_commonDivisor (z := (z.1, L)) (x := f.1) (y := g.1) ⟨by omega, by omega⟩ ⟨by omega, by omega⟩ ⟨by omega, by omega⟩ ⟨by omega, by omega⟩
  rw [← hc0] at cd1
  have cd2 := p_X7_commonDivisor (z := (z.1, L)) (x := (c0 : Int)) (y := s) ⟨by omega, by omega⟩ ⟨by omega, by omega⟩ ⟨by omega, by omega⟩ ⟨by omega, by omega⟩
  rw [← he] at cd2
  obtain ⟨K1, f1, f2, f3⟩ := p_X7_factor (z := (z.1, L)) (m := g.1) (n := f.1) ha (by omega) ⟨by omega, by omega⟩
  obtain ⟨K2, g1, g2, g3⟩ := p_X7_factor (z := (z.1, L)) (m := s) (n := (c0 : Int)) hc0p.1 hc0p.2 ⟨by omega, by omega⟩
  have eg2 : (Int.gcd s (c0 : Int) : Int) = q_je f g := by rw [he, Int.gcd_comm]
  have eg1 : (Int.gcd g.1 f.1 : Int) = (c0 : Int) := by rw [hc0, Int.gcd_comm]
  rw [eg2] at g2
  rw [eg1] at f2
  obtain ⟨p, hp⟩ := f2
  obtain ⟨q, hq⟩ := g2
  -- ofCommon is -q
  have hqb : -5000 ≤ q ∧ q ≤ 5000 := by
    have h1 := q_mul_le (x := K2) (y := s) (M := 64) (N := 63) ⟨by omega, by omega⟩ ⟨by omega, by omega⟩ (by omega) (by omega)
    have h2 : ((c0 : Int) * q).natAbs ≤ 5000 := by omega
    rw [Int.natAbs_mul] at h2
    have h3 : 1 * q.natAbs ≤ (c0 : Int).natAbs * q.natAbs := Nat.mul_le_mul_right _ (by omega)
    omega
  have hoc : (q_l (q_je f g) - q_l K2 * q_l s) / q_l (c0 : Int) = q_l (-q) := by
    have e1 : (q_je f g - K2 * s).tdiv (c0 : Int) = -q := by
      rw [show q_je f g - K2 * s = (c0 : Int) * -q by rw [Int.mul_neg]; omega]
      exact Int.mul_tdiv_cancel_left _ (by omega)
    have h1 := q_mul_le (x := K2) (y := s) (M := 64) (N := 63) ⟨by omega, by omega⟩ ⟨by omega, by omega⟩ (by omega) (by omega)
    rw [q_l_mul, q_l_sub, q_l_div ⟨by omega, by omega⟩ ⟨by omega, by omega⟩ (by rw [e1]; exact ⟨by omega, by omega⟩), e1]
  have hlA : L 11 0 / q_l (q_je f g) = q_l (q_jA f g) := by
    have e1 : f.1.tdiv (q_je f g) = q_jA f g := by rw [Int.tdiv_eq_ediv_of_nonneg (by omega)]; rfl
    rw [x0, q_l_div ⟨by omega, by omega⟩ ⟨by omega, by omega⟩ (by rw [e1]; exact ⟨by omega, by omega⟩), e1]
  have hlB : L 12 0 / q_l (q_je f g) = q_l (q_jB f g) := by
    have e1 : g.1.tdiv (q_je f g) = q_jB f g := by rw [Int.tdiv_eq_ediv_of_nonneg (by omega)]; rfl
    rw [y0, q_l_div ⟨by omega, by omega⟩ ⟨by omega, by omega⟩ (by rw [e1]; exact ⟨by omega, by omega⟩), e1]
  obtain ⟨X, hX⟩ : ∃ X, X = -K1 * -q * (g.2.1 - s) - K2 * g.2.2 := ⟨_, rfl⟩
  have hXb : -1000000000 ≤ X ∧ X ≤ 1000000000 := by
    have h1 := q_mul_le (x := -K1) (y := -q) (M := 64) (N := 5000) ⟨by omega, by omega⟩ ⟨by omega, by omega⟩ (by omega) (by omega)
    have h2 := q_mul_le (x := -K1 * -q) (y := g.2.1 - s) (M := 320000) (N := 126) ⟨by omega, by omega⟩ ⟨by omega, by omega⟩ (by omega) (by omega)
    have h3 := q_mul_le (x := K2) (y := g.2.2) (M := 64) (N := 1000000) ⟨by omega, by omega⟩ ⟨bc.1, bc.2⟩ (by omega) (by omega)
    omega
  have k0 := Int.emod_nonneg X (show q_jA f g ≠ 0 by omega)
  have k1 := Int.emod_lt_of_pos X j8
  have fit : q_fits (q_jA f g) (q_jB f g) (q_jS f g) (q_jn f g) g.2.2 (X % q_jA f g) := by
    refine q_fits_vw (c1 := f.2.2) (v := K1 * -q) (w := K2) j12 ?_ ?_
    · refine ⟨-q * p, ?_⟩
      refine Int.eq_of_mul_eq_mul_left (show q_je f g ≠ 0 by omega) ?_
      have h1 : q_je f g * (K1 * -q * q_jB f g + K2 * q_jS f g - 1) = -q * (K1 * (q_je f g * q_jB f g)) + K2 * (q_je f g * q_jS f g) - q_je f g := by grind
      rw [h1, ← j4, ← j5]
      have h2 : q_je f g * (q_jA f g * (-q * p)) = -q * ((q_je f g * q_jA f g) * p) := by grind
      rw [h2, ← j3, ← hp]
      have h3 : -q * (K1 * g.1 - (c0 : Int)) = -q * (K1 * g.1) + (c0 : Int) * q := by grind
      rw [h3, ← hq]
      omega
    · have h1 : X = K1 * -q * q_jn f g - K2 * g.2.2 := by
        rw [hX, show g.2.1 - s = -q_jn f g by omega]
        grind
      rw [← h1]
      have h2 := Int.mul_ediv_add_emod X (q_jA f g)
      exact ⟨-(X / q_jA f g), by rw [Int.mul_neg]; omega⟩
  obtain ⟨o1, o2, o3, o4, o5⟩ := q_j3_G hdc hf hg2 ha hb fit ⟨by omega, k1⟩
  have cmp := p_X2_complete_yes (o := 11) (z := (z.1, L)) hg.1 hdb ⟨by have := o3.2.2.1.1; omega, by omega⟩ ⟨by omega, by omega⟩ o1.1 o1.2.1 o1.2.2
  rw [if_pos o2] at cmp
  have cmp : F_X2_complete 11 (z.1, L) (q_l (q_jA f g * q_jB f g)) (q_l (g.2.1 + 2 * q_jB f g * (X % q_jA f g))) = some (1, (z.1, q_v3 L 11 (q_j3 d f g (X % q_jA f g)))) := cmp
  obtain ⟨L2, b1, b2⟩ := p_X0_find (o := 11) (z := (z.1, q_v3 L 11 (q_j3 d f g (X % q_jA f g)))) hdc h4 hg hT o3 (q_v3_3 L 11 (q_j3 d f g (X % q_jA f g)))
  refine ⟨X % q_jA f g, L2, k0, k1, fit, ?_, ?_⟩
  · have n0 : ¬ q_l (c0 : Int) = (0 : Int64) := by rw [q_l0, q_l_eq ⟨by omega, by omega⟩ (by decide)]; omega
    have n1 : ¬ q_l (q_je f g) = (0 : Int64) := by rw [q_l0, q_l_eq ⟨by omega, by omega⟩ (by decide)]; omega
    have n2 : ¬ q_l (q_jA f g) = (0 : Int64) := by rw [q_l0, q_l_eq ⟨by omega, by omega⟩ (by decide)]; omega
    have earg : -q_l K1 * q_l (-q) * (L 12 1 - q_l s) - q_l K2 * L 12 2 = q_l X := by
      rw [y1, y2, q_l_neg, q_l_mul, q_l_sub, q_l_mul, q_l_mul, q_l_sub, hX]
    unfold F_X0_joined
    rw [cp1, Option.bind_some]
    dsimp only
    rw [cp2, Option.bind_some]
    dsimp only
    rw [x0, y0, cd1, Option.bind_some]
    dsimp only
    rw [hmid, cd2, Option.bind_some]
    dsimp only
    rw [if_neg n0, if_neg n1, x0, y0, f1, Option.bind_some]
    dsimp only
    rw [g1, Option.bind_some]
    dsimp only
    rw [if_pos n0, if_pos n1, if_neg (by rw [hlA]; exact n2), hlA, hlB, hoc, earg, p_J9_fml ⟨by omega, by omega⟩ ⟨by omega, by omega⟩ ⟨by omega, by omega⟩ j8, Option.bind_some]
    dsimp only
    rw [y1, q_l2, q_l_mul, q_l_mul, q_l_mul, q_l_add, cmp, Option.bind_some]
    dsimp only
    rw [if_neg (by decide), b1, Option.bind_some]
  · intro m a b c
    rw [b2 m a]
    show q_v3 L 11 (q_j3 d f g (X % q_jA f g)) m = _
    rw [q_v3_ne b, hL, q_v3_ne c, q_v3_ne b]
