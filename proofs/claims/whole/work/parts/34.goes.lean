/-! goes() of the reference -/
/-- the fraction: upper, lower, those before, whether it is BIG -/
abbrev q_fr : Type := Int × Int × Int × Int × Bool
def q_frn (k : Int) (f : q_fr) : q_fr := if f.2.2.2.2 then f else if k * f.1 + f.2.2.1 ≤ 1000000000000000000 then (k * f.1 + f.2.2.1, k * f.2.1 + f.2.2.2.1, f.1, f.2.1, false) else (f.1, f.2.1, f.2.2.1, f.2.2.2.1, true)
def q_frb (f : q_fr) : Prop := 0 ≤ f.1 ∧ f.1 ≤ 1000000000000000000 ∧ -1 ≤ f.2.2.1 ∧ f.2.2.1 ≤ 1000000000000000000
theorem q_frn_b {k : Int} {f : q_fr} (hk : 1 ≤ k) (h : q_frb f) (h2 : 0 ≤ k * f.1 + f.2.2.1) : q_frb (q_frn k f) := by
  obtain ⟨u, l, ub, lb, g⟩ := f
  obtain ⟨h3, h4, h5, h6⟩ := h
  simp only at h2 h3 h4 h5 h6
  unfold q_frn
  split
  · exact ⟨h3, h4, h5, h6⟩
  · split
    · rename_i c
      simp only at c
      exact ⟨h2, c, by show -1 ≤ u; omega, h4⟩
    · exact ⟨h3, h4, h5, h6⟩
def q_CFm (z : q_Z) (N R : Int) (x : Int × Int) (f : q_fr) : Prop := z.2 128 36 = q_l N ∧ z.2 128 37 = q_l R ∧ z.2 128 34 = q_l x.1 ∧ z.2 128 35 = q_l x.2 ∧ z.2 128 39 = q_l f.1 ∧ z.2 128 40 = q_l f.2.1 ∧ z.2 128 41 = q_l f.2.2.1 ∧ z.2 128 42 = q_l f.2.2.2.1 ∧ z.1 128 43 = (if f.2.2.2.2 then 1 else 0)
/-- nothing but the reference's quotients has changed -/
def q_FRm (z z2 : q_Z) : Prop := (∀ n, n ≠ 128 → z2.1 n = z.1 n ∧ z2.2 n = z.2 n) ∧ (∀ k, k < 34 → z2.2 128 k = z.2 128 k) ∧ ∀ k, k ≠ 43 → z2.1 128 k = z.1 128 k
theorem q_FRm_rfl (z : q_Z) : q_FRm z z := ⟨fun _ _ => ⟨rfl, rfl⟩, fun _ _ => rfl, fun _ _ => rfl⟩
theorem q_FRm_trans {x y z : q_Z} (h1 : q_FRm x y) (h2 : q_FRm y z) : q_FRm x z := ⟨fun n hn => ⟨(h2.1 n hn).1.trans (h1.1 n hn).1, (h2.1 n hn).2.trans (h1.1 n hn).2⟩, fun k hk => (h2.2.1 k hk).trans (h1.2.1 k hk), fun k hk => (h2.2.2 k hk).trans (h1.2.2 k hk)⟩
theorem p_X10_goes {z : q_Z} {N R : Int} {x : Int × Int} {f : q_fr} (hN : q_N N R) (hx : q_q0 N R x) (hf : q_frb f) (h : q_CFm z N R x f) : ∃ z2, F_X10_goes z = some ((), z2) ∧ q_CFm z2 N R (q_qn N R x) (q_frn (q_qk R x) f) ∧ z2.2 128 38 = q_l (q_qk R x) ∧ q_FRm z z2 := by
  have hm := q_qn_mul hx
  obtain ⟨k1, k2, k3⟩ := q_qk_pos hx
  have hc1 := q_qn_c1 hN hx
  obtain ⟨P, Q⟩ := x
  obtain ⟨u, l, ub, lb, g⟩ := f
  obtain ⟨x1, x2, x3, x4, x5⟩ := hx
  obtain ⟨n1, n2, n3, n4⟩ := hN
  obtain ⟨f1, f2, f3, f4⟩ := hf
  obtain ⟨c1, c2, c3, c4, c5, c6, c7, c8, c9⟩ := h
  simp only at x1 x2 x3 x4 f1 f2 f3 f4 c3 c4 c5 c6 c7 c8 c9 k2 k3 hm
  have hQ0 : ¬ q_l Q = 0 := by rw [q_l0, q_l_eq ⟨by omega, by omega⟩ (by decide)]; omega
  have hkq : (q_l P + q_l R) / q_l Q = q_l (q_qk R (P, Q)) := by
    have e : (P + R).tdiv Q = q_qk R (P, Q) := Int.tdiv_eq_ediv_of_nonneg (by omega)
    rw [q_l_add, q_l_div ⟨by omega, by omega⟩ ⟨by omega, by omega⟩ (q_tdivB ⟨by omega, by omega⟩ ⟨by omega, by omega⟩), e]
  have kb : q_qk R (P, Q) ≤ 200 := by
    have : q_qk R (P, Q) * 1 ≤ q_qk R (P, Q) * Q := Int.mul_le_mul_of_nonneg_left (by omega) (by omega)
    omega
  have hk0 : ¬ q_l (q_qk R (P, Q)) = 0 := by rw [q_l0, q_l_eq ⟨by omega, by omega⟩ (by decide)]; omega
  have eP : q_l (q_qk R (P, Q)) * q_l Q - q_l P = q_l (q_qn N R (P, Q)).1 := by rw [q_l_mul, q_l_sub]; rfl
  have hNb : N ≤ 10201 := by
    have := q_sq_le (x := R + 1) (M := 101) ⟨by omega, by omega⟩
    omega
  have hpp := q_sq_le (x := (q_qn N R (P, Q)).1) (M := R) ⟨by have := hc1.1; omega, hc1.2.1⟩
  have hp0 := q_sq_nn (q_qn N R (P, Q)).1
  have eQ : (q_l N - q_l (q_qn N R (P, Q)).1 * q_l (q_qn N R (P, Q)).1) / q_l Q = q_l (q_qn N R (P, Q)).2 := by
    have e : (N - (q_qn N R (P, Q)).1 * (q_qn N R (P, Q)).1).tdiv Q = (q_qn N R (P, Q)).2 := by
      rw [← hm]
      exact Int.mul_tdiv_cancel_left _ (by omega)
    have hB : q_B (N - (q_qn N R (P, Q)).1 * (q_qn N R (P, Q)).1) := ⟨by omega, by omega⟩
    rw [q_l_mul, q_l_sub, q_l_div hB ⟨by omega, by omega⟩ (q_tdivB hB ⟨by omega, by omega⟩), e]
  have t114 : ∀ (I : Nat → Nat → Int32) (L : Nat → Nat → Int64), L 128 35 = q_l Q → L 128 38 = q_l (q_qk R (P, Q)) → L 128 34 = q_l P → L 128 36 = q_l N → T_X10_goes_114 (I, L) = some ((), (I, q_u2 (q_u2 L 128 34 (q_l (q_qn N R (P, Q)).1)) 128 35 (q_l (q_qn N R (P, Q)).2))) := by
    intro I L a1 a2 a3 a4
    unfold T_X10_goes_114
    dsimp only
    rw [if_pos (by rw [a1]; exact hQ0), a1, a2, a3, a4, eP, eQ]
  have frame : ∀ (I : Nat → Nat → Int32) (L : Nat → Nat → Int64), (∀ n, n ≠ 128 → I n = z.1 n ∧ L n = z.2 n) → (∀ k, k < 34 → L 128 k = z.2 128 k) → (∀ k, k ≠ 43 → I 128 k = z.1 128 k) → q_FRm z (I, q_u2 (q_u2 L 128 34 (q_l (q_qn N R (P, Q)).1)) 128 35 (q_l (q_qn N R (P, Q)).2)) := by
    intro I L a1 a2 a3
    refine ⟨fun n hn => ⟨(a1 n hn).1, ?_⟩, fun k hk => ?_, a3⟩
    · show q_u2 (q_u2 L 128 34 _) 128 35 _ n = z.2 n
      rw [q_u2_ne hn, q_u2_ne hn]
      exact (a1 n hn).2
    · show q_u2 (q_u2 L 128 34 _) 128 35 _ 128 k = z.2 128 k
      rw [q_u2_at, if_neg (by omega), q_u2_at, if_neg (by omega)]
      exact a2 k hk
  unfold F_X10_goes
  rw [if_pos (by rw [c4]; exact hQ0), c4, c3, c2, hkq]
  cases g with
  | true =>
    have c9 : z.1 128 43 = 1 := c9
    rw [if_neg (by rw [c9]; decide)]
    unfold T_X10_goes_51
    dsimp only
    rw [if_neg (by rw [c9]; decide), t114 _ _ (by rw [q_u2_at, if_neg (by decide)]; exact c4) (by rw [q_u2_at, if_pos rfl]) (by rw [q_u2_at, if_neg (by decide)]; exact c3) (by rw [q_u2_at, if_neg (by decide)]; exact c1)]
    refine ⟨_, rfl, ⟨c1, c2, rfl, rfl, c5, c6, c7, c8, c9⟩, rfl, frame _ _ (fun n hn => ⟨rfl, q_u2_ne hn⟩) (fun k hk => by rw [q_u2_at, if_neg (by omega)]) (fun _ _ => rfl)⟩
  | false =>
    have c9 : z.1 128 43 = 0 := c9
    rw [if_pos c9, if_pos hk0, c5, c7]
    have hG : q_B (1000000000000000000 - ub) := ⟨by omega, by omega⟩
    have hdv : (1000000000000000000 - q_l ub) / q_l (q_qk R (P, Q)) = q_l ((1000000000000000000 - ub) / q_qk R (P, Q)) := by
      have e : (1000000000000000000 - ub).tdiv (q_qk R (P, Q)) = (1000000000000000000 - ub) / q_qk R (P, Q) := Int.tdiv_eq_ediv_of_nonneg (by omega)
      rw [show (1000000000000000000 : Int64) = q_l 1000000000000000000 from rfl, q_l_sub, q_l_div hG ⟨by omega, by omega⟩ (q_tdivB hG ⟨by omega, by omega⟩), e]
    have hcmp : q_l u ≤ (1000000000000000000 - q_l ub) / q_l (q_qk R (P, Q)) ↔ q_qk R (P, Q) * u + ub ≤ 1000000000000000000 := by
      have hB : q_B ((1000000000000000000 - ub) / q_qk R (P, Q)) := by
        have g1 := Int.ediv_le_self (b := q_qk R (P, Q)) (a := 1000000000000000000 - ub) (by omega)
        have g2 := Int.ediv_nonneg (a := 1000000000000000000 - ub) (b := q_qk R (P, Q)) (by omega) (by omega)
        constructor <;> omega
      rw [hdv, q_l_le ⟨by omega, by omega⟩ hB, Int.le_ediv_iff_mul_le (by omega), Int.mul_comm]
      omega
    by_cases cb : q_qk R (P, Q) * u + ub ≤ 1000000000000000000
    · rw [if_pos (hcmp.mpr cb)]
      unfold T_X10_goes_51
      dsimp only
      rw [if_pos c9]
      have r39 : ∀ v, q_u2 z.2 128 38 v 128 39 = q_l u := fun v => c5
      have r40 : ∀ v, q_u2 z.2 128 38 v 128 40 = q_l l := fun v => c6
      have r41 : ∀ v, q_u2 z.2 128 38 v 128 41 = q_l ub := fun v => c7
      have r42 : ∀ v, q_u2 z.2 128 38 v 128 42 = q_l lb := fun v => c8
      have r38 : ∀ v, q_u2 z.2 128 38 v 128 38 = v := fun v => rfl
      rw [r39, r40, r41, r42, r38, q_l_mul, q_l_mul, q_l_add, q_l_add, t114 z.1 (q_u2 (q_u2 (q_u2 (q_u2 (q_u2 z.2 128 38 (q_l (q_qk R (P, Q)))) 128 41 (q_l u)) 128 42 (q_l l)) 128 39 (q_l (q_qk R (P, Q) * u + ub))) 128 40 (q_l (q_qk R (P, Q) * l + lb))) c4 rfl c3 c1]
      refine ⟨_, rfl, ?_, rfl, frame _ _ (fun n hn => ⟨rfl, by rw [q_u2_ne hn, q_u2_ne hn, q_u2_ne hn, q_u2_ne hn, q_u2_ne hn]⟩) (fun k hk => by rw [q_u2_at, if_neg (by omega), q_u2_at, if_neg (by omega), q_u2_at, if_neg (by omega), q_u2_at, if_neg (by omega), q_u2_at, if_neg (by omega)]) (fun _ _ => rfl)⟩
      have ef : q_frn (q_qk R (P, Q)) (u, l, ub, lb, false) = (q_qk R (P, Q) * u + ub, q_qk R (P, Q) * l + lb, u, l, false) := by
        unfold q_frn
        rw [if_neg (by simp)]
        exact if_pos cb
      rw [ef]
      exact ⟨c1, c2, rfl, rfl, rfl, rfl, rfl, rfl, c9⟩
    · rw [if_neg (fun q => cb (hcmp.mp q))]
      unfold T_X10_goes_51
      dsimp only
      have r43 : q_u2 z.1 128 43 1 128 43 = 1 := rfl
      rw [if_neg (by rw [r43]; decide), t114 (q_u2 z.1 128 43 1) (q_u2 z.2 128 38 (q_l (q_qk R (P, Q)))) c4 rfl c3 c1]
      refine ⟨_, rfl, ?_, rfl, frame _ _ (fun n hn => ⟨q_u2_ne hn, q_u2_ne hn⟩) (fun k hk => by rw [q_u2_at, if_neg (by omega)]) (fun k hk => by rw [q_u2_at, if_neg hk])⟩
      have ef : q_frn (q_qk R (P, Q)) (u, l, ub, lb, false) = (u, l, ub, lb, true) := by
        unfold q_frn
        rw [if_neg (by simp)]
        exact if_neg cb
      rw [ef]
      exact ⟨c1, c2, rfl, rfl, c5, c6, c7, c8, rfl⟩
