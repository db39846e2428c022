/-! a STEP, of both -/
abbrev q_s30 (x : Int) : Prop := -1073741824 ≤ x ∧ x ≤ 1073741824
def q_hi (d R c : Int) : Int := if d < 0 ∨ R < c.natAbs then c.natAbs else R
def q_nb (d R b c : Int) : Int := q_hi d R c - (q_hi d R c + b) % (2 * c.natAbs)
def q_tt2 (d R b c : Int) : Int := (b + q_nb d R b c) / (2 * c)
def q_nc (d R b c : Int) : Int := (q_nb d R b c * q_nb d R b c - d) / (4 * c)
theorem q_nb_t {d R b c : Int} (hc : c ≠ 0) : b + q_nb d R b c = 2 * c * q_tt2 d R b c := by
  have h1 : (2 * c) ∣ (b + q_nb d R b c) := by
    have h2 : (2 * (c.natAbs : Int)) ∣ (b + q_nb d R b c) := by
      unfold q_nb
      have h3 : b + (q_hi d R c - (q_hi d R c + b) % (2 * (c.natAbs : Int))) = (q_hi d R c + b) - (q_hi d R c + b) % (2 * (c.natAbs : Int)) := by omega
      rw [h3]
      exact Int.dvd_self_sub_emod
    rcases Int.natAbs_eq c with e | e
    · rw [e]; exact h2
    · have h4 : 2 * c = -(2 * (c.natAbs : Int)) := by omega
      rw [h4]
      exact Int.neg_dvd.mpr h2
  unfold q_tt2
  exact (Int.mul_ediv_cancel' h1).symm
theorem q_nc_t {d R a b c : Int} (hc : c ≠ 0) (hF : b * b - 4 * a * c = d) : q_nb d R b c * q_nb d R b c - d = 4 * c * (a - b * q_tt2 d R b c + c * (q_tt2 d R b c * q_tt2 d R b c)) := by
  have h := q_nb_t (d := d) (R := R) (b := b) hc
  generalize q_tt2 d R b c = t at h ⊢
  generalize q_nb d R b c = n at h ⊢
  have h1 : n = 2 * c * t - b := by omega
  subst h1
  subst hF
  grind
theorem q_nc_eq {d R a b c : Int} (hc : c ≠ 0) (hF : b * b - 4 * a * c = d) : q_nc d R b c = a - b * q_tt2 d R b c + c * (q_tt2 d R b c * q_tt2 d R b c) := by
  unfold q_nc
  rw [q_nc_t hc hF]
  exact Int.mul_ediv_cancel_left _ (by omega)
/-- a STEP makes a form of the same discriminant -/
theorem q_step_F {d R a b c : Int} (hc : c ≠ 0) (hF : b * b - 4 * a * c = d) : q_nb d R b c * q_nb d R b c - 4 * c * q_nc d R b c = d := by
  rw [q_nc_eq hc hF, ← q_nc_t hc hF]
  omega
theorem q_hi_pos {d R c : Int} (hR : 0 ≤ R) : 0 ≤ q_hi d R c := by
  unfold q_hi
  split <;> omega
theorem q_nb_range {d R b c : Int} (hc : c ≠ 0) : q_hi d R c - 2 * c.natAbs < q_nb d R b c ∧ q_nb d R b c ≤ q_hi d R c := by
  unfold q_nb
  have h1 := Int.emod_nonneg (q_hi d R c + b) (show (2 * (c.natAbs : Int)) ≠ 0 by omega)
  have h2 := Int.emod_lt_of_pos (q_hi d R c + b) (show 0 < (2 * (c.natAbs : Int)) by omega)
  omega
theorem q_mul_le {x y M N : Int} (hx : -M ≤ x ∧ x ≤ M) (hy : -N ≤ y ∧ y ≤ N) (hM : 0 ≤ M) (hN : 0 ≤ N) : -(M * N) ≤ x * y ∧ x * y ≤ M * N := by
  have h1 : (x * y).natAbs ≤ M.natAbs * N.natAbs := by
    rw [Int.natAbs_mul]
    exact Nat.mul_le_mul (by omega) (by omega)
  have h2 : ((M.natAbs * N.natAbs : Nat) : Int) = M * N := by
    rw [Int.natCast_mul, Int.natAbs_of_nonneg hM, Int.natAbs_of_nonneg hN]
  omega
theorem q_SB {x : Int} (h : q_s30 x) : q_B x := ⟨by omega, by omega⟩
theorem q_tdiv_ex {x y : Int} (h : y ∣ x) : x.tdiv y = x / y := by
  obtain ⟨k, rfl⟩ := h
  by_cases hy : y = 0
  · subst hy; simp
  · rw [Int.mul_tdiv_cancel_left _ hy, Int.mul_ediv_cancel_left _ hy]
theorem q_tdivB {x y : Int} (hx : q_B x) (hx2 : q_B (-x)) : q_B (x.tdiv y) := by
  have h1 := Int.natAbs_tdiv_le_natAbs x y
  constructor <;> omega
theorem p_X10_steps {z : q_Z} {d R a b c : Int} (hd : z.1 128 0 = q_i d) (hR : z.1 128 1 = q_i R) (hb : z.2 128 13 = q_l b) (hc : z.2 128 14 = q_l c) (bd : q_s30 d) (bR : 0 ≤ R ∧ R ≤ 100) (bb : q_s30 b) (bc : q_s30 c) (hc0 : c ≠ 0) (hF : b * b - 4 * a * c = d) :
    F_X10_steps z = some ((), (z.1, q_u2 (q_u2 (q_u2 (q_u2 (q_u2 (q_u2 (q_u2 z.2 128 15 (z.2 128 16)) 128 16 ((-(z.2 128 15)) + ((z.2 128 16) * q_l (q_tt2 d R b c)))) 128 17 (z.2 128 18)) 128 18 ((-(z.2 128 17)) + ((z.2 128 18) * q_l (q_tt2 d R b c)))) 128 12 (q_l c)) 128 13 (q_l (q_nb d R b c))) 128 14 (q_l (q_nc d R b c)))) := by
  have hcB := q_SB bc
  have hs : 0 < (c.natAbs : Int) := by omega
  -- the middle part
  have key : ∀ h : Int, h = q_hi d R c → T_X10_steps_35 z (q_l c.natAbs) (q_l h) = some ((), (z.1, q_u2 (q_u2 (q_u2 (q_u2 (q_u2 (q_u2 (q_u2 z.2 128 15 (z.2 128 16)) 128 16 ((-(z.2 128 15)) + ((z.2 128 16) * q_l (q_tt2 d R b c)))) 128 17 (z.2 128 18)) 128 18 ((-(z.2 128 17)) + ((z.2 128 18) * q_l (q_tt2 d R b c)))) 128 12 (q_l c)) 128 13 (q_l (q_nb d R b c))) 128 14 (q_l (q_nc d R b c)))) := by
    intro h hh
    have hh1 : 0 ≤ h := by rw [hh]; exact q_hi_pos bR.1
    have hh2 : h ≤ 1073741824 := by
      rw [hh]
      unfold q_hi
      split <;> omega
    have hn := q_nb_range (d := d) (R := R) (b := b) hc0
    rw [← hh] at hn
    have tail : T_X10_steps_67 z (q_l h) (q_l ((h + b) % (2 * c.natAbs))) = some ((), (z.1, q_u2 (q_u2 (q_u2 (q_u2 (q_u2 (q_u2 (q_u2 z.2 128 15 (z.2 128 16)) 128 16 ((-(z.2 128 15)) + ((z.2 128 16) * q_l (q_tt2 d R b c)))) 128 17 (z.2 128 18)) 128 18 ((-(z.2 128 17)) + ((z.2 128 18) * q_l (q_tt2 d R b c)))) 128 12 (q_l c)) 128 13 (q_l (q_nb d R b c))) 128 14 (q_l (q_nc d R b c)))) := by
      have en : q_l h - q_l ((h + b) % (2 * (c.natAbs : Int))) = q_l (q_nb d R b c) := by
        rw [q_l_sub, hh]
        rfl
      have e2 : ¬ 2 * q_l c = 0 := by
        rw [q_l2, q_l_mul, q_l0, q_l_eq ⟨by omega, by omega⟩ (by decide)]
        omega
      have e4 : ¬ 4 * q_l c = 0 := by
        rw [q_l4, q_l_mul, q_l0, q_l_eq ⟨by omega, by omega⟩ (by decide)]
        omega
      have et : (q_l b + q_l (q_nb d R b c)) / (2 * q_l c) = q_l (q_tt2 d R b c) := by
        have h9 := q_nb_t (d := d) (R := R) (b := b) hc0
        have hdv : (b + q_nb d R b c).tdiv (2 * c) = q_tt2 d R b c := by
          rw [q_tdiv_ex ⟨_, h9⟩]
          rfl
        have hdB : q_B ((b + q_nb d R b c).tdiv (2 * c)) := q_tdivB ⟨by omega, by omega⟩ ⟨by omega, by omega⟩
        rw [q_l2, q_l_mul, q_l_add, q_l_div ⟨by omega, by omega⟩ ⟨by omega, by omega⟩ hdB, hdv]
      have hsq := q_mul_le (x := q_nb d R b c) (y := q_nb d R b c) (M := 1073741824 * 2) (N := 1073741824 * 2) ⟨by omega, by omega⟩ ⟨by omega, by omega⟩ (by omega) (by omega)
      have ec : (q_l (q_nb d R b c) * q_l (q_nb d R b c) - q_l d) / (4 * q_l c) = q_l (q_nc d R b c) := by
        have h9 := q_nc_t (d := d) (R := R) (a := a) (b := b) hc0 hF
        have hdv : (q_nb d R b c * q_nb d R b c - d).tdiv (4 * c) = q_nc d R b c := by
          rw [q_tdiv_ex ⟨_, h9⟩]
          rfl
        have hdB : q_B ((q_nb d R b c * q_nb d R b c - d).tdiv (4 * c)) := q_tdivB ⟨by omega, by omega⟩ ⟨by omega, by omega⟩
        rw [q_l4, q_l_mul, q_l_mul, q_l_sub, q_l_div ⟨by omega, by omega⟩ ⟨by omega, by omega⟩ hdB, hdv]
      unfold T_X10_steps_67
      rw [hc, hb, hd, q_l_i ⟨by omega, by omega⟩, en, if_pos e2, if_pos e4, et, ec]
    have hhb : q_B (h + b) := ⟨by omega, by omega⟩
    have h2c : q_B (2 * (c.natAbs : Int)) := ⟨by omega, by omega⟩
    have er : (q_l h + q_l b) - (q_l h + q_l b) / (2 * q_l (c.natAbs : Int)) * (2 * q_l (c.natAbs : Int)) = q_l ((h + b).tmod (2 * c.natAbs)) := by
      rw [q_l2, q_l_mul, q_l_add, q_l_rem hhb h2c (q_tdivB hhb ⟨by omega, by omega⟩)]
    have e2 : ¬ 2 * q_l (c.natAbs : Int) = 0 := by
      rw [q_l2, q_l_mul, q_l0, q_l_eq h2c (by decide)]
      omega
    unfold T_X10_steps_35
    rw [hb, er, if_pos e2]
    have htm : q_B ((h + b).tmod (2 * c.natAbs)) := by
      have := Int.natAbs_tmod (h + b) (2 * c.natAbs)
      have h10 := Nat.mod_le (h + b).natAbs (2 * (c.natAbs : Int)).natAbs
      constructor <;> omega
    by_cases cs : 0 ≤ h + b
    · have e9 : (h + b).tmod (2 * c.natAbs) = (h + b) % (2 * c.natAbs) := Int.tmod_eq_emod_of_nonneg cs
      have h11 := Int.tmod_nonneg (2 * (c.natAbs : Int)) cs
      rw [if_pos (by rw [q_l0, q_l_le (by decide) htm]; exact h11), e9]
      exact tail
    · by_cases c0 : (h + b).tmod (2 * c.natAbs) = 0
      · have e9 : (h + b) % (2 * c.natAbs) = 0 := by
          have h12 := Int.tmod_add_mul_tdiv (h + b) (2 * c.natAbs)
          rw [c0, Int.zero_add] at h12
          rw [← h12]
          exact Int.mul_emod_right _ _
        rw [if_pos (by rw [c0]; decide), c0]
        rw [e9] at tail
        exact tail
      · have hneg : (h + b).tmod (2 * c.natAbs) < 0 := by
          have := q_tmod_np (x := h + b) (y := 2 * (c.natAbs : Int)) (by omega)
          omega
        have hlow : -(2 * (c.natAbs : Int)) < (h + b).tmod (2 * c.natAbs) := by
          have := Int.natAbs_tmod (h + b) (2 * c.natAbs)
          have h10 : (h + b).natAbs % (2 * (c.natAbs : Int)).natAbs < (2 * (c.natAbs : Int)).natAbs := Nat.mod_lt _ (by omega)
          omega
        have e9 : (h + b) % (2 * c.natAbs) = (h + b).tmod (2 * c.natAbs) + 2 * c.natAbs := by
          have h12 := Int.tmod_add_mul_tdiv (h + b) (2 * c.natAbs)
          have h13 := Int.add_mul_emod_self_left ((h + b).tmod (2 * c.natAbs)) (2 * c.natAbs) ((h + b).tdiv (2 * c.natAbs))
          rw [h12] at h13
          have h14 : ((h + b).tmod (2 * c.natAbs) + 2 * c.natAbs) % (2 * c.natAbs) = (h + b).tmod (2 * c.natAbs) % (2 * c.natAbs) := Int.add_emod_right _ _
          rw [h13, ← h14]
          exact Int.emod_eq_of_lt (by omega) (by omega)
        rw [if_neg (by rw [q_l0, q_l_le (by decide) htm]; omega), q_l2, q_l_mul, q_l_add, ← e9]
        exact tail
  unfold F_X10_steps T_X10_steps_26
  rw [hc, p_X10_abs hcB ⟨by omega, by omega⟩, Option.bind_some]
  dsimp only
  rw [hd, hR, q_l_i ⟨by omega, by omega⟩]
  by_cases c1 : d < 0
  · rw [if_pos (by rw [q_i0, q_i_lt ⟨by omega, by omega⟩ (by decide)]; exact c1)]
    exact key _ (by unfold q_hi; rw [if_pos (Or.inl c1)])
  · rw [if_neg (by rw [q_i0, q_i_lt ⟨by omega, by omega⟩ (by decide)]; exact c1)]
    by_cases c2 : (c.natAbs : Int) ≤ R
    · rw [if_pos ((q_l_le ⟨by omega, by omega⟩ ⟨by omega, by omega⟩).mpr c2)]
      exact key _ (by unfold q_hi; rw [if_neg (by omega)])
    · rw [if_neg (fun q => c2 ((q_l_le ⟨by omega, by omega⟩ ⟨by omega, by omega⟩).mp q))]
      exact key _ (by unfold q_hi; rw [if_pos (by omega)])
