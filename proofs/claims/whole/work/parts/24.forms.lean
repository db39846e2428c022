/-! a STEP of the class; whether it is a form, whether it is LEAST, of both -/
theorem q_emod_neg {u m : Int} (hm : 0 < m) : (-u - 1) % m = m - 1 - u % m := by
  have h1 := Int.emod_nonneg u (show m ≠ 0 by omega)
  have h2 := Int.emod_lt_of_pos u hm
  have h3 := Int.mul_ediv_add_emod u m
  have h4 : -u - 1 = (m - 1 - u % m) + m * (-(u / m) - 1) := by
    rw [Int.mul_sub, Int.mul_neg]
    omega
  rw [h4, Int.add_mul_emod_self_left]
  exact Int.emod_eq_of_lt (by omega) (by omega)
theorem p_X2_advance {o : Nat} {z : q_Z} {d R a b c : Int} (hd : z.1 4 0 = q_i d) (hR : z.1 4 1 = q_i R) (hb : z.2 o 1 = q_l b) (hc : z.2 o 2 = q_l c) (bd : q_s30 d) (bR : 0 ≤ R ∧ R ≤ 100) (bb : q_s30 b) (bc : q_s30 c) (hc0 : c ≠ 0) (hF : b * b - 4 * a * c = d) :
    F_X2_advance o z = some (q_l (q_tt2 d R b c), (z.1, q_u2 (q_u2 (q_u2 z.2 o 0 (q_l c)) o 1 (q_l (q_nb d R b c))) o 2 (q_l (q_nc d R b c)))) := by
  have hcB := q_SB bc
  have hs : 0 < (c.natAbs : Int) := by omega
  have hn := q_nb_range (d := d) (R := R) (b := b) hc0
  have key : ∀ w : Int, w = q_hi d R c - 2 * c.natAbs → T_X2_advance_55 o z (q_l c) (q_l c.natAbs) (q_l w) = some (q_l (q_tt2 d R b c), (z.1, q_u2 (q_u2 (q_u2 z.2 o 0 (q_l c)) o 1 (q_l (q_nb d R b c))) o 2 (q_l (q_nc d R b c)))) := by
    intro w hw
    have hh1 : 0 ≤ q_hi d R c := q_hi_pos bR.1
    have hh2 : q_hi d R c ≤ 1073741824 := by
      unfold q_hi
      split <;> omega
    have en : w + 1 + (-b - w - 1) % (2 * c.natAbs) = q_nb d R b c := by
      have h1 : -b - w - 1 = (-(q_hi d R c + b) - 1) + 2 * c.natAbs := by omega
      rw [h1, Int.add_emod_right, q_emod_neg (by omega)]
      unfold q_nb
      omega
    have e2 : ¬ 2 * q_l c = 0 := by
      rw [q_l2, q_l_mul, q_l0, q_l_eq ⟨by omega, by omega⟩ (by decide)]
      omega
    have e4 : ¬ 4 * q_l c = 0 := by
      rw [q_l4, q_l_mul, q_l0, q_l_eq ⟨by omega, by omega⟩ (by decide)]
      omega
    have et : (q_l b + q_l (q_nb d R b c)) / (2 * q_l c) = q_l (q_tt2 d R b c) := by
      have h9 := q_nb_t (d := d) (R := R) (b := b) hc0
      have hdv : (b + q_nb d R b c).tdiv (2 * c) = q_tt2 d R b c := by
        rw [q_tdiv_ex ⟨_, h9⟩]
        rfl
      have hdB : q_B ((b + q_nb d R b c).tdiv (2 * c)) := q_tdivB ⟨by omega, by omega⟩ ⟨by omega, by omega⟩
      rw [q_l2, q_l_mul, q_l_add, q_l_div ⟨by omega, by omega⟩ ⟨by omega, by omega⟩ hdB, hdv]
    have hsq := q_mul_le (x := q_nb d R b c) (y := q_nb d R b c) (M := 1073741824 * 2) (N := 1073741824 * 2) ⟨by omega, by omega⟩ ⟨by omega, by omega⟩ (by omega) (by omega)
    have ec : (q_l (q_nb d R b c) * q_l (q_nb d R b c) - q_l d) / (4 * q_l c) = q_l (q_nc d R b c) := by
      have h9 := q_nc_t (d := d) (R := R) (a := a) (b := b) hc0 hF
      have hdv : (q_nb d R b c * q_nb d R b c - d).tdiv (4 * c) = q_nc d R b c := by
        rw [q_tdiv_ex ⟨_, h9⟩]
        rfl
      have hdB : q_B ((q_nb d R b c * q_nb d R b c - d).tdiv (4 * c)) := q_tdivB ⟨by omega, by omega⟩ ⟨by omega, by omega⟩
      rw [q_l4, q_l_mul, q_l_mul, q_l_sub, q_l_div ⟨by omega, by omega⟩ ⟨by omega, by omega⟩ hdB, hdv]
    have efm : F_J9_floorMod_f86c9 z (-(q_l b) - q_l w - 1) (2 * q_l (c.natAbs : Int)) = some (q_l ((-b - w - 1) % (2 * c.natAbs)), z) := by
      rw [q_l_neg, q_l1, q_l2, q_l_sub, q_l_sub, q_l_mul]
      exact p_J9_fml ⟨by omega, by omega⟩ ⟨by omega, by omega⟩ ⟨by omega, by omega⟩ (by omega)
    unfold T_X2_advance_55 F_X1_put
    rw [hb, efm, Option.bind_some]
    dsimp only
    rw [if_pos e2, if_pos e4, q_l1, q_l_add, q_l_add, en, hd, q_l_i ⟨by omega, by omega⟩, ec, Option.bind_some, hb, et]
  unfold F_X2_advance T_X2_advance_37
  rw [hc, if_neg (by rw [q_l0, q_l_eq hcB (by decide)]; exact hc0), p_J9_absl hcB ⟨by omega, by omega⟩, Option.bind_some]
  dsimp only
  rw [hd, hR, q_l_i ⟨by omega, by omega⟩]
  by_cases c1 : d < 0
  · rw [if_pos (by rw [q_i0, q_i_lt ⟨by omega, by omega⟩ (by decide)]; exact c1), q_l_neg]
    exact key _ (by unfold q_hi; rw [if_pos (Or.inl c1)]; omega)
  · rw [if_neg (by rw [q_i0, q_i_lt ⟨by omega, by omega⟩ (by decide)]; exact c1)]
    by_cases c2 : (c.natAbs : Int) ≤ R
    · rw [if_pos ((q_l_le ⟨by omega, by omega⟩ ⟨by omega, by omega⟩).mpr c2), q_l2, q_l_mul, q_l_sub]
      exact key _ (by unfold q_hi; rw [if_neg (by omega)])
    · rw [if_neg (fun q => c2 ((q_l_le ⟨by omega, by omega⟩ ⟨by omega, by omega⟩).mp q)), q_l_neg]
      exact key _ (by unfold q_hi; rw [if_pos (by omega)]; omega)
/-- LEAST -/
def q_lst (d R a b c : Int) : Bool := if d < 0 then decide ((b.natAbs : Int) ≤ a) && (decide (a ≤ c) && (decide (0 ≤ b) || (decide ((b.natAbs : Int) < a) && decide (a < c)))) else decide (0 < b) && (decide (b ≤ R) && (decide (R - b < 2 * a.natAbs) && decide (2 * (a.natAbs : Int) ≤ R + b)))
theorem p_X10_isLeast {z : q_Z} {d R a b c : Int} (hd : z.1 128 0 = q_i d) (hR : z.1 128 1 = q_i R) (ha : z.2 128 12 = q_l a) (hb : z.2 128 13 = q_l b) (hc : z.2 128 14 = q_l c) (bd : q_s30 d) (bR : 0 ≤ R ∧ R ≤ 100) (ba : q_s30 a) (bb : q_s30 b) (bc : q_s30 c) : F_X10_isLeast z = some (if q_lst d R a b c then 1 else 0, z) := by
  have haB := q_SB ba
  have hbB := q_SB bb
  have hcB := q_SB bc
  have hnB : q_B (b.natAbs : Int) := ⟨by omega, by omega⟩
  unfold F_X10_isLeast T_X10_isLeast_156 T_X10_isLeast_76 T_X10_isLeast_72 q_lst
  rw [hd, hR, ha, hb, q_l_i ⟨by omega, by omega⟩, p_X10_abs haB ⟨by omega, by omega⟩, p_X10_abs hbB ⟨by omega, by omega⟩]
  simp only [Option.bind_some, hd, hR, ha, hb, hc, q_l_i (show q_b R from ⟨by omega, by omega⟩), p_X10_abs haB (show q_B (-a) from ⟨by omega, by omega⟩), p_X10_abs hbB (show q_B (-b) from ⟨by omega, by omega⟩)]
  simp only [q_l0, q_l2, q_i0, q_l_mul, q_l_sub, q_l_add, q_i_le (show q_b 0 by decide) (show q_b d from ⟨by omega, by omega⟩), q_l_le hbB (show q_B 0 by decide), q_l_lt (show q_B R from ⟨by omega, by omega⟩) hbB, q_l_le (show q_B (2 * (a.natAbs : Int)) from ⟨by omega, by omega⟩) (show q_B (R - b) from ⟨by omega, by omega⟩), q_l_lt (show q_B (R + b) from ⟨by omega, by omega⟩) (show q_B (2 * (a.natAbs : Int)) from ⟨by omega, by omega⟩), q_l_lt haB hnB, q_l_lt hcB haB, q_l_le (show q_B 0 by decide) hbB, q_l_le haB hnB, q_l_le hcB haB]
  by_cases c0 : 0 ≤ d
  · rw [if_pos c0, if_neg (show ¬ d < 0 by omega)]
    by_cases c1 : b ≤ 0
    · rw [if_pos c1, decide_eq_false (show ¬ 0 < b by omega)]; rfl
    · rw [if_neg c1, decide_eq_true (show 0 < b by omega)]
      by_cases c2 : R < b
      · rw [if_pos c2, decide_eq_false (show ¬ b ≤ R by omega)]; rfl
      · rw [if_neg c2, decide_eq_true (show b ≤ R by omega)]
        by_cases c3 : 2 * (a.natAbs : Int) ≤ R - b
        · rw [if_pos c3, decide_eq_false (show ¬ R - b < 2 * (a.natAbs : Int) by omega)]; rfl
        · rw [if_neg c3, decide_eq_true (show R - b < 2 * (a.natAbs : Int) by omega)]
          by_cases c4 : R + b < 2 * (a.natAbs : Int)
          · rw [if_pos c4, decide_eq_false (show ¬ 2 * (a.natAbs : Int) ≤ R + b by omega)]; rfl
          · rw [if_neg c4, decide_eq_true (show 2 * (a.natAbs : Int) ≤ R + b by omega)]; rfl
  · rw [if_neg c0, if_pos (show d < 0 by omega)]
    by_cases c1 : a < (b.natAbs : Int)
    · rw [if_pos c1, decide_eq_false (show ¬ (b.natAbs : Int) ≤ a by omega)]; rfl
    · rw [if_neg c1, decide_eq_true (show (b.natAbs : Int) ≤ a by omega)]
      by_cases c2 : c < a
      · rw [if_pos c2, decide_eq_false (show ¬ a ≤ c by omega)]; rfl
      · rw [if_neg c2, decide_eq_true (show a ≤ c by omega)]
        by_cases c3 : 0 ≤ b
        · rw [if_pos c3, decide_eq_true c3]; rfl
        · rw [if_neg c3, decide_eq_false c3]
          by_cases c4 : a ≤ (b.natAbs : Int)
          · rw [if_pos c4, decide_eq_false (show ¬ (b.natAbs : Int) < a by omega)]; rfl
          · rw [if_neg c4, decide_eq_true (show (b.natAbs : Int) < a by omega)]
            by_cases c5 : c ≤ a
            · rw [if_pos c5, decide_eq_false (show ¬ a < c by omega)]; rfl
            · rw [if_neg c5, decide_eq_true (show a < c by omega)]; rfl
theorem p_X2_isLeast {o : Nat} {z : q_Z} {d R a b c : Int} (hd : z.1 4 0 = q_i d) (hR : z.1 4 1 = q_i R) (ha : z.2 o 0 = q_l a) (hb : z.2 o 1 = q_l b) (hc : z.2 o 2 = q_l c) (bd : q_s30 d) (bR : 0 ≤ R ∧ R ≤ 100) (ba : q_s30 a) (bb : q_s30 b) (bc : q_s30 c) (hd0 : d ≠ 0) (hp : d < 0 → 0 < a) : F_X2_isLeast o z = some (if q_lst d R a b c then 1 else 0, z) := by
  have haB := q_SB ba
  have hbB := q_SB bb
  have hcB := q_SB bc
  have hnB : q_B (b.natAbs : Int) := ⟨by omega, by omega⟩
  have hmB : q_B (a.natAbs : Int) := ⟨by omega, by omega⟩
  unfold F_X2_isLeast T_X2_isLeast_135 T_X2_isLeast_131 T_X2_isLeast_79 q_lst
  rw [ha, p_J9_absl haB ⟨by omega, by omega⟩]
  simp only [Option.bind_some, hd, hR, hb, hc, q_l_i (show q_b R from ⟨by omega, by omega⟩), p_J9_absl hbB (show q_B (-b) from ⟨by omega, by omega⟩)]
  simp only [q_l0, q_l2, q_i0, q_l_mul, q_l_sub, q_l_add, q_i_le (show q_b d from ⟨by omega, by omega⟩) (show q_b 0 by decide), q_l_le hbB (show q_B 0 by decide), q_l_lt (show q_B R from ⟨by omega, by omega⟩) hbB, q_l_le (show q_B (2 * (a.natAbs : Int)) from ⟨by omega, by omega⟩) (show q_B (R - b) from ⟨by omega, by omega⟩), q_l_lt (show q_B (R + b) from ⟨by omega, by omega⟩) (show q_B (2 * (a.natAbs : Int)) from ⟨by omega, by omega⟩), q_l_lt hmB hnB, q_l_lt hcB hmB, q_l_le (show q_B 0 by decide) hbB, q_l_eq hnB hmB, q_l_eq hmB hcB]
  by_cases c0 : 0 ≤ d
  · rw [if_neg (show ¬ d ≤ 0 by omega), if_neg (show ¬ d < 0 by omega)]
    by_cases c1 : b ≤ 0
    · rw [if_pos c1, decide_eq_false (show ¬ 0 < b by omega)]; rfl
    · rw [if_neg c1, decide_eq_true (show 0 < b by omega)]
      by_cases c2 : R < b
      · rw [if_pos c2, decide_eq_false (show ¬ b ≤ R by omega)]; rfl
      · rw [if_neg c2, decide_eq_true (show b ≤ R by omega)]
        by_cases c3 : 2 * (a.natAbs : Int) ≤ R - b
        · rw [if_pos c3, decide_eq_false (show ¬ R - b < 2 * (a.natAbs : Int) by omega)]; rfl
        · rw [if_neg c3, decide_eq_true (show R - b < 2 * (a.natAbs : Int) by omega)]
          by_cases c4 : R + b < 2 * (a.natAbs : Int)
          · rw [if_pos c4, decide_eq_false (show ¬ 2 * (a.natAbs : Int) ≤ R + b by omega)]; rfl
          · rw [if_neg c4, decide_eq_true (show 2 * (a.natAbs : Int) ≤ R + b by omega)]; rfl
  · have hpa := hp (by omega)
    rw [if_pos (show d ≤ 0 by omega), if_pos (show d < 0 by omega)]
    by_cases c1 : a < (b.natAbs : Int)
    · rw [if_pos (show (a.natAbs : Int) < b.natAbs by omega), decide_eq_false (show ¬ (b.natAbs : Int) ≤ a by omega)]; rfl
    · rw [if_neg (show ¬ (a.natAbs : Int) < b.natAbs by omega), decide_eq_true (show (b.natAbs : Int) ≤ a by omega)]
      by_cases c2 : c < a
      · rw [if_pos (show c < (a.natAbs : Int) by omega), decide_eq_false (show ¬ a ≤ c by omega)]; rfl
      · rw [if_neg (show ¬ c < (a.natAbs : Int) by omega), decide_eq_true (show a ≤ c by omega)]
        by_cases c3 : 0 ≤ b
        · rw [if_pos c3, decide_eq_true c3]; rfl
        · rw [if_neg c3, decide_eq_false c3]
          by_cases c4 : a ≤ (b.natAbs : Int)
          · rw [if_pos (show (b.natAbs : Int) = a.natAbs by omega), decide_eq_false (show ¬ (b.natAbs : Int) < a by omega)]; rfl
          · rw [if_neg (show ¬ (b.natAbs : Int) = a.natAbs by omega), decide_eq_true (show (b.natAbs : Int) < a by omega)]
            by_cases c5 : c ≤ a
            · rw [if_pos (show (a.natAbs : Int) = c by omega), decide_eq_false (show ¬ a < c by omega)]; rfl
            · rw [if_neg (show ¬ (a.natAbs : Int) = c by omega), decide_eq_true (show a < c by omega)]; rfl
