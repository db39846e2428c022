/-! whether there is a form with this a and b, of both; a, b at most a million or so -/
abbrev q_m1 (x : Int) : Prop := -2000000 ≤ x ∧ x ≤ 2000000
theorem q_bbd {b d : Int} (hb : q_m1 b) (hd : -4000 ≤ d ∧ d ≤ 4000) : -4000000004000 ≤ b * b - d ∧ b * b - d ≤ 4000000004000 := by
  have h := q_mul_le (x := b) (y := b) (M := 2000000) (N := 2000000) hb hb (by omega) (by omega)
  omega
theorem q_dvd_tmod {x y : Int} : x.tmod y = 0 ↔ y ∣ x := by
  constructor
  · exact Int.dvd_of_tmod_eq_zero
  · intro h
    exact Int.tmod_eq_zero_of_dvd h
theorem q_divB {x y c : Int} (h : y * c = x) (hy : y ≠ 0) : c.natAbs ≤ x.natAbs := by
  rw [← h, Int.natAbs_mul]
  have : 1 ≤ y.natAbs := by omega
  have h2 := Nat.mul_le_mul_right c.natAbs this
  omega
theorem p_X10_isForm_no {z : q_Z} {d a b : Int} (hd : z.1 128 0 = q_i d) (bd : -4000 ≤ d ∧ d ≤ 4000) (ba : q_m1 a) (bb : q_m1 b) (h : a = 0 ∨ (d < 0 ∧ a < 0) ∨ ¬ (4 * a) ∣ (b * b - d)) : F_X10_isForm z (q_l a) (q_l b) = some (0, z) := by
  have hbb := q_bbd bb bd
  have haB : q_B a := ⟨by omega, by omega⟩
  have h19 : a ≠ 0 → ¬ (4 * a) ∣ (b * b - d) → T_X10_isForm_19 z (q_l a) (q_l b) = some (0, z) := by
    intro h0 h1
    have e4 : ¬ 4 * q_l a = 0 := by
      rw [q_l4, q_l_mul, q_l0, q_l_eq ⟨by omega, by omega⟩ (by decide)]
      omega
    have hx : q_B (b * b - d) := ⟨by omega, by omega⟩
    have hx2 : q_B (-(b * b - d)) := ⟨by omega, by omega⟩
    have htm : q_B ((b * b - d).tmod (4 * a)) := by
      have h10 := Int.natAbs_tmod (b * b - d) (4 * a)
      have h11 := Nat.mod_le (b * b - d).natAbs (4 * a).natAbs
      constructor <;> omega
    unfold T_X10_isForm_19 T_X10_isForm_39
    rw [if_pos e4, hd, q_l_i ⟨by omega, by omega⟩, q_l4, q_l_mul, q_l_mul, q_l_sub, q_l_rem hx ⟨by omega, by omega⟩ (q_tdivB hx hx2), q_l0, if_neg]
    rw [q_l_eq htm (by decide), q_dvd_tmod]
    exact h1
  unfold F_X10_isForm
  by_cases c0 : a = 0
  · rw [if_pos (by rw [c0]; rfl)]
    rfl
  · rw [if_neg (by rw [q_l0, q_l_eq haB (by decide)]; exact c0), hd]
    by_cases c1 : 0 ≤ d
    · rw [if_pos (by rw [q_i0, q_i_le (by decide) ⟨by omega, by omega⟩]; exact c1)]
      exact h19 c0 (h.elim (fun q => absurd q c0) (fun q => q.elim (fun q => by omega) id))
    · rw [if_neg (by rw [q_i0, q_i_le (by decide) ⟨by omega, by omega⟩]; exact c1)]
      by_cases c2 : a < 0
      · rw [if_pos (by rw [q_l0, q_l_lt haB (by decide)]; exact c2)]
        rfl
      · rw [if_neg (by rw [q_l0, q_l_lt haB (by decide)]; exact c2)]
        exact h19 c0 (h.elim (fun q => absurd q c0) (fun q => q.elim (fun q => by omega) id))
theorem p_X10_isForm_yes {z : q_Z} {d a b c : Int} (hd : z.1 128 0 = q_i d) (bd : -4000 ≤ d ∧ d ≤ 4000) (ba : q_m1 a) (bb : q_m1 b) (ha : a ≠ 0) (hs : ¬ (d < 0 ∧ a < 0)) (h : 4 * a * c = b * b - d) : F_X10_isForm z (q_l a) (q_l b) = some (if Int.gcd (Int.gcd a b) c = 1 then 1 else 0, (z.1, q_u2 (q_u2 (q_u2 z.2 128 12 (q_l a)) 128 13 (q_l b)) 128 14 (q_l c))) := by
  have hbb := q_bbd bb bd
  have haB : q_B a := ⟨by omega, by omega⟩
  have hx : q_B (b * b - d) := ⟨by omega, by omega⟩
  have hx2 : q_B (-(b * b - d)) := ⟨by omega, by omega⟩
  have hcs := q_divB h (by omega)
  have h19 : T_X10_isForm_19 z (q_l a) (q_l b) = some (if Int.gcd (Int.gcd a b) c = 1 then 1 else 0, (z.1, q_u2 (q_u2 (q_u2 z.2 128 12 (q_l a)) 128 13 (q_l b)) 128 14 (q_l c))) := by
    have e4 : ¬ 4 * q_l a = 0 := by
      rw [q_l4, q_l_mul, q_l0, q_l_eq ⟨by omega, by omega⟩ (by decide)]
      omega
    have edv : (b * b - d).tdiv (4 * a) = c := by
      rw [← h]
      exact Int.mul_tdiv_cancel_left _ (by omega)
    have etm : (b * b - d).tmod (4 * a) = 0 := q_dvd_tmod.mpr ⟨c, h.symm⟩
    have hg : Int.gcd a b ≤ a.natAbs := Nat.gcd_le_left _ (by omega)
    have eq1 : (q_l b * q_l b - q_l d) / (4 * q_l a) = q_l c := by
      rw [q_l4, q_l_mul, q_l_mul, q_l_sub, q_l_div hx ⟨by omega, by omega⟩ (q_tdivB hx hx2), edv]
    have eq2 : (q_l b * q_l b - q_l d) - (q_l b * q_l b - q_l d) / (4 * q_l a) * (4 * q_l a) = 0 := by
      rw [q_l4, q_l_mul, q_l_mul, q_l_sub, q_l_rem hx ⟨by omega, by omega⟩ (q_tdivB hx hx2), etm]
      rfl
    unfold T_X10_isForm_19
    rw [if_pos e4, hd, q_l_i ⟨by omega, by omega⟩, eq2, if_pos rfl, if_pos e4, eq1, p_X10_divisor haB ⟨by omega, by omega⟩ ⟨by omega, by omega⟩ ⟨by omega, by omega⟩, Option.bind_some]
    dsimp only
    have er : q_u2 (q_u2 (q_u2 z.2 128 12 (q_l a)) 128 13 (q_l b)) 128 14 (q_l c) 128 14 = q_l c := rfl
    rw [er, p_X10_divisor ⟨by omega, by omega⟩ ⟨by omega, by omega⟩ ⟨by omega, by omega⟩ ⟨by omega, by omega⟩, Option.bind_some]
    dsimp only
    have hg2 : Int.gcd (Int.gcd a b : Int) c ≤ (Int.gcd a b : Int).natAbs := Nat.gcd_le_left _ (by
      have : 0 < Int.gcd a b := Int.gcd_pos_of_ne_zero_left b ha
      omega)
    by_cases c1 : Int.gcd (Int.gcd a b : Int) c = 1
    · rw [if_pos c1, if_pos (by rw [c1]; rfl)]
    · rw [if_neg c1, if_neg (by rw [q_l1, q_l_eq ⟨by omega, by omega⟩ (by decide)]; omega)]
  unfold F_X10_isForm
  rw [if_neg (by rw [q_l0, q_l_eq haB (by decide)]; exact ha), hd]
  by_cases c1 : 0 ≤ d
  · rw [if_pos (by rw [q_i0, q_i_le (by decide) ⟨by omega, by omega⟩]; exact c1)]
    exact h19
  · rw [if_neg (by rw [q_i0, q_i_le (by decide) ⟨by omega, by omega⟩]; exact c1), if_neg (by rw [q_l0, q_l_lt haB (by decide)]; omega)]
    exact h19
theorem p_X2_complete_no {o : Nat} {z : q_Z} {d a b : Int} (hd : z.1 4 0 = q_i d) (bd : -4000 ≤ d ∧ d ≤ 4000) (ba : q_m1 a) (bb : q_m1 b) (h : a = 0 ∨ (d < 0 ∧ a < 0) ∨ ¬ (4 * a) ∣ (b * b - d)) : F_X2_complete o z (q_l a) (q_l b) = some (0, z) := by
  have hbb := q_bbd bb bd
  have haB : q_B a := ⟨by omega, by omega⟩
  have h19 : a ≠ 0 → ¬ (4 * a) ∣ (b * b - d) → T_X2_complete_30 o z (q_l a) (q_l b) (q_l b * q_l b - Int32.toInt64 (q_i d)) = some (0, z) := by
    intro h0 h1
    have e4 : ¬ 4 * q_l a = 0 := by
      rw [q_l4, q_l_mul, q_l0, q_l_eq ⟨by omega, by omega⟩ (by decide)]
      omega
    have hx : q_B (b * b - d) := ⟨by omega, by omega⟩
    have hx2 : q_B (-(b * b - d)) := ⟨by omega, by omega⟩
    have htm : q_B ((b * b - d).tmod (4 * a)) := by
      have h10 := Int.natAbs_tmod (b * b - d) (4 * a)
      have h11 := Nat.mod_le (b * b - d).natAbs (4 * a).natAbs
      constructor <;> omega
    unfold T_X2_complete_30 T_X2_complete_43
    rw [if_pos e4, q_l_i ⟨by omega, by omega⟩, q_l4, q_l_mul, q_l_mul, q_l_sub, q_l_rem hx ⟨by omega, by omega⟩ (q_tdivB hx hx2), q_l0, if_neg]
    rw [q_l_eq htm (by decide), q_dvd_tmod]
    exact h1
  unfold F_X2_complete
  by_cases c0 : a = 0
  · rw [if_pos (by rw [c0]; rfl)]
    rfl
  · rw [if_neg (by rw [q_l0, q_l_eq haB (by decide)]; exact c0), hd]
    by_cases c1 : 0 ≤ d
    · rw [if_pos (by rw [q_i0, q_i_le (by decide) ⟨by omega, by omega⟩]; exact c1)]
      exact h19 c0 (h.elim (fun q => absurd q c0) (fun q => q.elim (fun q => by omega) id))
    · rw [if_neg (by rw [q_i0, q_i_le (by decide) ⟨by omega, by omega⟩]; exact c1)]
      by_cases c2 : a < 0
      · rw [if_pos (by rw [q_l0, q_l_lt haB (by decide)]; exact c2)]
        rfl
      · rw [if_neg (by rw [q_l0, q_l_lt haB (by decide)]; exact c2)]
        exact h19 c0 (h.elim (fun q => absurd q c0) (fun q => q.elim (fun q => by omega) id))
theorem p_X2_complete_yes {o : Nat} {z : q_Z} {d a b c : Int} (hd : z.1 4 0 = q_i d) (bd : -4000 ≤ d ∧ d ≤ 4000) (ba : q_m1 a) (bb : q_m1 b) (ha : a ≠ 0) (hs : ¬ (d < 0 ∧ a < 0)) (h : 4 * a * c = b * b - d) : F_X2_complete o z (q_l a) (q_l b) = some (if Int.gcd (Int.gcd a b) c = 1 then 1 else 0, (z.1, q_u2 (q_u2 (q_u2 z.2 o 0 (q_l a)) o 1 (q_l b)) o 2 (q_l c))) := by
  have hbb := q_bbd bb bd
  have haB : q_B a := ⟨by omega, by omega⟩
  have hx : q_B (b * b - d) := ⟨by omega, by omega⟩
  have hx2 : q_B (-(b * b - d)) := ⟨by omega, by omega⟩
  have hcs := q_divB h (by omega)
  have h19 : T_X2_complete_30 o z (q_l a) (q_l b) (q_l b * q_l b - Int32.toInt64 (q_i d)) = some (if Int.gcd (Int.gcd a b) c = 1 then 1 else 0, (z.1, q_u2 (q_u2 (q_u2 z.2 o 0 (q_l a)) o 1 (q_l b)) o 2 (q_l c))) := by
    have e4 : ¬ 4 * q_l a = 0 := by
      rw [q_l4, q_l_mul, q_l0, q_l_eq ⟨by omega, by omega⟩ (by decide)]
      omega
    have edv : (b * b - d).tdiv (4 * a) = c := by
      rw [← h]
      exact Int.mul_tdiv_cancel_left _ (by omega)
    have etm : (b * b - d).tmod (4 * a) = 0 := q_dvd_tmod.mpr ⟨c, h.symm⟩
    have hg : Int.gcd a b ≤ a.natAbs := Nat.gcd_le_left _ (by omega)
    have eq1 : (q_l b * q_l b - q_l d) / (4 * q_l a) = q_l c := by
      rw [q_l4, q_l_mul, q_l_mul, q_l_sub, q_l_div hx ⟨by omega, by omega⟩ (q_tdivB hx hx2), edv]
    have eq2 : (q_l b * q_l b - q_l d) - (q_l b * q_l b - q_l d) / (4 * q_l a) * (4 * q_l a) = 0 := by
      rw [q_l4, q_l_mul, q_l_mul, q_l_sub, q_l_rem hx ⟨by omega, by omega⟩ (q_tdivB hx hx2), etm]
      rfl
    unfold T_X2_complete_30 F_X1_put
    rw [if_pos e4, q_l_i ⟨by omega, by omega⟩, eq2, if_pos rfl, if_pos e4, eq1, Option.bind_some]
    dsimp only
    rw [p_X7_commonDivisor haB ⟨by omega, by omega⟩ ⟨by omega, by omega⟩ ⟨by omega, by omega⟩, Option.bind_some]
    dsimp only
    rw [p_X7_commonDivisor ⟨by omega, by omega⟩ ⟨by omega, by omega⟩ ⟨by omega, by omega⟩ ⟨by omega, by omega⟩, Option.bind_some]
    dsimp only
    have hg2 : Int.gcd (Int.gcd a b : Int) c ≤ (Int.gcd a b : Int).natAbs := Nat.gcd_le_left _ (by
      have : 0 < Int.gcd a b := Int.gcd_pos_of_ne_zero_left b ha
      omega)
    by_cases c1 : Int.gcd (Int.gcd a b : Int) c = 1
    · rw [if_pos c1, if_pos (by rw [c1]; rfl)]
    · rw [if_neg c1, if_neg (by rw [q_l1, q_l_eq ⟨by omega, by omega⟩ (by decide)]; omega)]
  unfold F_X2_complete
  rw [if_neg (by rw [q_l0, q_l_eq haB (by decide)]; exact ha), hd]
  by_cases c1 : 0 ≤ d
  · rw [if_pos (by rw [q_i0, q_i_le (by decide) ⟨by omega, by omega⟩]; exact c1)]
    exact h19
  · rw [if_neg (by rw [q_i0, q_i_le (by decide) ⟨by omega, by omega⟩]; exact c1), if_neg (by rw [q_l0, q_l_lt haB (by decide)]; omega)]
    exact h19
