/-! rings of the group: what one power of a prime brings; counts and small steps of the class -/
theorem q_ring_step {h p c0 left k : Nat} {J : Nat → Nat → Nat} (g : q_Gp h J) (hp : q_pr p) (hc : ¬ p ∣ c0) (e : h = c0 * left * q_Nm h J (p ^ k)) (hk : p ^ k ≤ q_Nm h J (p ^ k)) (hl : p ∣ left) (hh : h ≤ 128) : ∃ a m l, q_Nm h J (p ^ k) = p ^ a ∧ q_Nm h J (p ^ (k + 1)) = p ^ (a + m) ∧ 0 < m ∧ m ≤ 7 ∧ left = l * p ^ m ∧ h = c0 * l * q_Nm h J (p ^ (k + 1)) ∧ p ^ (k + 1) ≤ q_Nm h J (p ^ (k + 1)) ∧ p ^ (k + 1) ≤ 128 ∧ p ^ (a + m) ≤ 128 := by
  have p0 : 0 < p := by have := hp.1; omega
  obtain ⟨a, ea⟩ := q_Nm_pp g hp k
  obtain ⟨b, eb⟩ := q_Nm_pp g hp (k + 1)
  have hd : p * q_Nm h J (p ^ k) ∣ h := by
    obtain ⟨u, hu⟩ := hl
    refine ⟨c0 * u, ?_⟩
    have e2 : c0 * left * q_Nm h J (p ^ k) = p * q_Nm h J (p ^ k) * (c0 * u) := by rw [hu]; grind
    rw [← e2]
    exact e
  have lt := q_Nm_up g hp k hd
  rw [ea, eb] at lt
  have hab : a < b := by
    rcases Nat.lt_or_ge a b with q | q
    · exact q
    · have := Nat.pow_le_pow_right p0 q
      omega
  obtain ⟨m, rfl⟩ : ∃ m, b = a + m := ⟨b - a, by omega⟩
  have dv := q_Nm_dvd g (p ^ (k + 1))
  rw [eb] at dv
  have pb : p ^ (a + m) ≤ 128 := Nat.le_trans (Nat.le_of_dvd g.1 dv) hh
  have pa : 0 < p ^ a := Nat.pow_pos p0
  have dv2 : p ^ m ∣ c0 * left := by
    have e3 : h = c0 * left * p ^ a := by rw [← ea]; exact e
    rw [e3, Nat.pow_add, Nat.mul_comm (p ^ a) (p ^ m)] at dv
    exact Nat.dvd_of_mul_dvd_mul_right pa dv
  obtain ⟨l, hlm⟩ := (Nat.Coprime.pow_left m (q_pr_cop hp hc)).dvd_of_dvd_mul_left dv2
  have pm : p ≤ p ^ m := by
    have := Nat.pow_le_pow_right p0 (show 1 ≤ m by omega)
    rw [Nat.pow_one] at this
    exact this
  have pk1 : p ^ (k + 1) ≤ p ^ (a + m) := by
    rw [Nat.pow_succ, Nat.pow_add]
    exact Nat.mul_le_mul (by omega) pm
  refine ⟨a, m, l, ea, eb, by omega, ?_, by rw [hlm, Nat.mul_comm], ?_, by rw [eb]; exact pk1, by omega, pb⟩
  · rcases Nat.lt_or_ge m 8 with q | q
    · omega
    · have h1 := Nat.pow_le_pow_left hp.1 m
      have h2 : 2 ^ 8 ≤ 2 ^ m := Nat.pow_le_pow_right (by decide) q
      have h3 : p ^ m ≤ p ^ (a + m) := Nat.pow_le_pow_right p0 (by omega)
      have h4 : (2 : Nat) ^ 8 = 256 := by decide
      omega
  · have e3 : h = c0 * left * p ^ a := by rw [← ea]; exact e
    have e4 : c0 * left * p ^ a = c0 * l * p ^ (a + m) := by rw [hlm, Nat.pow_add]; grind
    rw [eb, ← e4]
    exact e3
theorem q_ndiv {a b : Nat} (ha : a < 2147483648) (hb : b < 2147483648) : q_i (a : Int) / q_i (b : Int) = q_i ((a / b : Nat) : Int) := by
  refine q_i_div ⟨by omega, by omega⟩ ⟨by omega, by omega⟩ ?_
  have h1 : (a : Int).tdiv (b : Int) = ((a / b : Nat) : Int) := rfl
  have h2 := Nat.div_le_self a b
  rw [h1]
  generalize a / b = q at h2 ⊢
  exact ⟨by omega, by omega⟩
theorem q_nrem {a b : Nat} (ha : a < 2147483648) (hb : b < 2147483648) : q_i (a : Int) - q_i (a : Int) / q_i (b : Int) * q_i (b : Int) = q_i ((a % b : Nat) : Int) := by
  refine q_i_rem ⟨by omega, by omega⟩ ⟨by omega, by omega⟩ ?_
  have h1 : (a : Int).tdiv (b : Int) = ((a / b : Nat) : Int) := rfl
  have h2 := Nat.div_le_self a b
  rw [h1]
  generalize a / b = q at h2 ⊢
  exact ⟨by omega, by omega⟩
theorem q_nrem0 {a b : Nat} (ha : a < 2147483648) (hb : b < 2147483648) : (q_i (a : Int) - q_i (a : Int) / q_i (b : Int) * q_i (b : Int) = 0) ↔ b ∣ a := by
  rw [q_nrem ha hb, show (0 : Int32) = q_i ((0 : Nat) : Int) from rfl, q_neq (Nat.lt_of_le_of_lt (Nat.mod_le a b) ha) (by decide)]
  exact ⟨Nat.dvd_of_mod_eq_zero, Nat.mod_eq_zero_of_dvd⟩
theorem q_nmul (a b : Nat) : q_i (a : Int) * q_i (b : Int) = q_i ((a * b : Nat) : Int) := by
  rw [q_i_mul]
  rfl
/-- the class counts -/
theorem p_X3_countLoop {d R : Int} {w : Nat} {z : q_Z} (hdc : q_dc d R) (h4 : q_d4 d) (hT : q_TC d R z) (ho : ∀ c, c < q_nc2 d R → z.1 13 c = q_i (q_or (q_J d R) c)) (hw : w ≤ 128) : ∀ (r k : Nat), k + r = q_nc2 d R → q_lp B_X3_countOrders_4 (r + 1) (q_i w, q_i (q_cnt (fun i => q_pw (q_J d R) i w = 0) k), q_i k, z) = some ((q_i w, q_i (q_Nm (q_nc2 d R) (q_J d R) w), q_i (q_nc2 d R), z), 0) := by
  have g := q_JG hdc h4
  have hn := q_nc2_le hdc h4
  intro r
  induction r with
  | zero =>
    intro k hk
    have e : k = q_nc2 d R := by omega
    subst e
    refine q_lp_end ?_
    simp only [B_X3_countOrders_4]
    by_cases c : (128 : Int32) ≤ q_i (q_nc2 d R)
    · rw [if_pos c]
      rfl
    · rw [if_neg c, hT.2.1, if_pos (by rw [q_nle (by omega) (by omega)]; omega)]
      rfl
  | succ r ih =>
    intro k hk
    have hk1 : k < q_nc2 d R := by omega
    have hb := q_or_b hdc h4 hk1
    rw [q_lp_go (s1 := (q_i w, q_i (q_cnt (fun i => q_pw (q_J d R) i w = 0) (k + 1)), q_i ((k + 1 : Nat) : Int), z))]
    · exact ih (k + 1) (by omega)
    · simp only [B_X3_countOrders_4]
      rw [if_neg (by rw [show (128 : Int32) = q_i ((128 : Nat) : Int) from rfl, q_nle (by omega) (by omega)]; omega), hT.2.1, if_neg (by rw [q_nle (by omega) (by omega)]; omega), q_nti (by omega), if_pos (by omega), q_ncl (by omega), ho k hk1, if_neg (by rw [show (0 : Int32) = q_i ((0 : Nat) : Int) from rfl, q_nle (by omega) (by omega)]; omega), if_pos (by omega), if_pos (by rw [show (0 : Int32) = q_i ((0 : Nat) : Int) from rfl, q_neq (by omega) (by omega)]; omega)]
      by_cases c : q_pw (q_J d R) k w = 0
      · rw [if_pos ((q_nrem0 (by omega) (by omega)).mpr ((q_or_dvd g hk1).mp c)), q_cnt_yes (P := fun i => q_pw (q_J d R) i w = 0) c]
        unfold T_X3_countOrders_45
        rw [q_nsu, q_nsu]
      · rw [if_neg (fun q => c ((q_or_dvd g hk1).mpr ((q_nrem0 (by omega) (by omega)).mp q))), q_cnt_no (P := fun i => q_pw (q_J d R) i w = 0) c]
        unfold T_X3_countOrders_45
        rw [q_nsu]
theorem p_X3_countOrders {d R : Int} {w : Nat} {z : q_Z} (hdc : q_dc d R) (h4 : q_d4 d) (hT : q_TC d R z) (ho : ∀ c, c < q_nc2 d R → z.1 13 c = q_i (q_or (q_J d R) c)) (hw : w ≤ 128) : F_X3_countOrders z (q_i w) = some (q_i (q_Nm (q_nc2 d R) (q_J d R) w), z) := by
  have hn := q_nc2_le hdc h4
  have a1 := p_X3_countLoop hdc h4 hT ho hw (q_nc2 d R) 0 (by omega)
  have a1 := q_lp_mono a1 (show q_nc2 d R + 1 ≤ q_fu by unfold q_fu; omega)
  have a1 : q_lp B_X3_countOrders_4 q_fu (q_i w, 0, 0, z) = _ := a1
  unfold F_X3_countOrders
  rw [a1]
  rfl
/-- rings of the class, the first j of them widened -/
def q_Rj (p : Nat) (rg : Nat → Nat) (j : Nat) : Nat → Nat := fun k => if k < j then rg k * p else rg k
def q_RZ (rc : Nat) (rg : Nat → Nat) (z : q_Z) : Prop := z.1 2 5 = q_i rc ∧ ∀ k, k < rc → z.1 16 k = q_i (rg k)
theorem p_X3_widen {p rc j : Nat} {rg : Nat → Nat} {z : q_Z} (hj : j < 16) (hrc : rc ≤ 16) (h1 : ∀ k, rc ≤ k → rg k = 1) (hz : q_RZ (max rc j) (q_Rj p rg j) z) : ∃ z2, F_X3_widenRing z (q_i j) (q_i p) = some ((), z2) ∧ q_RZ (max rc (j + 1)) (q_Rj p rg (j + 1)) z2 ∧ z2.1 2 7 = z.1 2 7 ∧ q_fz (fun n => n = 2 ∨ n = 16) z z2 := by
  have e1 : F_X3_widenRing z (q_i j) (q_i p) = if q_i (j : Int) < z.1 2 5 then T_X3_widenRing_33 z (q_i j) (q_i p) else T_X3_widenRing_33 (q_u2 (q_u2 z.1 16 j 1) 2 5 (q_i ((j + 1 : Nat) : Int)), z.2) (q_i j) (q_i p) := by
    unfold F_X3_widenRing
    rw [if_neg (by rw [show (0 : Int32) = q_i ((0 : Nat) : Int) from rfl, q_nlt (by omega) (by omega)]; omega), if_pos (by rw [show (16 : Int32) = q_i ((16 : Nat) : Int) from rfl, q_nlt (by omega) (by omega)]; omega), q_nti (by omega), if_pos (show (0 : Int) ≤ (j : Int) ∧ (j : Int) < 16 by omega), q_ncl (by omega), q_nsu]
  have e2 : ∀ y : q_Z, T_X3_widenRing_33 y (q_i j) (q_i p) = some ((), (q_u2 y.1 16 j (y.1 16 j * q_i p), y.2)) := by
    intro y
    unfold T_X3_widenRing_33
    rw [q_nti (by omega), if_pos (show (0 : Int) ≤ (j : Int) ∧ (j : Int) < 16 by omega), q_ncl (by omega)]
  have other : ∀ k, k ≠ j → q_Rj p rg (j + 1) k = q_Rj p rg j k := by
    intro k hk
    unfold q_Rj
    by_cases c : k < j
    · rw [if_pos c, if_pos (by omega)]
    · rw [if_neg c, if_neg (by omega)]
  have own : q_Rj p rg (j + 1) j = q_Rj p rg j j * p := by
    unfold q_Rj
    rw [if_pos (by omega), if_neg (by omega)]
  rw [e1, hz.1]
  by_cases c : j < rc
  · rw [if_pos (by rw [q_nlt (by omega) (by omega)]; omega), e2]
    refine ⟨_, rfl, ⟨?_, fun k hk => ?_⟩, ?_, q_fz_u z _ (Or.inr rfl)⟩
    · show q_u2 z.1 16 j (z.1 16 j * q_i p) 2 5 = _
      rw [q_u2_ne (by decide), hz.1, show max rc j = max rc (j + 1) by omega]
    · show q_u2 z.1 16 j (z.1 16 j * q_i p) 16 k = _
      rw [q_u2_at]
      by_cases e : k = j
      · rw [if_pos e, e, own, hz.2 j (by omega), q_nmul]
      · rw [if_neg e, other k e]
        exact hz.2 k (by omega)
    · show q_u2 z.1 16 j (z.1 16 j * q_i p) 2 7 = _
      rw [q_u2_ne (by decide)]
  · rw [if_neg (by rw [q_nlt (by omega) (by omega)]; omega), e2]
    have er : q_Rj p rg j j = 1 := by
      unfold q_Rj
      rw [if_neg (by omega), h1 j (by omega)]
    refine ⟨_, rfl, ⟨?_, fun k hk => ?_⟩, ?_, ?_⟩
    · show q_u2 (q_u2 (q_u2 z.1 16 j 1) 2 5 (q_i ((j + 1 : Nat) : Int))) 16 j (q_u2 (q_u2 z.1 16 j 1) 2 5 (q_i ((j + 1 : Nat) : Int)) 16 j * q_i p) 2 5 = _
      rw [q_u2_ne (by decide), q_u2_at, if_pos rfl, show max rc (j + 1) = j + 1 by omega]
    · show q_u2 (q_u2 (q_u2 z.1 16 j 1) 2 5 (q_i ((j + 1 : Nat) : Int))) 16 j (q_u2 (q_u2 z.1 16 j 1) 2 5 (q_i ((j + 1 : Nat) : Int)) 16 j * q_i p) 16 k = _
      rw [q_u2_at]
      by_cases e : k = j
      · rw [if_pos e, e, own, er, q_u2_ne (by decide), q_u2_at, if_pos rfl, show (1 : Int32) = q_i ((1 : Nat) : Int) from rfl, q_nmul]
      · rw [if_neg e, other k e, q_u2_ne (by decide), q_u2_at, if_neg e]
        exact hz.2 k (by omega)
    · show q_u2 (q_u2 (q_u2 z.1 16 j 1) 2 5 (q_i ((j + 1 : Nat) : Int))) 16 j (q_u2 (q_u2 z.1 16 j 1) 2 5 (q_i ((j + 1 : Nat) : Int)) 16 j * q_i p) 2 7 = _
      rw [q_u2_ne (by decide), q_u2_at, if_neg (by decide), q_u2_ne (by decide)]
    · refine ⟨fun n hn => ?_, fun _ _ _ _ => rfl⟩
      show q_u2 (q_u2 (q_u2 z.1 16 j 1) 2 5 (q_i ((j + 1 : Nat) : Int))) 16 j (q_u2 (q_u2 z.1 16 j 1) 2 5 (q_i ((j + 1 : Nat) : Int)) 16 j * q_i p) n = _
      rw [q_u2_ne (fun q => hn (Or.inr q)), q_u2_ne (fun q => hn (Or.inl q)), q_u2_ne (fun q => hn (Or.inr q))]
theorem p_X3_widenLoop {p rc m a l : Nat} {rg : Nat → Nat} {w3 : Int32} (hp : 2 ≤ p) (hm : m ≤ 7) (hrc : rc ≤ 16) (h1 : ∀ k, rc ≤ k → rg k = 1) (hb : p ^ (a + m) ≤ 128) (hl : l * p ^ m ≤ 128) : ∀ (r j : Nat) (z : q_Z), j + r = m → q_RZ (max rc j) (q_Rj p rg j) z → ∃ z2, q_lp B_X3_findRings_59 (r + 1) (q_i ((l * p ^ r : Nat) : Int), q_i p, w3, q_i ((p ^ (a + m) : Nat) : Int), q_i ((p ^ (a + j) : Nat) : Int), q_i j, z) = some ((q_i l, q_i p, w3, q_i ((p ^ (a + m) : Nat) : Int), q_i ((p ^ (a + m) : Nat) : Int), q_i m, z2), 0) ∧ q_RZ (max rc m) (q_Rj p rg m) z2 ∧ z2.1 2 7 = z.1 2 7 ∧ q_fz (fun n => n = 2 ∨ n = 16) z z2 := by
  have p0 : 0 < p := by omega
  have pb : p ≤ 128 ∨ m = 0 := by
    rcases Nat.eq_zero_or_pos m with q | q
    · exact Or.inr q
    · have := Nat.pow_le_pow_right p0 (show 1 ≤ a + m by omega)
      rw [Nat.pow_one] at this
      exact Or.inl (by omega)
  intro r
  induction r with
  | zero =>
    intro j z hj hz
    have e : j = m := by omega
    subst e
    refine ⟨z, q_lp_end ?_, hz, rfl, q_fz_rfl _ z⟩
    simp only [B_X3_findRings_59]
    rw [if_pos (by rw [q_nle (by omega) (by omega)]; omega), Nat.pow_zero, Nat.mul_one]
  | succ r ih =>
    intro j z hj hz
    obtain ⟨z1, a1, a2, a3, a4⟩ := p_X3_widen (p := p) (j := j) (by omega) hrc h1 hz
    obtain ⟨z2, b1, b2, b3, b4⟩ := ih (j + 1) z1 (by omega) a2
    refine ⟨z2, ?_, b2, b3.trans a3, q_fz_trans a4 b4 (fun _ q => q) (fun _ q => q)⟩
    have hlt : p ^ (a + j) < p ^ (a + m) := Nat.pow_lt_pow_right (by omega) (by omega)
    have hlr : l * p ^ (r + 1) ≤ l * p ^ m := Nat.mul_le_mul_left l (Nat.pow_le_pow_right p0 (by omega))
    rw [q_lp_go (s1 := (q_i ((l * p ^ r : Nat) : Int), q_i p, w3, q_i ((p ^ (a + m) : Nat) : Int), q_i ((p ^ (a + (j + 1)) : Nat) : Int), q_i ((j + 1 : Nat) : Int), z1))]
    · exact b1
    · simp only [B_X3_findRings_59]
      rw [if_neg (by rw [q_nle (by omega) (by omega)]; omega), if_neg (by rw [show (16 : Int32) = q_i ((16 : Nat) : Int) from rfl, q_nle (by omega) (by omega)]; omega), a1, Option.bind_some]
      dsimp only
      rw [if_pos (by rw [show (0 : Int32) = q_i ((0 : Nat) : Int) from rfl, q_neq (by omega) (by omega)]; omega), q_ndiv (by omega) (by omega), q_nmul, q_nsu, show a + (j + 1) = a + j + 1 by omega, Nat.pow_succ p (a + j), Nat.pow_succ p r, ← Nat.mul_assoc, Nat.mul_div_cancel _ p0]
