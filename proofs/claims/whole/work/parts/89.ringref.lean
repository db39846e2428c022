/-! rings of the group: the reference's small steps; one power of a prime in both -/
theorem q_Rj_ne {p j k : Nat} {rg : Nat → Nat} (hk : k ≠ j) : q_Rj p rg (j + 1) k = q_Rj p rg j k := by
  unfold q_Rj
  by_cases c : k < j
  · rw [if_pos c, if_pos (by omega)]
  · rw [if_neg c, if_neg (by omega)]
theorem q_Rj_own {p j : Nat} {rg : Nat → Nat} : q_Rj p rg (j + 1) j = q_Rj p rg j j * p := by
  unfold q_Rj
  rw [if_pos (by omega), if_neg (by omega)]
theorem q_Rj_0 {p : Nat} {rg : Nat → Nat} : q_Rj p rg 0 = rg := by
  funext k
  unfold q_Rj
  rw [if_neg (by omega)]
theorem p_X10_countLoop {d R : Int} {w : Nat} {z : q_Z} {l1 l2 l4 : Int32} (hdc : q_dc d R) (h4 : q_d4 d) (h23 : z.1 128 23 = q_i (q_nc2 d R)) (ho : ∀ c, c < q_nc2 d R → z.1 140 c = q_i (q_or (q_J d R) c)) (hw : w ≤ 128) : ∀ (r k : Nat), k + r = q_nc2 d R → q_lp B_X10_findRings_95 (r + 1) (l1, l2, q_i w, l4, q_i (q_cnt (fun i => q_pw (q_J d R) i w = 0) k), q_i k, z) = some ((l1, l2, q_i w, l4, q_i (q_Nm (q_nc2 d R) (q_J d R) w), q_i (q_nc2 d R), z), 0) := by
  have g := q_JG hdc h4
  have hn := q_nc2_le hdc h4
  intro r
  induction r with
  | zero =>
    intro k hk
    have e : k = q_nc2 d R := by omega
    subst e
    refine q_lp_end ?_
    simp only [B_X10_findRings_95]
    rw [h23, if_pos (by rw [q_nle (by omega) (by omega)]; omega)]
    rfl
  | succ r ih =>
    intro k hk
    have hk1 : k < q_nc2 d R := by omega
    have hb := q_or_b hdc h4 hk1
    rw [q_lp_go (s1 := (l1, l2, q_i w, l4, q_i (q_cnt (fun i => q_pw (q_J d R) i w = 0) (k + 1)), q_i ((k + 1 : Nat) : Int), z))]
    · exact ih (k + 1) (by omega)
    · simp only [B_X10_findRings_95]
      rw [h23, if_neg (by rw [q_nle (by omega) (by omega)]; omega), q_nti (by omega), if_pos (by omega), q_ncl (by omega), ho k hk1, if_pos (by rw [show (0 : Int32) = q_i ((0 : Nat) : Int) from rfl, q_neq (by omega) (by omega)]; omega)]
      by_cases c : q_pw (q_J d R) k w = 0
      · rw [if_pos ((q_nrem0 (by omega) (by omega)).mpr ((q_or_dvd g hk1).mp c)), q_cnt_yes (P := fun i => q_pw (q_J d R) i w = 0) c]
        unfold T_X10_findRings_123
        rw [q_nsu, q_nsu]
      · rw [if_neg (fun q => c ((q_or_dvd g hk1).mpr ((q_nrem0 (by omega) (by omega)).mp q))), q_cnt_no (P := fun i => q_pw (q_J d R) i w = 0) c]
        unfold T_X10_findRings_123
        rw [q_nsu, Int32.add_zero]
theorem p_X10_manyLoop {p : Nat} {z : q_Z} {l1 l3 l5 : Int32} (hp : 2 ≤ p) : ∀ (r j : Nat), p ^ r ≤ 128 → q_lp B_X10_findRings_142 (r + 1) (l1, q_i p, l3, l5, q_i j, q_i ((p ^ r : Nat) : Int), z) = some ((l1, q_i p, l3, l5, q_i ((j + r : Nat) : Int), 1, z), 0) := by
  intro r
  induction r with
  | zero =>
    intro j hb
    refine q_lp_end ?_
    simp only [B_X10_findRings_142]
    rw [if_pos (by rw [show (1 : Int32) = q_i ((1 : Nat) : Int) from rfl, q_nle (by omega) (by omega), Nat.pow_zero]; omega), Nat.pow_zero]
    rfl
  | succ r ih =>
    intro j hb
    have p0 : 0 < p := by omega
    have h1 : 0 < p ^ r := Nat.pow_pos p0
    rw [Nat.pow_succ] at hb
    have h2 : 1 * p ≤ p ^ r * p := Nat.mul_le_mul_right p h1
    have h3 : p ^ r * 1 ≤ p ^ r * p := Nat.mul_le_mul_left _ p0
    rw [q_lp_go (s1 := (l1, q_i p, l3, l5, q_i ((j + 1 : Nat) : Int), q_i ((p ^ r : Nat) : Int), z))]
    · rw [ih (j + 1) (by omega), show j + 1 + r = j + (r + 1) by omega]
    · simp only [B_X10_findRings_142]
      rw [Nat.pow_succ, if_neg (by rw [show (1 : Int32) = q_i ((1 : Nat) : Int) from rfl, q_nle (by omega) (by omega)]; omega), if_pos (by rw [show (0 : Int32) = q_i ((0 : Nat) : Int) from rfl, q_neq (by omega) (by omega)]; omega), q_ndiv (by omega) (by omega), q_nsu, Nat.mul_div_cancel _ p0]
theorem p_X10_wideLoop {p m l : Nat} {rg : Nat → Nat} {l3 l5 : Int32} (hp : 2 ≤ p) (hp2 : p ≤ 128) (hm : m ≤ 7) (hl : l * p ^ m ≤ 128) : ∀ (r j : Nat) (z : q_Z), j + r = m → (∀ k, k < 20 → z.1 139 k = q_i (q_Rj p rg j k)) → ∃ z2, q_lp B_X10_findRings_163 (r + 1) (q_i ((l * p ^ r : Nat) : Int), q_i p, l3, l5, q_i m, q_i j, z) = some ((q_i l, q_i p, l3, l5, q_i m, q_i m, z2), 0) ∧ (∀ k, k < 20 → z2.1 139 k = q_i (q_Rj p rg m k)) ∧ (∀ n, n ≠ 139 → z2.1 n = z.1 n) ∧ z2.2 = z.2 := by
  have p0 : 0 < p := by omega
  intro r
  induction r with
  | zero =>
    intro j z hj hz
    have e : j = m := by omega
    subst e
    refine ⟨z, q_lp_end ?_, hz, fun _ _ => rfl, rfl⟩
    simp only [B_X10_findRings_163]
    rw [if_pos (by rw [q_nle (by omega) (by omega)]; omega), Nat.pow_zero, Nat.mul_one]
  | succ r ih =>
    intro j z hj hz
    obtain ⟨z2, b1, b2, b3, b4⟩ := ih (j + 1) (q_u2 z.1 139 j (q_i ((q_Rj p rg j j * p : Nat) : Int)), z.2) (by omega) (by
      intro k hk
      show q_u2 z.1 139 j (q_i ((q_Rj p rg j j * p : Nat) : Int)) 139 k = _
      rw [q_u2_at]
      by_cases e : k = j
      · rw [if_pos e, e, q_Rj_own]
      · rw [if_neg e, q_Rj_ne e]
        exact hz k hk)
    refine ⟨z2, ?_, b2, fun n hn => (b3 n hn).trans (q_u2_ne hn), b4⟩
    have hlr : l * p ^ (r + 1) ≤ l * p ^ m := Nat.mul_le_mul_left l (Nat.pow_le_pow_right p0 (by omega))
    rw [q_lp_go (s1 := (q_i ((l * p ^ r : Nat) : Int), q_i p, l3, l5, q_i m, q_i ((j + 1 : Nat) : Int), (q_u2 z.1 139 j (q_i ((q_Rj p rg j j * p : Nat) : Int)), z.2)))]
    · exact b1
    · simp only [B_X10_findRings_163]
      rw [if_neg (by rw [q_nle (by omega) (by omega)]; omega), q_nti (by omega), if_pos (by omega), if_pos (by rw [show (0 : Int32) = q_i ((0 : Nat) : Int) from rfl, q_neq (by omega) (by omega)]; omega), q_ncl (by omega), hz j (by omega), q_nmul, q_ndiv (by omega) (by omega), q_nsu, Nat.pow_succ p r, ← Nat.mul_assoc, Nat.mul_div_cancel _ p0]
/-- the reference while it finds rings -/
def q_RY (d R : Int) (rc : Nat) (rg : Nat → Nat) (z : q_Z) : Prop := z.1 128 23 = q_i (q_nc2 d R) ∧ (∀ c, c < q_nc2 d R → z.1 140 c = q_i (q_or (q_J d R) c)) ∧ z.1 128 31 = q_i rc ∧ ∀ k, k < 20 → z.1 139 k = q_i (rg k)
def q_f9 (z z2 : q_Z) : Prop := (∀ n, n ≠ 128 → n ≠ 139 → z2.1 n = z.1 n) ∧ (∀ k, k ≠ 31 → z2.1 128 k = z.1 128 k) ∧ z2.2 = z.2
theorem q_f9_rfl (z : q_Z) : q_f9 z z := ⟨fun _ _ _ => rfl, fun _ _ => rfl, rfl⟩
theorem q_f9_trans {x y z : q_Z} (h1 : q_f9 x y) (h2 : q_f9 y z) : q_f9 x z := ⟨fun n a b => (h2.1 n a b).trans (h1.1 n a b), fun k a => (h2.2.1 k a).trans (h1.2.1 k a), h2.2.2.trans h1.2.2⟩
/-- the class while it finds rings -/
def q_RX (d R : Int) (rc : Nat) (rg : Nat → Nat) (z : q_Z) : Prop := q_TC d R z ∧ (∀ c, c < q_nc2 d R → z.1 13 c = q_i (q_or (q_J d R) c)) ∧ q_RZ rc rg z
theorem p_X10_mid {d R : Int} {p k a m l rc : Nat} {rg : Nat → Nat} {z : q_Z} (hdc : q_dc d R) (h4 : q_d4 d) (hp : 2 ≤ p) (ea : q_Nm (q_nc2 d R) (q_J d R) (p ^ k) = p ^ a) (eb : q_Nm (q_nc2 d R) (q_J d R) (p ^ (k + 1)) = p ^ (a + m)) (m0 : 0 < m) (hm : m ≤ 7) (hb : p ^ (a + m) ≤ 128) (hl : l * p ^ m ≤ 128) (hk : p ^ (k + 1) ≤ 128) (hrc : rc ≤ 16) (hz : q_RY d R rc rg z) : ∃ z2, B_X10_findRings_79 (q_i ((l * p ^ m : Nat) : Int), q_i p, q_i ((p ^ k : Nat) : Int), q_i (q_Nm (q_nc2 d R) (q_J d R) (p ^ k)), z) = some ((q_i l, q_i p, q_i ((p ^ (k + 1) : Nat) : Int), q_i (q_Nm (q_nc2 d R) (q_J d R) (p ^ (k + 1))), z2), 0) ∧ q_RY d R (max rc m) (q_Rj p rg m) z2 ∧ q_f9 z z2 := by
  have p0 : 0 < p := by omega
  have hn := q_nc2_le hdc h4
  have pp : p ≤ 128 := by
    have := Nat.pow_le_pow_right p0 (show 1 ≤ a + m by omega)
    rw [Nat.pow_one] at this
    omega
  have pa : 0 < p ^ a := Nat.pow_pos p0
  have pam : p ^ a ≤ p ^ (a + m) := Nat.pow_le_pow_right p0 (by omega)
  have pm : p ^ m ≤ p ^ (a + m) := Nat.pow_le_pow_right p0 (by omega)
  obtain ⟨h23, ho, h31, hr⟩ := hz
  have c1 := p_X10_countLoop (z := z) (w := p ^ (k + 1)) (l1 := q_i ((l * p ^ m : Nat) : Int)) (l2 := q_i p) (l4 := q_i (q_Nm (q_nc2 d R) (q_J d R) (p ^ k))) hdc h4 h23 ho hk (q_nc2 d R) 0 (by omega)
  have c1 := q_lp_mono c1 (show q_nc2 d R + 1 ≤ q_fu by unfold q_fu; omega)
  have c1 : q_lp B_X10_findRings_95 q_fu (q_i ((l * p ^ m : Nat) : Int), q_i p, q_i ((p ^ (k + 1) : Nat) : Int), q_i (q_Nm (q_nc2 d R) (q_J d R) (p ^ k)), 0, 0, z) = _ := c1
  have c2 := p_X10_manyLoop (z := z) (l1 := q_i ((l * p ^ m : Nat) : Int)) (l3 := q_i ((p ^ (k + 1) : Nat) : Int)) (l5 := q_i (q_Nm (q_nc2 d R) (q_J d R) (p ^ (k + 1)))) hp m 0 (by omega)
  have c2 := q_lp_mono c2 (show m + 1 ≤ q_fu by unfold q_fu; omega)
  rw [Nat.zero_add] at c2
  have c2 : q_lp B_X10_findRings_142 q_fu (q_i ((l * p ^ m : Nat) : Int), q_i p, q_i ((p ^ (k + 1) : Nat) : Int), q_i (q_Nm (q_nc2 d R) (q_J d R) (p ^ (k + 1))), 0, q_i ((p ^ m : Nat) : Int), z) = _ := c2
  obtain ⟨z2, c3, c4, c5, c6⟩ := p_X10_wideLoop (rg := rg) (l3 := q_i ((p ^ (k + 1) : Nat) : Int)) (l5 := q_i (q_Nm (q_nc2 d R) (q_J d R) (p ^ (k + 1)))) hp pp hm hl m 0 z (by omega) (by rw [q_Rj_0]; exact hr)
  have c3 := q_lp_mono c3 (show m + 1 ≤ q_fu by unfold q_fu; omega)
  have c3 : q_lp B_X10_findRings_163 q_fu (q_i ((l * p ^ m : Nat) : Int), q_i p, q_i ((p ^ (k + 1) : Nat) : Int), q_i (q_Nm (q_nc2 d R) (q_J d R) (p ^ (k + 1))), q_i m, 0, z) = _ := c3
  have e128 : z2.1 128 = z.1 128 := c5 128 (by decide)
  have fin : ∀ t, t = q_i ((max rc m : Nat) : Int) → q_RY d R (max rc m) (q_Rj p rg m) (q_u2 z2.1 128 31 t, z2.2) ∧ q_f9 z (q_u2 z2.1 128 31 t, z2.2) := by
    intro t ht
    refine ⟨⟨?_, fun c hc => ?_, ?_, fun i hi => ?_⟩, fun n n1 n2 => ?_, fun i hi => ?_, c6⟩
    · show q_u2 z2.1 128 31 t 128 23 = _
      rw [q_u2_at, if_neg (by decide), e128]
      exact h23
    · show q_u2 z2.1 128 31 t 140 c = _
      rw [q_u2_ne (by decide), c5 140 (by decide)]
      exact ho c hc
    · show q_u2 z2.1 128 31 t 128 31 = _
      rw [q_u2_at, if_pos rfl, ht]
    · show q_u2 z2.1 128 31 t 139 i = _
      rw [q_u2_ne (by decide)]
      exact c4 i hi
    · show q_u2 z2.1 128 31 t n = _
      rw [q_u2_ne n1]
      exact c5 n n2
    · show q_u2 z2.1 128 31 t 128 i = _
      rw [q_u2_at, if_neg hi, e128]
  have dv : p ∣ l * p ^ m := Nat.dvd_trans (by have := Nat.pow_dvd_pow p (show 1 ≤ m by omega); rw [Nat.pow_one] at this; exact this) (Nat.dvd_mul_left _ _)
  have run : ∀ X, (if q_i (m : Int) ≤ z2.1 128 31 then T_X10_findRings_210 z2 (q_i l) (q_i p) (q_i ((p ^ (k + 1) : Nat) : Int)) (q_i (q_Nm (q_nc2 d R) (q_J d R) (p ^ (k + 1)))) (z2.1 128 31) else T_X10_findRings_210 z2 (q_i l) (q_i p) (q_i ((p ^ (k + 1) : Nat) : Int)) (q_i (q_Nm (q_nc2 d R) (q_J d R) (p ^ (k + 1)))) (q_i m)) = X → B_X10_findRings_79 (q_i ((l * p ^ m : Nat) : Int), q_i p, q_i ((p ^ k : Nat) : Int), q_i (q_Nm (q_nc2 d R) (q_J d R) (p ^ k)), z) = X := by
    intro X hX
    simp only [B_X10_findRings_79]
    rw [if_pos (by rw [show (0 : Int32) = q_i ((0 : Nat) : Int) from rfl, q_neq (by omega) (by omega)]; omega), if_pos ((q_nrem0 (by omega) (by omega)).mpr dv), q_nmul, ← Nat.pow_succ, c1, Option.bind_some]
    dsimp only
    rw [if_pos rfl, if_pos (by rw [ea, show (0 : Int32) = q_i ((0 : Nat) : Int) from rfl, q_neq (by omega) (by omega)]; omega)]
    have ed : q_i (q_Nm (q_nc2 d R) (q_J d R) (p ^ (k + 1))) / q_i (q_Nm (q_nc2 d R) (q_J d R) (p ^ k)) = q_i ((p ^ m : Nat) : Int) := by
      rw [ea, eb, q_ndiv (by omega) (by omega), Nat.pow_add, Nat.mul_div_cancel_left _ pa]
    rw [ed, c2, Option.bind_some]
    dsimp only
    rw [if_pos rfl, c3, Option.bind_some]
    dsimp only
    rw [if_pos rfl]
    exact hX
  by_cases c : m ≤ rc
  · obtain ⟨f1, f2⟩ := fin (z2.1 128 31) (by rw [e128, h31, show max rc m = rc by omega])
    refine ⟨_, run _ ?_, f1, f2⟩
    rw [if_pos (by rw [e128, h31, q_nle (by omega) (by omega)]; omega)]
    rfl
  · obtain ⟨f1, f2⟩ := fin (q_i m) (by rw [show max rc m = m by omega])
    refine ⟨_, run _ ?_, f1, f2⟩
    rw [if_neg (by rw [e128, h31, q_nle (by omega) (by omega)]; omega)]
    rfl
theorem p_X3_mid {d R : Int} {p k a m l rc : Nat} {rg : Nat → Nat} {z : q_Z} (hdc : q_dc d R) (h4 : q_d4 d) (hp : 2 ≤ p) (ea : q_Nm (q_nc2 d R) (q_J d R) (p ^ k) = p ^ a) (eb : q_Nm (q_nc2 d R) (q_J d R) (p ^ (k + 1)) = p ^ (a + m)) (m0 : 0 < m) (hm : m ≤ 7) (hb : p ^ (a + m) ≤ 128) (hl : l * p ^ m ≤ 128) (hk : p ^ (k + 1) ≤ 128) (hrc : rc ≤ 16) (h1 : ∀ k, rc ≤ k → rg k = 1) (hz : q_RX d R rc rg z) : ∃ z2, B_X3_findRings_32 (q_i ((l * p ^ m : Nat) : Int), q_i p, q_i ((p ^ (k + 1) : Nat) : Int), q_i (q_Nm (q_nc2 d R) (q_J d R) (p ^ k)), z) = some ((q_i l, q_i p, q_i ((p ^ (k + 1 + 1) : Nat) : Int), q_i (q_Nm (q_nc2 d R) (q_J d R) (p ^ (k + 1))), z2), 0) ∧ q_RX d R (max rc m) (q_Rj p rg m) z2 ∧ z2.1 2 7 = z.1 2 7 ∧ q_fz (fun n => n = 2 ∨ n = 16) z z2 := by
  have p0 : 0 < p := by omega
  have pp : p ≤ 128 := by
    have := Nat.pow_le_pow_right p0 (show 1 ≤ a + m by omega)
    rw [Nat.pow_one] at this
    omega
  obtain ⟨hT, ho, hZ⟩ := hz
  have c1 := p_X3_countOrders hdc h4 hT ho hk
  obtain ⟨z2, b1, b2, b3, b4⟩ := p_X3_widenLoop (w3 := q_i ((p ^ (k + 1) : Nat) : Int)) hp hm hrc h1 hb hl m 0 z (by omega) (by rw [q_Rj_0, show max rc 0 = rc by omega]; exact hZ)
  have b1 := q_lp_mono b1 (show m + 1 ≤ q_fu by unfold q_fu; omega)
  have b1 : q_lp B_X3_findRings_59 q_fu (q_i ((l * p ^ m : Nat) : Int), q_i p, q_i ((p ^ (k + 1) : Nat) : Int), q_i ((p ^ (a + m) : Nat) : Int), q_i ((p ^ a : Nat) : Int), 0, z) = _ := b1
  have dv : p ∣ l * p ^ m := Nat.dvd_trans (by have := Nat.pow_dvd_pow p (show 1 ≤ m by omega); rw [Nat.pow_one] at this; exact this) (Nat.dvd_mul_left _ _)
  refine ⟨z2, ?_, ⟨q_TC_fz hT b4 (fun n hn => by omega), fun c hc => by rw [b4.1 13 (by decide)]; exact ho c hc, b2⟩, b3, b4⟩
  simp only [B_X3_findRings_32]
  rw [if_pos (by rw [show (0 : Int32) = q_i ((0 : Nat) : Int) from rfl, q_neq (by omega) (by omega)]; omega), if_pos ((q_nrem0 (by omega) (by omega)).mpr dv), if_neg (by rw [show (128 : Int32) = q_i ((128 : Nat) : Int) from rfl, q_nlt (by omega) (by omega)]; omega), c1, Option.bind_some]
  dsimp only
  rw [eb, ea, b1, Option.bind_some]
  dsimp only
  rw [if_pos rfl]
  unfold T_X3_findRings_96
  rw [q_nmul, ← Nat.pow_succ]
