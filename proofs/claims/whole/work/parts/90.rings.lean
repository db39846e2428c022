/-! rings of the group: both find the same -/
theorem q_mid_both {d R : Int} {p c0 : Nat} (hdc : q_dc d R) (h4 : q_d4 d) (hp : q_pr p) (hpb : p ≤ 128) (hc : ¬ p ∣ c0) : ∀ (N left k rc : Nat) (rg : Nat → Nat), left < N → 0 < left → left ≤ 128 → q_nc2 d R = c0 * left * q_Nm (q_nc2 d R) (q_J d R) (p ^ k) → p ^ k ≤ q_Nm (q_nc2 d R) (q_J d R) (p ^ k) → rc ≤ 16 → (∀ i, rc ≤ i → rg i = 1) → ∃ left2 k2 rc2 rg2, ¬ p ∣ left2 ∧ 0 < left2 ∧ left2 ∣ left ∧ q_nc2 d R = c0 * left2 * q_Nm (q_nc2 d R) (q_J d R) (p ^ k2) ∧ rc2 ≤ 16 ∧ (∀ i, rc2 ≤ i → rg2 i = 1) ∧ (∀ z, q_RX d R rc rg z → ∃ z2, q_lp B_X3_findRings_32 N (q_i left, q_i p, q_i ((p ^ (k + 1) : Nat) : Int), q_i (q_Nm (q_nc2 d R) (q_J d R) (p ^ k)), z) = some ((q_i left2, q_i p, q_i ((p ^ (k2 + 1) : Nat) : Int), q_i (q_Nm (q_nc2 d R) (q_J d R) (p ^ k2)), z2), 0) ∧ q_RX d R rc2 rg2 z2 ∧ z2.1 2 7 = z.1 2 7 ∧ q_fz (fun n => n = 2 ∨ n = 16) z z2) ∧ (∀ z, q_RY d R rc rg z → ∃ z2, q_lp B_X10_findRings_79 N (q_i left, q_i p, q_i ((p ^ k : Nat) : Int), q_i (q_Nm (q_nc2 d R) (q_J d R) (p ^ k)), z) = some ((q_i left2, q_i p, q_i ((p ^ k2 : Nat) : Int), q_i (q_Nm (q_nc2 d R) (q_J d R) (p ^ k2)), z2), 0) ∧ q_RY d R rc2 rg2 z2 ∧ q_f9 z z2) := by
  have g := q_JG hdc h4
  have hn := q_nc2_le hdc h4
  have hp2 := hp.1
  intro N
  induction N with
  | zero =>
    intro left k rc rg hN
    omega
  | succ N ih =>
    intro left k rc rg hN l0 l1 e hk hrc h1
    by_cases c : p ∣ left
    · obtain ⟨a, m, l, s1, s2, s3, s4, s5, s6, s7, s8, s9⟩ := q_ring_step g hp hc e hk c hn
      have lp : 0 < l := by
        rcases Nat.eq_zero_or_pos l with q | q
        · rw [q, Nat.zero_mul] at s5
          omega
        · exact q
      have llt : l < left := by
        have h2 : 2 ≤ p ^ m := by
          have := Nat.pow_le_pow_right (show 0 < p by omega) (show 1 ≤ m by omega)
          rw [Nat.pow_one] at this
          omega
        have h3 := Nat.mul_le_mul_left l h2
        omega
      obtain ⟨left2, k2, rc2, rg2, t1, t2, t3, t4, t5, t6, t7, t8⟩ := ih l (k + 1) (max rc m) (q_Rj p rg m) (by omega) lp (by omega) s6 s7 (by omega) (fun i hi => by
        unfold q_Rj
        rw [if_neg (by omega)]
        exact h1 i (by omega))
      refine ⟨left2, k2, rc2, rg2, t1, t2, Nat.dvd_trans t3 ⟨p ^ m, s5⟩, t4, t5, t6, fun z hz => ?_, fun z hz => ?_⟩
      · obtain ⟨z1, a1, a2, a3, a4⟩ := p_X3_mid (l := l) hdc h4 hp2 s1 s2 s3 s4 s9 (by omega) s8 hrc h1 hz
        obtain ⟨z2, b1, b2, b3, b4⟩ := t7 z1 a2
        rw [← s5] at a1
        exact ⟨z2, by rw [q_lp_go a1]; exact b1, b2, b3.trans a3, q_fz_trans a4 b4 (fun _ q => q) (fun _ q => q)⟩
      · obtain ⟨z1, a1, a2, a3⟩ := p_X10_mid (l := l) hdc h4 hp2 s1 s2 s3 s4 s9 (by omega) s8 hrc hz
        obtain ⟨z2, b1, b2, b3⟩ := t8 z1 a2
        rw [← s5] at a1
        exact ⟨z2, by rw [q_lp_go a1]; exact b1, b2, q_f9_trans a3 b3⟩
    · refine ⟨left, k, rc, rg, c, l0, Nat.dvd_refl _, e, hrc, h1, fun z hz => ⟨z, q_lp_end ?_, hz, rfl, q_fz_rfl _ z⟩, fun z hz => ⟨z, q_lp_end ?_, hz, q_f9_rfl z⟩⟩
      · simp only [B_X3_findRings_32]
        rw [if_pos (by rw [show (0 : Int32) = q_i ((0 : Nat) : Int) from rfl, q_neq (by omega) (by omega)]; omega), if_neg (fun q => c ((q_nrem0 (by omega) (by omega)).mp q))]
      · simp only [B_X10_findRings_79]
        rw [if_pos (by rw [show (0 : Int32) = q_i ((0 : Nat) : Int) from rfl, q_neq (by omega) (by omega)]; omega), if_neg (fun q => c ((q_nrem0 (by omega) (by omega)).mp q))]
theorem q_out_both {d R : Int} (hdc : q_dc d R) (h4 : q_d4 d) : ∀ (N P left c rc : Nat) (rg : Nat → Nat), P ≤ 129 → 130 ≤ N + P → 2 ≤ P → 0 < left → left ≤ 128 → q_nc2 d R = c * left → (∀ r, 2 ≤ r → r < P → ¬ r ∣ left) → (∀ r, q_pr r → P ≤ r → ¬ r ∣ c) → rc ≤ 16 → (∀ i, rc ≤ i → rg i = 1) → ∃ rc2 rg2, rc2 ≤ 16 ∧ (∀ z, q_RX d R rc rg z → ∃ w1 w2 z2, q_lp B_X3_findRings_15 N (q_i left, q_i P, z) = some ((w1, w2, z2), 0) ∧ q_RX d R rc2 rg2 z2 ∧ z2.1 2 7 = z.1 2 7 ∧ q_fz (fun n => n = 2 ∨ n = 16) z z2) ∧ (∀ z, q_RY d R rc rg z → ∃ w1 w2 z2, q_lp B_X10_findRings_60 N (q_i left, q_i P, z) = some ((w1, w2, z2), 0) ∧ q_RY d R rc2 rg2 z2 ∧ q_f9 z z2) := by
  have g := q_JG hdc h4
  have hn := q_nc2_le hdc h4
  intro N
  induction N with
  | zero =>
    intro P left c rc rg hP hN
    omega
  | succ N ih =>
    intro P left c rc rg hP hN P2 l0 l1 e hlow hhigh hrc h1
    by_cases cl : left ≤ 1
    · refine ⟨rc, rg, hrc, fun z hz => ⟨q_i left, q_i P, z, q_lp_end ?_, hz, rfl, q_fz_rfl _ z⟩, fun z hz => ⟨q_i left, q_i P, z, q_lp_end ?_, hz, q_f9_rfl z⟩⟩
      · simp only [B_X3_findRings_15]
        by_cases c2 : (128 : Int32) < q_i (P : Int)
        · rw [if_pos c2]
        · rw [if_neg c2, if_pos (by rw [show (1 : Int32) = q_i ((1 : Nat) : Int) from rfl, q_nle (by omega) (by omega)]; omega)]
      · simp only [B_X10_findRings_60]
        rw [if_pos (by rw [show (1 : Int32) = q_i ((1 : Nat) : Int) from rfl, q_nle (by omega) (by omega)]; omega)]
    · have hPl : P ≤ left := by
        rcases Nat.lt_or_ge left P with q | q
        · exact absurd (Nat.dvd_refl left) (hlow left (by omega) q)
        · exact q
      have nP : ¬ (128 : Int32) < q_i (P : Int) := by rw [show (128 : Int32) = q_i ((128 : Nat) : Int) from rfl, q_nlt (by omega) (by omega)]; omega
      have nl : ¬ q_i (left : Int) ≤ (1 : Int32) := by rw [show (1 : Int32) = q_i ((1 : Nat) : Int) from rfl, q_nle (by omega) (by omega)]; omega
      have n0 : ¬ q_i (P : Int) = (0 : Int32) := by rw [show (0 : Int32) = q_i ((0 : Nat) : Int) from rfl, q_neq (by omega) (by omega)]; omega
      by_cases cd : P ∣ left
      · have hp : q_pr P := by
          refine ⟨P2, fun a ha => ?_⟩
          rcases Nat.lt_or_ge a P with q | q
          · rcases Nat.lt_or_ge a 2 with q2 | q2
            · have : 0 < a := Nat.pos_of_dvd_of_pos ha (by omega)
              exact Or.inl (by omega)
            · exact absurd (Nat.dvd_trans ha cd) (hlow a q2 q)
          · have := Nat.le_of_dvd (by omega) ha
            exact Or.inr (by omega)
        have hN1 : q_Nm (q_nc2 d R) (q_J d R) (P ^ 0) = 1 := q_Nm_1 g
        obtain ⟨left2, k2, rc2, rg2, t1, t2, t3, t4, t5, t6, t7, t8⟩ := q_mid_both hdc h4 hp (by omega) (hhigh P hp (Nat.le_refl _)) (left + 1) left 0 rc rg (by omega) l0 l1 (by rw [hN1, Nat.mul_one]; exact e) (by rw [hN1]; exact Nat.le_refl _) hrc h1
        have l2b := Nat.le_of_dvd l0 t3
        obtain ⟨rc3, rg3, u1, u2, u3⟩ := ih (P + 1) left2 (c * q_Nm (q_nc2 d R) (q_J d R) (P ^ k2)) rc2 rg2 (by omega) (by omega) (by omega) t2 (by omega) (by
          have e2 : c * left2 * q_Nm (q_nc2 d R) (q_J d R) (P ^ k2) = c * q_Nm (q_nc2 d R) (q_J d R) (P ^ k2) * left2 := by grind
          rw [← e2]
          exact t4) (fun r r2 r3 rd => by
          rcases Nat.lt_or_ge r P with q | q
          · exact hlow r r2 q (Nat.dvd_trans rd t3)
          · have : r = P := by omega
            rw [this] at rd
            exact t1 rd) (fun r hr r3 => by
          obtain ⟨a, ea⟩ := q_Nm_pp g hp k2
          refine q_pr_mul hr (hhigh r hr (by omega)) (fun rd => ?_)
          rw [ea] at rd
          obtain ⟨b, hb⟩ := q_dvd_pp hp a rd
          have r2 := hr.1
          have bpos : b ≠ 0 := fun q => by rw [q, Nat.pow_zero] at hb; omega
          have pd : P ∣ r := by
            rw [hb]
            have := Nat.pow_dvd_pow P (show 1 ≤ b by omega)
            rw [Nat.pow_one] at this
            exact this
          rcases hr.2 P pd with q | q <;> omega) t5 t6
        refine ⟨rc3, rg3, u1, fun z hz => ?_, fun z hz => ?_⟩
        · obtain ⟨z1, a1, a2, a3, a4⟩ := t7 z hz
          have a1 := q_lp_mono a1 (show left + 1 ≤ q_fu by unfold q_fu; omega)
          rw [hN1, Nat.zero_add, Nat.pow_one] at a1
          have a1 : q_lp B_X3_findRings_32 q_fu (q_i left, q_i P, q_i P, 1, z) = _ := a1
          obtain ⟨w1, w2, z2, b1, b2, b3, b4⟩ := u2 z1 a2
          refine ⟨w1, w2, z2, ?_, b2, b3.trans a3, q_fz_trans a4 b4 (fun _ q => q) (fun _ q => q)⟩
          rw [q_lp_go (s1 := (q_i left2, q_i ((P + 1 : Nat) : Int), z1))]
          · exact b1
          · simp only [B_X3_findRings_15]
            rw [if_neg nP, if_neg nl, a1, Option.bind_some]
            dsimp only
            rw [if_pos rfl]
            unfold T_X3_findRings_107
            rw [q_nsu]
        · obtain ⟨z1, a1, a2, a3⟩ := t8 z hz
          have a1 := q_lp_mono a1 (show left + 1 ≤ q_fu by unfold q_fu; omega)
          rw [hN1, Nat.pow_zero] at a1
          have a1 : q_lp B_X10_findRings_79 q_fu (q_i left, q_i P, 1, 1, z) = _ := a1
          obtain ⟨w1, w2, z2, b1, b2, b3⟩ := u3 z1 a2
          refine ⟨w1, w2, z2, ?_, b2, q_f9_trans a3 b3⟩
          rw [q_lp_go (s1 := (q_i left2, q_i ((P + 1 : Nat) : Int), z1))]
          · exact b1
          · simp only [B_X10_findRings_60]
            rw [if_neg nl, if_pos n0, if_pos ((q_nrem0 (by omega) (by omega)).mpr cd), a1, Option.bind_some]
            dsimp only
            rw [if_pos rfl]
            unfold T_X10_findRings_220
            rw [q_nsu]
      · obtain ⟨rc3, rg3, u1, u2, u3⟩ := ih (P + 1) left c rc rg (by omega) (by omega) (by omega) l0 l1 e (fun r r2 r3 rd => by
          rcases Nat.lt_or_ge r P with q | q
          · exact hlow r r2 q rd
          · have : r = P := by omega
            rw [this] at rd
            exact cd rd) (fun r hr r3 => hhigh r hr (by omega)) hrc h1
        refine ⟨rc3, rg3, u1, fun z hz => ?_, fun z hz => ?_⟩
        · have a1 : q_lp B_X3_findRings_32 (0 + 1) (q_i left, q_i P, q_i P, 1, z) = some ((q_i left, q_i P, q_i P, 1, z), 0) := by
            refine q_lp_end ?_
            simp only [B_X3_findRings_32]
            rw [if_pos n0, if_neg (fun q => cd ((q_nrem0 (by omega) (by omega)).mp q))]
          have a1 := q_lp_mono a1 (show 0 + 1 ≤ q_fu by unfold q_fu; omega)
          obtain ⟨w1, w2, z2, b1, b2, b3, b4⟩ := u2 z hz
          refine ⟨w1, w2, z2, ?_, b2, b3, b4⟩
          rw [q_lp_go (s1 := (q_i left, q_i ((P + 1 : Nat) : Int), z))]
          · exact b1
          · simp only [B_X3_findRings_15]
            rw [if_neg nP, if_neg nl, a1, Option.bind_some]
            dsimp only
            rw [if_pos rfl]
            unfold T_X3_findRings_107
            rw [q_nsu]
        · obtain ⟨w1, w2, z2, b1, b2, b3⟩ := u3 z hz
          refine ⟨w1, w2, z2, ?_, b2, b3⟩
          rw [q_lp_go (s1 := (q_i left, q_i ((P + 1 : Nat) : Int), z))]
          · exact b1
          · simp only [B_X10_findRings_60]
            rw [if_neg nl, if_pos n0, if_neg (fun q => cd ((q_nrem0 (by omega) (by omega)).mp q))]
            unfold T_X10_findRings_220
            rw [q_nsu]
/-- what the reference's tables of the group may change -/
def q_fy (z z2 : q_Z) : Prop := (∀ n, n ≠ 128 → n < 139 ∨ 142 < n → z2.1 n = z.1 n) ∧ (∀ k, k ≠ 31 → z2.1 128 k = z.1 128 k) ∧ ∀ n, n ≠ 128 → z2.2 n = z.2 n
theorem q_fy_rfl (z : q_Z) : q_fy z z := ⟨fun _ _ _ => rfl, fun _ _ => rfl, fun _ _ => rfl⟩
theorem q_fy_trans {x y z : q_Z} (h1 : q_fy x y) (h2 : q_fy y z) : q_fy x z := ⟨fun n a b => (h2.1 n a b).trans (h1.1 n a b), fun k a => (h2.2.1 k a).trans (h1.2.1 k a), fun n a => (h2.2.2 n a).trans (h1.2.2 n a)⟩
theorem q_fy_9 {z z2 : q_Z} (h : q_f9 z z2) : q_fy z z2 := ⟨fun n a b => h.1 n a (by omega), h.2.1, fun n _ => by rw [h.2.2]⟩
theorem q_fy_L {z : q_Z} {L2 : Nat → Nat → Int64} (h : ∀ n, n ≠ 128 → L2 n = z.2 n) : q_fy z (z.1, L2) := ⟨fun _ _ _ => rfl, fun _ _ => rfl, h⟩
theorem q_fy_u {z : q_Z} {o k : Nat} (v : Int32) (ho : 139 ≤ o ∧ o ≤ 142) : q_fy z (q_u2 z.1 o k v, z.2) := ⟨fun n a b => q_u2_ne (by omega), fun i hi => by show q_u2 z.1 o k v 128 i = _; rw [q_u2_ne (by omega)], fun _ _ => rfl⟩
theorem q_Mg_fy {d R : Int} {z z2 : q_Z} (h : q_Mg d R z) (e : q_fy z z2) : q_Mg d R z2 := q_Mg_fr h (e.2.1 0 (by decide)) (e.2.1 1 (by decide))
theorem q_Mtab_fy {d R : Int} {z z2 : q_Z} (h : q_Mtab d R z) (e : q_fy z z2) : q_Mtab d R z2 := q_Mtab_fr h (e.2.1 22 (by decide)) (e.2.1 23 (by decide)) (fun n a b => e.1 n (by omega) (by omega))
theorem q_M23 {d R : Int} {z : q_Z} (h : q_Mtab d R z) : z.1 128 23 = q_i (q_nc2 d R) := by
  obtain ⟨N, M, h0, h1, h2, h3, h4, h5, h6, h7, h8, h9⟩ := h
  exact h8
theorem p_X10_ordLoop {d R : Int} (hdc : q_dc d R) (h4 : q_d4 d) : ∀ (r k : Nat) (z : q_Z), k + r = q_nc2 d R → q_Mg d R z → q_Mtab d R z → (∀ c, c < k → z.1 140 c = q_i (q_or (q_J d R) c)) → ∃ z2, q_lp B_X10_findRings_2 (r + 1) (q_i k, z) = some ((q_i (q_nc2 d R), z2), 0) ∧ (∀ c, c < q_nc2 d R → z2.1 140 c = q_i (q_or (q_J d R) c)) ∧ q_fy z z2 := by
  have hn := q_nc2_le hdc h4
  intro r
  induction r with
  | zero =>
    intro k z hk hg hT hc
    have e : k = q_nc2 d R := by omega
    subst e
    refine ⟨z, q_lp_end ?_, hc, q_fy_rfl z⟩
    simp only [B_X10_findRings_2]
    rw [q_M23 hT, if_pos (by rw [q_nle (by omega) (by omega)]; omega)]
  | succ r ih =>
    intro k z hk hg hT hc
    obtain ⟨L1, a1, a2⟩ := p_X10_orderOf hdc h4 hg hT (show k < q_nc2 d R by omega)
    have f1 : q_fy z (q_u2 z.1 140 k (q_i (q_or (q_J d R) k)), L1) := q_fy_trans (q_fy_L a2) (q_fy_u (z := (z.1, L1)) _ (by omega))
    obtain ⟨z2, b1, b2, b3⟩ := ih (k + 1) (q_u2 z.1 140 k (q_i (q_or (q_J d R) k)), L1) (by omega) (q_Mg_fy hg f1) (q_Mtab_fy hT f1) (by
      intro c hck
      show q_u2 z.1 140 k (q_i (q_or (q_J d R) k)) 140 c = _
      rw [q_u2_at]
      by_cases e : c = k
      · rw [if_pos e, e]
      · rw [if_neg e]
        exact hc c (by omega))
    refine ⟨z2, ?_, b2, q_fy_trans f1 b3⟩
    rw [q_lp_go (s1 := (q_i ((k + 1 : Nat) : Int), (q_u2 z.1 140 k (q_i (q_or (q_J d R) k)), L1)))]
    · exact b1
    · simp only [B_X10_findRings_2]
      rw [q_M23 hT, if_neg (by rw [q_nle (by omega) (by omega)]; omega), a1, Option.bind_some]
      dsimp only
      rw [q_nti (by omega), if_pos (by omega), q_ncl (by omega), q_nsu]
theorem p_X10_onesLoop : ∀ (r k : Nat) (z : q_Z), k + r = 20 → (∀ c, c < k → z.1 139 c = 1) → ∃ z2, q_lp B_X10_findRings_34 (r + 1) (q_i k, z) = some ((q_i 20, z2), 0) ∧ (∀ c, c < 20 → z2.1 139 c = 1) ∧ q_f9 z z2 ∧ z2.1 128 = z.1 128 := by
  intro r
  induction r with
  | zero =>
    intro k z hk hc
    have e : k = 20 := by omega
    subst e
    refine ⟨z, q_lp_end ?_, hc, q_f9_rfl z, rfl⟩
    simp only [B_X10_findRings_34]
    rw [if_pos (by rw [show (20 : Int32) = q_i ((20 : Nat) : Int) from rfl, q_nle (by omega) (by omega)]; omega)]
    rfl
  | succ r ih =>
    intro k z hk hc
    have f1 : q_f9 z (q_u2 z.1 139 k 1, z.2) := ⟨fun n _ b => q_u2_ne b, fun i _ => by show q_u2 z.1 139 k 1 128 i = _; rw [q_u2_ne (by decide)], rfl⟩
    obtain ⟨z2, b1, b2, b3, b4⟩ := ih (k + 1) (q_u2 z.1 139 k 1, z.2) (by omega) (by
      intro c hck
      show q_u2 z.1 139 k 1 139 c = _
      rw [q_u2_at]
      by_cases e : c = k
      · rw [if_pos e]
      · rw [if_neg e]
        exact hc c (by omega))
    refine ⟨z2, ?_, b2, q_f9_trans f1 b3, b4.trans (by show q_u2 z.1 139 k 1 128 = z.1 128; rw [q_u2_ne (by decide)])⟩
    rw [q_lp_go (s1 := (q_i ((k + 1 : Nat) : Int), (q_u2 z.1 139 k 1, z.2)))]
    · exact b1
    · simp only [B_X10_findRings_34]
      rw [if_neg (by rw [show (20 : Int32) = q_i ((20 : Nat) : Int) from rfl, q_nle (by omega) (by omega)]; omega), q_nti (by omega), if_pos (by omega), q_ncl (by omega), q_nsu]
theorem q_rings_both {d R : Int} (hdc : q_dc d R) (h4 : q_d4 d) : ∃ rc rg, rc ≤ 16 ∧ (∀ z, q_TC d R z → (∀ c, c < q_nc2 d R → z.1 13 c = q_i (q_or (q_J d R) c)) → ∃ z2, F_X3_findRings z = some ((), z2) ∧ q_RX d R rc rg z2 ∧ z2.1 2 7 = z.1 2 7 ∧ q_fz (fun n => n = 2 ∨ n = 16) z z2) ∧ (∀ z, q_Mg d R z → q_Mtab d R z → ∃ z2, F_X10_findRings z = some ((), z2) ∧ q_RY d R rc rg z2 ∧ q_fy z z2) := by
  have hn := q_nc2_le hdc h4
  have h0 := q_nc2_pos hdc h4
  obtain ⟨rc, rg, a1, a2, a3⟩ := q_out_both hdc h4 128 2 (q_nc2 d R) 1 0 (fun _ => 1) (by omega) (by omega) (by omega) h0 hn (by omega) (fun r _ _ => by omega) (fun r hr _ rd => by have := Nat.le_of_dvd (by decide) rd; have := hr.1; omega) (by omega) (fun _ _ => rfl)
  refine ⟨rc, rg, a1, fun z hT ho => ?_, fun z hg hT => ?_⟩
  · have f1 : q_fz (fun n => n = 2 ∨ n = 16) z (q_u2 z.1 2 5 0, z.2) := q_fz_u z _ (Or.inl rfl)
    obtain ⟨w1, w2, z2, b1, b2, b3, b4⟩ := a2 (q_u2 z.1 2 5 0, z.2) ⟨q_TC_fz hT f1 (fun n hn => by omega), fun c hc => by show q_u2 z.1 2 5 0 13 c = _; rw [q_u2_ne (by decide)]; exact ho c hc, by show q_u2 z.1 2 5 0 2 5 = _; rw [q_u2_at, if_pos rfl]; rfl, fun k hk => by omega⟩
    have b1 := q_lp_mono b1 (show 128 ≤ q_fu by unfold q_fu; omega)
    have b1 : q_lp B_X3_findRings_15 q_fu (q_i (q_nc2 d R), 2, (q_u2 z.1 2 5 0, z.2)) = _ := b1
    refine ⟨z2, ?_, b2, b3.trans (by show q_u2 z.1 2 5 0 2 7 = _; rw [q_u2_at, if_neg (by decide)]), q_fz_trans f1 b4 (fun _ q => q) (fun _ q => q)⟩
    unfold F_X3_findRings
    rw [hT.2.1, b1]
    rfl
  · obtain ⟨z1, b1, b2, b3⟩ := p_X10_ordLoop hdc h4 (q_nc2 d R) 0 z (by omega) hg hT (fun c hc => by omega)
    have b1 := q_lp_mono b1 (show q_nc2 d R + 1 ≤ q_fu by unfold q_fu; omega)
    have b1 : q_lp B_X10_findRings_2 q_fu (0, z) = _ := b1
    have f2 : q_f9 z1 (q_u2 z1.1 128 31 0, z1.2) := ⟨fun n a _ => q_u2_ne a, fun k hk => by show q_u2 z1.1 128 31 0 128 k = _; rw [q_u2_at, if_neg hk], rfl⟩
    obtain ⟨z2, c1, c2, c3, c4⟩ := p_X10_onesLoop 20 0 (q_u2 z1.1 128 31 0, z1.2) (by omega) (fun c hc => by omega)
    have c1 := q_lp_mono c1 (show 20 + 1 ≤ q_fu by unfold q_fu; omega)
    have c1 : q_lp B_X10_findRings_34 q_fu (0, (q_u2 z1.1 128 31 0, z1.2)) = _ := c1
    have f3 := q_f9_trans f2 c3
    have h23 : z2.1 128 23 = q_i (q_nc2 d R) := by
      rw [f3.2.1 23 (by decide)]
      exact q_M23 (q_Mtab_fy hT b3)
    obtain ⟨w1, w2, z3, e1, e2, e3⟩ := a3 z2 ⟨h23, fun c hc => by rw [f3.1 140 (by decide) (by decide)]; exact b2 c hc, by rw [c4]; show q_u2 z1.1 128 31 0 128 31 = _; rw [q_u2_at, if_pos rfl]; rfl, c2⟩
    have e1 := q_lp_mono e1 (show 128 ≤ q_fu by unfold q_fu; omega)
    have e1 : q_lp B_X10_findRings_60 q_fu (q_i (q_nc2 d R), 2, z2) = _ := e1
    refine ⟨z3, ?_, e2, q_fy_trans b3 (q_fy_9 (q_f9_trans f3 e3))⟩
    unfold F_X10_findRings
    rw [b1, Option.bind_some]
    dsimp only
    rw [if_pos rfl, c1, Option.bind_some]
    dsimp only
    rw [if_pos rfl, h23, e1]
    rfl
