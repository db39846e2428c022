/-! the class: orders of all classes -/
theorem p_X3_orderChain {d R : Int} {z : q_Z} {x : Nat} (hdc : q_dc d R) (h4 : q_d4 d) (hx : x < q_nc2 d R) (hg : q_Cg d R z) (hT : q_TC d R z) (hi : ∀ c, c < q_nc2 d R → z.1 13 c = 0 ∨ z.1 13 c = q_i (q_or (q_J d R) c)) : ∃ z2, F_X3_orderChain z (q_i x) = some ((), z2) ∧ (∀ c, c < q_nc2 d R → z2.1 13 c = 0 ∨ z2.1 13 c = q_i (q_or (q_J d R) c)) ∧ (∀ c, c < q_nc2 d R → z.1 13 c = q_i (q_or (q_J d R) c) → z2.1 13 c = q_i (q_or (q_J d R) c)) ∧ z2.1 13 x = q_i (q_or (q_J d R) x) ∧ q_fz (fun n => n = 13 ∨ n = 15) z z2 := by
  have g := q_JG hdc h4
  have hb := q_or_b hdc h4 hx
  obtain ⟨z1, a1, a2, a3⟩ := p_X3_chainLoop hdc h4 hx (q_or (q_J d R) x - 1) 0 z (by omega) hg hT (fun j hj => by omega)
  have e13 : z1.1 13 = z.1 13 := a3.1 13 (by decide)
  obtain ⟨z2, b1, b2, b3, b4, b5⟩ := p_X3_chain2 hdc h4 hx (q_or (q_J d R) x) 0 z1 (by omega) (q_TC_fz hT a3 (fun n hn => by omega)) a2 (by rw [e13]; exact hi)
  rw [e13] at b3
  have a1 := q_lp_mono a1 (show q_or (q_J d R) x - 1 + 1 ≤ q_fu by unfold q_fu; omega)
  have b1 := q_lp_mono b1 (show q_or (q_J d R) x + 1 ≤ q_fu by unfold q_fu; omega)
  have hb4 := b4 0 (Nat.le_refl _) hb.1
  rw [q_pw_1 g hx] at a1 hb4
  have a1 : q_lp B_X3_orderChain_4 q_fu (q_i x, 0, q_i x, z) = _ := a1
  have b1 : q_lp B_X3_orderChain_54 q_fu (q_i (q_or (q_J d R) x), 0, z1) = _ := b1
  refine ⟨z2, ?_, b2, b3, hb4, q_fz_trans a3 b5 (fun _ q => Or.inr q) (fun _ q => Or.inl q)⟩
  unfold F_X3_orderChain
  rw [a1, Option.bind_some]
  dsimp only
  rw [if_pos rfl]
  unfold T_X3_orderChain_41
  rw [q_nsu, show q_or (q_J d R) x - 1 + 1 = q_or (q_J d R) x by omega, show (128 : Int32) = q_i 128 from rfl, p_J9_min ⟨by omega, by omega⟩ ⟨by omega, by omega⟩, Option.bind_some, show min ((q_or (q_J d R) x : Nat) : Int) 128 = ((q_or (q_J d R) x : Nat) : Int) by omega]
  dsimp only
  rw [b1]
  rfl
theorem p_X3_prep35 : ∀ (r k : Nat) (z : q_Z), k + r = 128 → (∀ j, j < k → z.1 13 j = 0 ∧ z.1 14 j = -1) → ∃ z2, q_lp B_X3_prepare_35 (r + 1) (q_i k, z) = some ((q_i 128, z2), 0) ∧ (∀ j, j < 128 → z2.1 13 j = 0 ∧ z2.1 14 j = -1) ∧ q_fz (fun n => n = 13 ∨ n = 14) z z2 := by
  intro r
  induction r with
  | zero =>
    intro k z hk hj
    have e : k = 128 := by omega
    subst e
    refine ⟨z, q_lp_end ?_, hj, q_fz_rfl _ z⟩
    simp only [B_X3_prepare_35]
    rw [if_pos (by rw [show (128 : Int32) = q_i ((128 : Nat) : Int) from rfl, q_nle (by omega) (by omega)]; omega)]
    rfl
  | succ r ih =>
    intro k z hk hj
    have f1 : q_fz (fun n => n = 13 ∨ n = 14) z (q_u2 z.1 13 k 0, z.2) := q_fz_u z _ (Or.inl rfl)
    have f2 : q_fz (fun n => n = 13 ∨ n = 14) z (q_u2 (q_u2 z.1 13 k 0) 14 k (-1), z.2) := q_fz_trans f1 (q_fz_u (P := fun n => n = 13 ∨ n = 14) (q_u2 z.1 13 k 0, z.2) (-1) (Or.inr rfl)) (fun _ q => q) (fun _ q => q)
    obtain ⟨z2, b1, b2, b3⟩ := ih (k + 1) (q_u2 (q_u2 z.1 13 k 0) 14 k (-1), z.2) (by omega) (by
      intro j hjk
      refine ⟨?_, ?_⟩
      · show q_u2 (q_u2 z.1 13 k 0) 14 k (-1) 13 j = 0
        rw [q_u2_ne (by decide), q_u2_at]
        by_cases c : j = k
        · rw [if_pos c]
        · rw [if_neg c]
          exact (hj j (by omega)).1
      · show q_u2 (q_u2 z.1 13 k 0) 14 k (-1) 14 j = -1
        rw [q_u2_at]
        by_cases c : j = k
        · rw [if_pos c]
        · rw [if_neg c, q_u2_ne (by decide)]
          exact (hj j (by omega)).2)
    refine ⟨z2, ?_, b2, q_fz_trans f2 b3 (fun _ q => q) (fun _ q => q)⟩
    rw [q_lp_go (s1 := (q_i ((k + 1 : Nat) : Int), (q_u2 (q_u2 z.1 13 k 0) 14 k (-1), z.2)))]
    · exact b1
    · simp only [B_X3_prepare_35]
      rw [if_neg (by rw [show (128 : Int32) = q_i ((128 : Nat) : Int) from rfl, q_nle (by omega) (by omega)]; omega), q_nti (by omega), if_pos (by omega), q_ncl (by omega), q_nsu]
theorem p_X3_prep64 {d R : Int} (hdc : q_dc d R) (h4 : q_d4 d) : ∀ (r k : Nat) (z : q_Z), k + r = q_nc2 d R → q_Cg d R z → q_TC d R z → (∀ c, c < q_nc2 d R → z.1 13 c = 0 ∨ z.1 13 c = q_i (q_or (q_J d R) c)) → (∀ c, c < k → z.1 13 c = q_i (q_or (q_J d R) c)) → ∃ z2, q_lp B_X3_prepare_64 (r + 1) (q_i k, z) = some ((q_i (q_nc2 d R), z2), 0) ∧ (∀ c, c < q_nc2 d R → z2.1 13 c = q_i (q_or (q_J d R) c)) ∧ q_fz (fun n => n = 13 ∨ n = 15) z z2 := by
  have hn := q_nc2_le hdc h4
  intro r
  induction r with
  | zero =>
    intro k z hk hg hT hi hc
    have e : k = q_nc2 d R := by omega
    subst e
    refine ⟨z, q_lp_end ?_, hc, q_fz_rfl _ z⟩
    simp only [B_X3_prepare_64]
    by_cases c : (128 : Int32) ≤ q_i (q_nc2 d R)
    · rw [if_pos c]
    · rw [if_neg c, hT.2.1, if_pos (by rw [q_nle (by omega) (by omega)]; omega)]
  | succ r ih =>
    intro k z hk hg hT hi hc
    have hb := q_or_b hdc h4 (show k < q_nc2 d R by omega)
    have head : ∀ (A : Int32 → Option ((Int32 × q_Z) × Nat)), (if (128 : Int32) ≤ q_i (k : Int) then some ((q_i (k : Int), z), 1) else if z.1 3 10 ≤ q_i (k : Int) then some ((q_i (k : Int), z), 1) else if 0 ≤ Int32.toInt (q_i (k : Int)) ∧ Int32.toInt (q_i (k : Int)) < 128 then A (z.1 13 (Int32.toNatClampNeg (q_i (k : Int)))) else none) = A (z.1 13 k) := by
      intro A
      rw [if_neg (by rw [show (128 : Int32) = q_i ((128 : Nat) : Int) from rfl, q_nle (by omega) (by omega)]; omega), hT.2.1, if_neg (by rw [q_nle (by omega) (by omega)]; omega), q_nti (by omega), if_pos (by omega), q_ncl (by omega)]
    rcases hi k (by omega) with q | q
    · obtain ⟨z1, a1, a2, a3, a4, a5⟩ := p_X3_orderChain hdc h4 (show k < q_nc2 d R by omega) hg hT hi
      obtain ⟨z2, b1, b2, b3⟩ := ih (k + 1) z1 (by omega) (q_Cg_fz hg a5 (fun n hn => by omega)) (q_TC_fz hT a5 (fun n hn => by omega)) a2 (by
        intro c hck
        by_cases e : c = k
        · rw [e]
          exact a4
        · exact a3 c (by omega) (hc c (by omega)))
      refine ⟨z2, ?_, b2, q_fz_trans a5 b3 (fun _ q => q) (fun _ q => q)⟩
      rw [q_lp_go (s1 := (q_i ((k + 1 : Nat) : Int), z1))]
      · exact b1
      · simp only [B_X3_prepare_64]
        refine (head (fun v => if v = 0 then (F_X3_orderChain z (q_i (k : Int))).bind fun (_, z8) => T_X3_prepare_96 z8 (q_i (k : Int)) else T_X3_prepare_96 z (q_i (k : Int)))).trans ?_
        dsimp only
        rw [if_pos q, a1, Option.bind_some]
        dsimp only
        unfold T_X3_prepare_96
        rw [q_nsu]
    · obtain ⟨z2, b1, b2, b3⟩ := ih (k + 1) z (by omega) hg hT hi (by
        intro c hck
        by_cases e : c = k
        · rw [e]
          exact q
        · exact hc c (by omega))
      refine ⟨z2, ?_, b2, b3⟩
      rw [q_lp_go (s1 := (q_i ((k + 1 : Nat) : Int), z))]
      · exact b1
      · simp only [B_X3_prepare_64]
        refine (head (fun v => if v = 0 then (F_X3_orderChain z (q_i (k : Int))).bind fun (_, z8) => T_X3_prepare_96 z8 (q_i (k : Int)) else T_X3_prepare_96 z (q_i (k : Int)))).trans ?_
        dsimp only
        rw [if_neg (by rw [q, show (0 : Int32) = q_i ((0 : Nat) : Int) from rfl, q_neq (by omega) (by omega)]; omega)]
        unfold T_X3_prepare_96
        rw [q_nsu]
