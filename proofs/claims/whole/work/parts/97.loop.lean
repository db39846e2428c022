/-! the law's loop -/
theorem q_ofNat (n : Nat) : Int32.ofNat n = q_i n := by
  apply Int32.toBitVec_inj.mp
  apply BitVec.eq_of_toNat_eq
  show (BitVec.ofNat 32 n).toNat = (BitVec.ofInt 32 (n : Int)).toNat
  rw [BitVec.toNat_ofNat, BitVec.toNat_ofInt]
  omega
def q_LI (z : q_Z) : Prop := ∃ s, q_V s ∧ q_C s z ∧ q_M s z
theorem q_go995 (L : Nat) (xs : Nat → Int32) {k : Nat} {z : q_Z} {s : q_SS} (v : q_V s) (hC : q_C s z) (hM : q_M s z) {o : Option ((Int32 × q_Z) × Nat)} (h : o = T_L_law_995 L xs z (q_i k)) : ∃ z2, o = some ((q_i ((k + 7 : Nat) : Int), z2), 0) ∧ q_LI z2 := by
  refine ⟨z, ?_, s, v, hC, hM⟩
  rw [h]
  unfold T_L_law_995
  rw [show (7 : Int32) = q_i 7 from rfl, q_i_add]
  rfl
set_option maxHeartbeats 4000000 in
set_option maxRecDepth 100000 in
theorem q_law_step (L : Nat) (xs : Nat → Int32) (hL : L ≤ 3584) {k : Nat} {z : q_Z} (hk : k + 7 ≤ L) (hz : q_LI z) : ∃ z2, B_L_law_18 L xs (q_i k, z) = some ((q_i ((k + 7 : Nat) : Int), z2), 0) ∧ q_LI z2 := by
  obtain ⟨s, hv, hC, hM⟩ := hz
  have bb : ∀ j : Nat, j ≤ 6 → 0 ≤ Int32.toInt (q_i k + q_i j) ∧ Int32.toInt (q_i k + q_i j) < L := by
    intro j hj
    rw [q_i_add, q_i_toInt ⟨by omega, by omega⟩]
    omega
  have b0 : 0 ≤ Int32.toInt (q_i k) ∧ Int32.toInt (q_i k) < L := by
    rw [q_i_toInt ⟨by omega, by omega⟩]
    omega
  have b1 : 0 ≤ Int32.toInt (q_i k + 1) ∧ Int32.toInt (q_i k + 1) < L := bb 1 (by omega)
  have b2 : 0 ≤ Int32.toInt (q_i k + 2) ∧ Int32.toInt (q_i k + 2) < L := bb 2 (by omega)
  have b3 : 0 ≤ Int32.toInt (q_i k + 3) ∧ Int32.toInt (q_i k + 3) < L := bb 3 (by omega)
  have b4 : 0 ≤ Int32.toInt (q_i k + 4) ∧ Int32.toInt (q_i k + 4) < L := bb 4 (by omega)
  have b5 : 0 ≤ Int32.toInt (q_i k + 5) ∧ Int32.toInt (q_i k + 5) < L := bb 5 (by omega)
  have b6 : 0 ≤ Int32.toInt (q_i k + 6) ∧ Int32.toInt (q_i k + 6) < L := bb 6 (by omega)
  simp only [B_L_law_18]
  rw [if_neg (by rw [q_ofNat, show (7 : Int32) = q_i 7 from rfl, q_i_sub, q_i_lt ⟨by omega, by omega⟩ ⟨by omega, by omega⟩]; omega), if_pos b0]
  generalize hop : xs (Int32.toNatClampNeg (q_i k)) &&& 31 = op
  generalize hx1 : xs (Int32.toNatClampNeg (q_i k + 1)) = x1
  generalize hx2 : xs (Int32.toNatClampNeg (q_i k + 2)) = x2
  generalize hx3 : xs (Int32.toNatClampNeg (q_i k + 3)) = x3
  generalize hx4 : xs (Int32.toNatClampNeg (q_i k + 4)) = x4
  generalize hx5 : xs (Int32.toNatClampNeg (q_i k + 5)) = x5
  generalize hx6 : xs (Int32.toNatClampNeg (q_i k + 6)) = x6
  by_cases c0 : op = 0
  · obtain ⟨r, z1, z2, s2, f1, f2, v, hC2, hM2⟩ := q_cok_both (k_root hv x1) hC hM
    have f1 : F_X9_root z x1 = some (r, z1) := f1
    have f2 : F_X10_root z1 x1 = some (r, z2) := f2
    refine q_go995 L xs v hC2 hM2 ?_
    rw [if_pos c0, if_pos b1, f1, Option.bind_some]
    dsimp only
    rw [if_pos b1, f2, Option.bind_some]
    dsimp only
    rw [if_pos rfl]
  rw [if_neg c0]
  by_cases c1 : op = 1
  · obtain ⟨r, z1, z2, s2, f1, f2, v, hC2, hM2⟩ := q_cok_both (k_form hv x1 x2) hC hM
    have f1 : F_X9_form z x1 x2 = some (r, z1) := f1
    have f2 : F_X10_form z1 x1 x2 = some (r, z2) := f2
    refine q_go995 L xs v hC2 hM2 ?_
    rw [if_pos c1, if_pos b1, if_pos b2, f1, Option.bind_some]
    dsimp only
    rw [if_pos b1, if_pos b2, f2, Option.bind_some]
    dsimp only
    rw [if_pos rfl]
  rw [if_neg c1]
  by_cases c2 : op = 2
  · obtain ⟨r, z1, z2, s2, f1, f2, v, hC2, hM2⟩ := q_cok_both (k_number hv x1 x2) hC hM
    have f1 : F_X9_number z x1 x2 = some (r, z1) := f1
    have f2 : F_X10_number z1 x1 x2 = some (r, z2) := f2
    refine q_go995 L xs v hC2 hM2 ?_
    rw [if_pos c2, if_pos b1, if_pos b2, f1, Option.bind_some]
    dsimp only
    rw [if_pos b1, if_pos b2, f2, Option.bind_some]
    dsimp only
    rw [if_pos rfl]
  rw [if_neg c2]
  by_cases c3 : op = 3
  · obtain ⟨r, z1, z2, s2, f1, f2, v, hC2, hM2⟩ := q_cok_both (k_least hv x1) hC hM
    have f1 : F_X9_least z x1 = some (r, z1) := f1
    have f2 : F_X10_least z1 x1 = some (r, z2) := f2
    refine q_go995 L xs v hC2 hM2 ?_
    rw [if_pos c3, if_pos b1, f1, Option.bind_some]
    dsimp only
    rw [if_pos b1, f2, Option.bind_some]
    dsimp only
    rw [if_pos rfl]
  rw [if_neg c3]
  by_cases c4 : op = 4
  · obtain ⟨r, z1, z2, s2, f1, f2, v, hC2, hM2⟩ := q_cok_both (k_step hv x1) hC hM
    have f1 : F_X9_step z x1 = some (r, z1) := f1
    have f2 : F_X10_step z1 x1 = some (r, z2) := f2
    refine q_go995 L xs v hC2 hM2 ?_
    rw [if_pos c4, if_pos b1, f1, Option.bind_some]
    dsimp only
    rw [if_pos b1, f2, Option.bind_some]
    dsimp only
    rw [if_pos rfl]
  rw [if_neg c4]
  by_cases c5 : op = 5
  · obtain ⟨r, z1, z2, s2, f1, f2, v, hC2, hM2⟩ := q_cok_both (k_reduce hv x1) hC hM
    have f1 : F_X9_reduce z x1 = some (r, z1) := f1
    have f2 : F_X10_reduce z1 x1 = some (r, z2) := f2
    refine q_go995 L xs v hC2 hM2 ?_
    rw [if_pos c5, if_pos b1, f1, Option.bind_some]
    dsimp only
    rw [if_pos b1, f2, Option.bind_some]
    dsimp only
    rw [if_pos rfl]
  rw [if_neg c5]
  by_cases c6 : op = 6
  · obtain ⟨r, z1, z2, s2, f1, f2, v, hC2, hM2⟩ := q_cok_both (k_way hv x1) hC hM
    have f1 : F_X9_way z x1 = some (r, z1) := f1
    have f2 : F_X10_way z1 x1 = some (r, z2) := f2
    refine q_go995 L xs v hC2 hM2 ?_
    rw [if_pos c6, if_pos b1, f1, Option.bind_some]
    dsimp only
    rw [if_pos b1, f2, Option.bind_some]
    dsimp only
    rw [if_pos rfl]
  rw [if_neg c6]
  by_cases c7 : op = 7
  · obtain ⟨r, z1, z2, s2, f1, f2, v, hC2, hM2⟩ := q_cok_both (k_ring hv x1) hC hM
    have f1 : F_X9_ring z x1 = some (r, z1) := f1
    have f2 : F_X10_ring z1 x1 = some (r, z2) := f2
    refine q_go995 L xs v hC2 hM2 ?_
    rw [if_pos c7, if_pos b1, f1, Option.bind_some]
    dsimp only
    rw [if_pos b1, f2, Option.bind_some]
    dsimp only
    rw [if_pos rfl]
  rw [if_neg c7]
  by_cases c8 : op = 8
  · obtain ⟨r, z1, z2, s2, f1, f2, v, hC2, hM2⟩ := q_cok_both (k_classOf hv x1) hC hM
    have f1 : F_X9_classOf z x1 = some (r, z1) := f1
    have f2 : F_X10_classOf z1 x1 = some (r, z2) := f2
    refine q_go995 L xs v hC2 hM2 ?_
    rw [if_pos c8, if_pos b1, f1, Option.bind_some]
    dsimp only
    rw [if_pos b1, f2, Option.bind_some]
    dsimp only
    rw [if_pos rfl]
  rw [if_neg c8]
  by_cases c9 : op = 9
  · obtain ⟨r, z1, z2, s2, f1, f2, v, hC2, hM2⟩ := q_cok_both (k_check hv x1 x2 x3 x4 x5 x6) hC hM
    have f1 : F_X9_check z x1 x2 x3 x4 x5 x6 = some (r, z1) := f1
    have f2 : F_X10_check z1 x1 x2 x3 x4 x5 x6 = some (r, z2) := f2
    refine q_go995 L xs v hC2 hM2 ?_
    rw [if_pos c9, if_pos b1, if_pos b2, if_pos b3, if_pos b4, if_pos b5, if_pos b6, f1, Option.bind_some]
    dsimp only
    rw [if_pos b1, if_pos b2, if_pos b3, if_pos b4, if_pos b5, if_pos b6, f2, Option.bind_some]
    dsimp only
    rw [if_pos rfl]
  rw [if_neg c9]
  by_cases c10 : op = 10
  · obtain ⟨r, z1, z2, s2, f1, f2, v, hC2, hM2⟩ := q_cok_both (k_classes hv ) hC hM
    have f1 : F_X9_classes z  = some (r, z1) := f1
    have f2 : F_X10_classes z1  = some (r, z2) := f2
    refine q_go995 L xs v hC2 hM2 ?_
    rw [if_pos c10, f1, Option.bind_some]
    dsimp only
    rw [f2, Option.bind_some]
    dsimp only
    rw [if_pos rfl]
  rw [if_neg c10]
  by_cases c11 : op = 11
  · obtain ⟨r, z1, z2, s2, f1, f2, v, hC2, hM2⟩ := q_cok_both (k_head hv x1 x2) hC hM
    have f1 : F_X9_head z x1 x2 = some (r, z1) := f1
    have f2 : F_X10_head z1 x1 x2 = some (r, z2) := f2
    refine q_go995 L xs v hC2 hM2 ?_
    rw [if_pos c11, if_pos b1, if_pos b2, f1, Option.bind_some]
    dsimp only
    rw [if_pos b1, if_pos b2, f2, Option.bind_some]
    dsimp only
    rw [if_pos rfl]
  rw [if_neg c11]
  by_cases c12 : op = 12
  · obtain ⟨r, z1, z2, s2, f1, f2, v, hC2, hM2⟩ := q_cok_both (k_one hv ) hC hM
    have f1 : F_X9_one z  = some (r, z1) := f1
    have f2 : F_X10_one z1  = some (r, z2) := f2
    refine q_go995 L xs v hC2 hM2 ?_
    rw [if_pos c12, f1, Option.bind_some]
    dsimp only
    rw [f2, Option.bind_some]
    dsimp only
    rw [if_pos rfl]
  rw [if_neg c12]
  by_cases c13 : op = 13
  · obtain ⟨r, z1, z2, s2, f1, f2, v, hC2, hM2⟩ := q_cok_both (k_join hv x1 x2) hC hM
    have f1 : F_X9_join z x1 x2 = some (r, z1) := f1
    have f2 : F_X10_join z1 x1 x2 = some (r, z2) := f2
    refine q_go995 L xs v hC2 hM2 ?_
    rw [if_pos c13, if_pos b1, if_pos b2, f1, Option.bind_some]
    dsimp only
    rw [if_pos b1, if_pos b2, f2, Option.bind_some]
    dsimp only
    rw [if_pos rfl]
  rw [if_neg c13]
  by_cases c14 : op = 14
  · obtain ⟨r, z1, z2, s2, f1, f2, v, hC2, hM2⟩ := q_cok_both (k_back hv x1) hC hM
    have f1 : F_X9_back z x1 = some (r, z1) := f1
    have f2 : F_X10_back z1 x1 = some (r, z2) := f2
    refine q_go995 L xs v hC2 hM2 ?_
    rw [if_pos c14, if_pos b1, f1, Option.bind_some]
    dsimp only
    rw [if_pos b1, f2, Option.bind_some]
    dsimp only
    rw [if_pos rfl]
  rw [if_neg c14]
  by_cases c15 : op = 15
  · obtain ⟨r, z1, z2, s2, f1, f2, v, hC2, hM2⟩ := q_cok_both (k_order hv x1) hC hM
    have f1 : F_X9_order z x1 = some (r, z1) := f1
    have f2 : F_X10_order z1 x1 = some (r, z2) := f2
    refine q_go995 L xs v hC2 hM2 ?_
    rw [if_pos c15, if_pos b1, f1, Option.bind_some]
    dsimp only
    rw [if_pos b1, f2, Option.bind_some]
    dsimp only
    rw [if_pos rfl]
  rw [if_neg c15]
  by_cases c16 : op = 16
  · obtain ⟨r, z1, z2, s2, f1, f2, v, hC2, hM2⟩ := q_cok_both (k_group hv x1) hC hM
    have f1 : F_X9_group z x1 = some (r, z1) := f1
    have f2 : F_X10_group z1 x1 = some (r, z2) := f2
    refine q_go995 L xs v hC2 hM2 ?_
    rw [if_pos c16, if_pos b1, f1, Option.bind_some]
    dsimp only
    rw [if_pos b1, f2, Option.bind_some]
    dsimp only
    rw [if_pos rfl]
  rw [if_neg c16]
  by_cases c17 : op = 17
  · obtain ⟨r, z1, z2, s2, f1, f2, v, hC2, hM2⟩ := q_cok_both (k_genus hv x1) hC hM
    have f1 : F_X9_genus z x1 = some (r, z1) := f1
    have f2 : F_X10_genus z1 x1 = some (r, z2) := f2
    refine q_go995 L xs v hC2 hM2 ?_
    rw [if_pos c17, if_pos b1, f1, Option.bind_some]
    dsimp only
    rw [if_pos b1, f2, Option.bind_some]
    dsimp only
    rw [if_pos rfl]
  rw [if_neg c17]
  by_cases c18 : op = 18
  · obtain ⟨r, z1, z2, s2, f1, f2, v, hC2, hM2⟩ := q_cok_both (k_genera hv ) hC hM
    have f1 : F_X9_genera z  = some (r, z1) := f1
    have f2 : F_X10_genera z1  = some (r, z2) := f2
    refine q_go995 L xs v hC2 hM2 ?_
    rw [if_pos c18, f1, Option.bind_some]
    dsimp only
    rw [f2, Option.bind_some]
    dsimp only
    rw [if_pos rfl]
  rw [if_neg c18]
  by_cases c19 : op = 19
  · obtain ⟨r, z1, z2, s2, f1, f2, v, hC2, hM2⟩ := q_cok_both (k_unit hv x1) hC hM
    have f1 : F_X9_unit z x1 = some (r, z1) := f1
    have f2 : F_X10_unit z1 x1 = some (r, z2) := f2
    refine q_go995 L xs v hC2 hM2 ?_
    rw [if_pos c19, if_pos b1, f1, Option.bind_some]
    dsimp only
    rw [if_pos b1, f2, Option.bind_some]
    dsimp only
    rw [if_pos rfl]
  rw [if_neg c19]
  by_cases c20 : op = 20
  · obtain ⟨r, z1, z2, s2, f1, f2, v, hC2, hM2⟩ := q_cok_both (k_period hv x1) hC hM
    have f1 : F_X9_period z x1 = some (r, z1) := f1
    have f2 : F_X10_period z1 x1 = some (r, z2) := f2
    refine q_go995 L xs v hC2 hM2 ?_
    rw [if_pos c20, if_pos b1, f1, Option.bind_some]
    dsimp only
    rw [if_pos b1, f2, Option.bind_some]
    dsimp only
    rw [if_pos rfl]
  rw [if_neg c20]
  by_cases c21 : op = 21
  · obtain ⟨r, z1, z2, s2, f1, f2, v, hC2, hM2⟩ := q_cok_both (k_quotient hv x1 x2) hC hM
    have f1 : F_X9_quotient z x1 x2 = some (r, z1) := f1
    have f2 : F_X10_quotient z1 x1 x2 = some (r, z2) := f2
    refine q_go995 L xs v hC2 hM2 ?_
    rw [if_pos c21, if_pos b1, if_pos b2, f1, Option.bind_some]
    dsimp only
    rw [if_pos b1, if_pos b2, f2, Option.bind_some]
    dsimp only
    rw [if_pos rfl]
  rw [if_neg c21]
  by_cases c22 : op = 22
  · rw [if_pos c22]
    rw [if_pos b1, if_pos b2, if_pos b3]
    by_cases e : x3 = 0
    · obtain ⟨r, z1, z2, s2, f1, f2, v, hC2, hM2⟩ := q_cok_both (k_near hv x1 x2 0) hC hM
      have f1 : F_X9_near z x1 x2 0 = some (r, z1) := f1
      have f2 : F_X10_near z1 x1 x2 0 = some (r, z2) := f2
      refine q_go995 L xs v hC2 hM2 ?_
      rw [if_pos e]
      unfold T_L_law_772
      rw [f1, Option.bind_some]
      dsimp only
      simp only [hx1, hx2, hx3]
      rw [if_pos b1, if_pos b2, if_pos b3, if_pos e]
      unfold T_L_law_799
      rw [f2, Option.bind_some]
      dsimp only
      rw [if_pos rfl]
    · obtain ⟨r, z1, z2, s2, f1, f2, v, hC2, hM2⟩ := q_cok_both (k_near hv x1 x2 1) hC hM
      have f1 : F_X9_near z x1 x2 1 = some (r, z1) := f1
      have f2 : F_X10_near z1 x1 x2 1 = some (r, z2) := f2
      refine q_go995 L xs v hC2 hM2 ?_
      rw [if_neg e]
      unfold T_L_law_772
      rw [f1, Option.bind_some]
      dsimp only
      simp only [hx1, hx2, hx3]
      rw [if_pos b1, if_pos b2, if_pos b3, if_neg e]
      unfold T_L_law_799
      rw [f2, Option.bind_some]
      dsimp only
      rw [if_pos rfl]
  rw [if_neg c22]
  by_cases c23 : op = 23
  · obtain ⟨r, z1, z2, s2, f1, f2, v, hC2, hM2⟩ := q_cok_both (k_takes hv x1 x2) hC hM
    have f1 : F_X9_takes z x1 x2 = some (r, z1) := f1
    have f2 : F_X10_takes z1 x1 x2 = some (r, z2) := f2
    refine q_go995 L xs v hC2 hM2 ?_
    rw [if_pos c23, if_pos b1, if_pos b2, f1, Option.bind_some]
    dsimp only
    rw [if_pos b1, if_pos b2, f2, Option.bind_some]
    dsimp only
    rw [if_pos rfl]
  rw [if_neg c23]
  by_cases c24 : op = 24
  · obtain ⟨r, z1, z2, s2, f1, f2, v, hC2, hM2⟩ := q_cok_both (k_proper hv x1 x2) hC hM
    have f1 : F_X9_proper z x1 x2 = some (r, z1) := f1
    have f2 : F_X10_proper z1 x1 x2 = some (r, z2) := f2
    refine q_go995 L xs v hC2 hM2 ?_
    rw [if_pos c24, if_pos b1, if_pos b2, f1, Option.bind_some]
    dsimp only
    rw [if_pos b1, if_pos b2, f2, Option.bind_some]
    dsimp only
    rw [if_pos rfl]
  rw [if_neg c24]
  by_cases c25 : op = 25
  · obtain ⟨r, z1, z2, s2, f1, f2, v, hC2, hM2⟩ := q_cok_both (k_squares hv x1) hC hM
    have f1 : F_X9_squares z x1 = some (r, z1) := f1
    have f2 : F_X10_squares z1 x1 = some (r, z2) := f2
    refine q_go995 L xs v hC2 hM2 ?_
    rw [if_pos c25, if_pos b1, f1, Option.bind_some]
    dsimp only
    rw [if_pos b1, f2, Option.bind_some]
    dsimp only
    rw [if_pos rfl]
  rw [if_neg c25]
  by_cases c26 : op = 26
  · rw [if_pos c26]
    rw [if_pos b1, if_pos b2]
    by_cases e : x2 = 0
    · obtain ⟨r, z1, z2, s2, f1, f2, v, hC2, hM2⟩ := q_cok_both (k_pair hv x1 0) hC hM
      have f1 : F_X9_pair z x1 0 = some (r, z1) := f1
      have f2 : F_X10_pair z1 x1 0 = some (r, z2) := f2
      refine q_go995 L xs v hC2 hM2 ?_
      rw [if_pos e]
      unfold T_L_law_916
      rw [f1, Option.bind_some]
      dsimp only
      simp only [hx1, hx2]
      rw [if_pos b1, if_pos b2, if_pos e]
      unfold T_L_law_938
      rw [f2, Option.bind_some]
      dsimp only
      rw [if_pos rfl]
    · obtain ⟨r, z1, z2, s2, f1, f2, v, hC2, hM2⟩ := q_cok_both (k_pair hv x1 1) hC hM
      have f1 : F_X9_pair z x1 1 = some (r, z1) := f1
      have f2 : F_X10_pair z1 x1 1 = some (r, z2) := f2
      refine q_go995 L xs v hC2 hM2 ?_
      rw [if_neg e]
      unfold T_L_law_916
      rw [f1, Option.bind_some]
      dsimp only
      simp only [hx1, hx2]
      rw [if_pos b1, if_pos b2, if_neg e]
      unfold T_L_law_938
      rw [f2, Option.bind_some]
      dsimp only
      rw [if_pos rfl]
  rw [if_neg c26]
  by_cases c27 : op = 27
  · obtain ⟨r, z1, z2, s2, f1, f2, v, hC2, hM2⟩ := q_cok_both (k_undo hv ) hC hM
    have f1 : F_X9_undo z  = some (r, z1) := f1
    have f2 : F_X10_undo z1  = some (r, z2) := f2
    refine q_go995 L xs v hC2 hM2 ?_
    rw [if_pos c27, f1, Option.bind_some]
    dsimp only
    rw [f2, Option.bind_some]
    dsimp only
    rw [if_pos rfl]
  rw [if_neg c27]
  by_cases c28 : op = 28
  · obtain ⟨r, z1, z2, s2, f1, f2, v, hC2, hM2⟩ := q_cok_both (k_size hv x1) hC hM
    have f1 : F_X9_size z x1 = some (r, z1) := f1
    have f2 : F_X10_size z1 x1 = some (r, z2) := f2
    refine q_go995 L xs v hC2 hM2 ?_
    rw [if_pos c28, if_pos b1, f1, Option.bind_some]
    dsimp only
    rw [if_pos b1, f2, Option.bind_some]
    dsimp only
    rw [if_pos rfl]
  rw [if_neg c28]
  by_cases c29 : op = 29
  · obtain ⟨r, z1, z2, s2, f1, f2, v, hC2, hM2⟩ := q_cok_both (k_trouble hv ) hC hM
    have f1 : F_X9_trouble z  = some (r, z1) := f1
    have f2 : F_X10_trouble z1  = some (r, z2) := f2
    refine q_go995 L xs v hC2 hM2 ?_
    rw [if_pos c29, f1, Option.bind_some]
    dsimp only
    rw [f2, Option.bind_some]
    dsimp only
    rw [if_pos rfl]
  rw [if_neg c29]
  exact q_go995 L xs hv hC hM rfl
theorem q_law_loop (L : Nat) (xs : Nat → Int32) (hL : L ≤ 3584) : ∀ (r k : Nat) (z : q_Z), L ≤ k + r → k ≤ L + 7 → q_LI z → ∃ l3 z2, q_lp (B_L_law_18 L xs) (r + 8) (q_i k, z) = some ((l3, z2), 0) := by
  intro r
  induction r using Nat.strongRecOn with
  | ind r ih =>
    intro k z hr hk hz
    by_cases c : k + 7 ≤ L
    · obtain ⟨z2, a1, a2⟩ := q_law_step L xs hL c hz
      obtain ⟨l3, z3, g⟩ := ih (r - 7) (by omega) (k + 7) z2 (by omega) (by omega) a2
      refine ⟨l3, z3, ?_⟩
      rw [show r + 8 = (r + 7) + 1 by omega, q_lp_go a1]
      exact q_lp_mono g (by omega)
    · refine ⟨q_i k, z, ?_⟩
      rw [show r + 8 = (r + 7) + 1 by omega]
      refine q_lp_end ?_
      simp only [B_L_law_18]
      rw [if_pos (by rw [q_ofNat, show (7 : Int32) = q_i 7 from rfl, q_i_sub, q_i_lt ⟨by omega, by omega⟩ ⟨by omega, by omega⟩]; omega)]
