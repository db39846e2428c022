/-! least, ring, check; period, quotient, near, unit -/
theorem p_isLeastZ {o : Nat} {z : q_Z} {d R : Int} {f : q_f3} (hg : q_Cg d R z) (h : q_3 (z.2 o) 0 f) (hdc : q_dc d R) (hG : q_G d f) : F_X2_isLeast o z = some (if q_L3 d R f then 1 else 0, z) := by
  have e := p_X2_isLeast3 (I := z.1) (L := z.2) (o := o) hg.1 hg.2 hdc hG.1 (q_G_s3 hG)
  rw [← q_v3_self h.1 h.2.1 h.2.2] at e
  exact e
theorem k_least {s : q_SS} (hv : q_V s) (l1 : Int32) : q_cok (fun z => F_X9_least z l1) (fun z => F_X10_least z l1) s := by
  obtain ⟨x, hx, rfl⟩ := q_i_of l1
  have hn := hv.2.2.1
  by_cases c : 0 ≤ x ∧ x < s.2.1.1
  · have hG := hv.2.2.2.2.2.1 x.toNat (by omega)
    refine q_cok_t hv (if q_L3 s.1.1 s.1.2.1 (s.2.1.2 x.toNat) then 1 else 0) 0 (fun z hz => ⟨(q_u2 z.1 1 9 0, z.2), ?_, q_CW_t 0 (q_CW_rfl z), rfl⟩) (fun z hz => ⟨(q_u2 (q_u2 z.1 128 3 0) 128 2 0, q_w7 z.2 (s.2.1.2 x.toNat) (z.2 128 15, z.2 128 16, z.2 128 17, z.2 128 18)), ?_, q_MW_w7 (q_MW_t (z2 := (q_u2 z.1 128 3 0, z.2)) 0 (by decide) (q_MW_t (z2 := z) 0 (by decide) (q_MW_rfl z))), rfl⟩)
    · unfold F_X9_least T_X9_least_36
      rw [p_X6_at hz.2.2.1.1 hn hx, Option.bind_some, if_pos c]
      dsimp only
      rw [p_isLeastZ hz.1 (hz.2.2.1.2 x.toNat (by omega)) hv.1 hG, Option.bind_some]
      by_cases c2 : q_L3 s.1.1 s.1.2.1 (s.2.1.2 x.toNat) = true
      · simp only [if_pos c2]
        rfl
      · simp only [if_neg c2]
        rfl
    · unfold F_X10_least
      rw [p_X10_isPlace (z := (q_u2 z.1 128 3 0, z.2)) (n := s.2.1.1) hz.2.2.1.1 hn hx, Option.bind_some, if_pos c]
      dsimp only
      rw [if_neg (by decide), p_X10_take (z := (q_u2 (q_u2 z.1 128 3 0) 128 2 0, z.2)) hz.2.2.1.2 hn c.1 c.2, Option.bind_some]
      dsimp only
      rw [p_X10_isLeast7 (I := q_u2 (q_u2 z.1 128 3 0) 128 2 0) hz.1.1 hz.1.2 hv.1 (q_G_s3 hG), Option.bind_some]
      by_cases c2 : q_L3 s.1.1 s.1.2.1 (s.2.1.2 x.toNat) = true
      · simp only [if_pos c2]
        rfl
      · simp only [if_neg c2]
        rfl
  · refine q_cok_t hv (-1) 2 (fun z hz => ⟨(q_u2 z.1 1 9 2, z.2), ?_, q_CW_t 2 (q_CW_rfl z), rfl⟩) (fun z hz => ⟨(q_u2 (q_u2 z.1 128 3 0) 128 2 2, z.2), ?_, q_MW_t (z2 := (q_u2 z.1 128 3 0, z.2)) 2 (by decide) (q_MW_t (z2 := z) 0 (by decide) (q_MW_rfl z)), rfl⟩)
    · unfold F_X9_least
      rw [p_X6_at hz.2.2.1.1 hn hx, Option.bind_some, if_neg c]
      rfl
    · unfold F_X10_least
      rw [p_X10_isPlace (z := (q_u2 z.1 128 3 0, z.2)) (n := s.2.1.1) hz.2.2.1.1 hn hx, Option.bind_some, if_neg c]
      rfl
theorem k_ring {s : q_SS} (hv : q_V s) (l1 : Int32) : q_cok (fun z => F_X9_ring z l1) (fun z => F_X10_ring z l1) s := by
  obtain ⟨x, hx, rfl⟩ := q_i_of l1
  have hn := hv.2.2.1
  have hdb : q_b s.1.1 := by rcases hv.1 with q | q <;> exact ⟨by omega, by omega⟩
  by_cases c : 0 ≤ x ∧ x < s.2.1.1
  · have hG := hv.2.2.2.2.2.1 x.toNat (by omega)
    by_cases cd : 0 ≤ s.1.1
    · have hp : 0 < s.1.1 := by rcases hv.1 with q | q <;> omega
      obtain ⟨n, n1, n2, n3⟩ := q_first hv.1 hG.1 (by have := hG.2.2.2.2.1; have := hG.2.2.2.2.2; omega)
      obtain ⟨T, t1, t2, t3, t4⟩ := q_ring hv.1 hp (q_F3_its hv.1 n _ hG.1) n2
      refine q_cok_t hv (q_i T) 0 (fun z hz => ?_) (fun z hz => ?_)
      · obtain ⟨g1, g2, g3⟩ := hz.2.2.1.2 x.toNat (by omega)
        have e1 : F_X1_copy 126 (19 + x.toNat) z = some ((), (z.1, q_v3 z.2 126 (s.2.1.2 x.toNat))) := by
          unfold F_X1_copy F_X1_put
          rw [g1, show z.2 (19 + x.toNat) 1 = _ from g2, show z.2 (19 + x.toNat) 2 = _ from g3]
          rfl
        refine ⟨(q_u2 z.1 1 9 0, q_v3 (q_v4 (q_v3 z.2 126 (q_its s.1.1 s.1.2.1 n (s.2.1.2 x.toNat))) 127 (q_itw s.1.1 s.1.2.1 n (s.2.1.2 x.toNat) (1, 0, 0, 1))) 126 (q_its s.1.1 s.1.2.1 n (s.2.1.2 x.toNat))), ?_, ?_, rfl⟩
        · unfold F_X9_ring
          rw [p_X6_at hz.2.2.1.1 hn hx, Option.bind_some, if_pos c]
          dsimp only
          rw [hz.1.1, if_pos (by rw [q_i0, q_i_le (by decide) hdb]; exact cd), e1, Option.bind_some]
          dsimp only
          rw [p_X2_lead (by decide) hz.1.1 hz.1.2 hv.1 hG.1 (q_G_s3 hG) n1 n2 n3, Option.bind_some]
          dsimp only
          have e2 := p_X2_ringLength (I := z.1) (L := q_v4 (q_v3 z.2 126 (q_its s.1.1 s.1.2.1 n (s.2.1.2 x.toNat))) 127 (q_itw s.1.1 s.1.2.1 n (s.2.1.2 x.toNat) (1, 0, 0, 1))) (o := 126) hz.1.1 hz.1.2 hv.1 (q_F3_its hv.1 n _ hG.1) (q_s3_its hv.1 n _ hG.1 (q_G_s3 hG)) t1 t2 t3 t4
          have e3 : q_v4 (q_v3 z.2 126 (q_its s.1.1 s.1.2.1 n (s.2.1.2 x.toNat))) 127 (q_itw s.1.1 s.1.2.1 n (s.2.1.2 x.toNat) (1, 0, 0, 1)) = q_v3 (q_v4 (q_v3 z.2 126 (q_its s.1.1 s.1.2.1 n (s.2.1.2 x.toNat))) 127 (q_itw s.1.1 s.1.2.1 n (s.2.1.2 x.toNat) (1, 0, 0, 1))) 126 (q_its s.1.1 s.1.2.1 n (s.2.1.2 x.toNat)) := by
            rw [q_v34 (by decide), q_v3_v3]
          rw [← e3] at e2 ⊢
          rw [e2, Option.bind_some]
          rfl
        · intro m a1 a2 a3 a4
          refine ⟨q_u2_ne a1, ?_⟩
          show q_v3 (q_v4 (q_v3 z.2 126 _) 127 _) 126 _ m = z.2 m
          rw [q_v3_ne a3, q_v4_ne a4, q_v3_ne a3]
      · obtain ⟨v, hl⟩ := p_X10_ringLoop (I := q_u2 (q_u2 z.1 128 3 0) 128 2 0) (L := z.2) hz.1.1 hz.1.2 hv.1 (q_F3_its hv.1 n _ hG.1) (q_s3_its hv.1 n _ hG.1 (q_G_s3 hG)) t3 t4 (T - 1) 0 (q_itw s.1.1 s.1.2.1 n (s.2.1.2 x.toNat) (z.2 128 15, z.2 128 16, z.2 128 17, z.2 128 18)) (by omega)
        refine ⟨(q_u2 (q_u2 z.1 128 3 0) 128 2 0, q_w7 z.2 (q_its s.1.1 s.1.2.1 n (s.2.1.2 x.toNat)) v), ?_, q_MW_w7 (q_MW_t (z2 := (q_u2 z.1 128 3 0, z.2)) 0 (by decide) (q_MW_t (z2 := z) 0 (by decide) (q_MW_rfl z))), rfl⟩
        unfold F_X10_ring
        rw [p_X10_isPlace (z := (q_u2 z.1 128 3 0, z.2)) (n := s.2.1.1) hz.2.2.1.1 hn hx, Option.bind_some, if_pos c]
        dsimp only
        have e0 : q_u2 z.1 128 3 0 128 0 = q_i s.1.1 := hz.1.1
        rw [if_neg (by decide), if_pos (by rw [e0, q_i0, q_i_le (by decide) hdb]; exact cd), p_X10_take (z := (q_u2 (q_u2 z.1 128 3 0) 128 2 0, z.2)) hz.2.2.1.2 hn c.1 c.2, Option.bind_some]
        dsimp only
        rw [p_X10_reduces (I := q_u2 (q_u2 z.1 128 3 0) 128 2 0) hz.1.1 hz.1.2 hv.1 hG.1 (q_G_s3 hG) n1 n2 n3, Option.bind_some]
        dsimp only
        have hl := q_lp_mono hl (show T - 1 + 2 ≤ q_fu by unfold q_fu; omega)
        have hl : q_lp B_X10_ring_64 q_fu (q_l (q_its s.1.1 s.1.2.1 n (s.2.1.2 x.toNat)).1, q_l (q_its s.1.1 s.1.2.1 n (s.2.1.2 x.toNat)).2.1, 0, 1, (q_u2 (q_u2 z.1 128 3 0) 128 2 0, q_w7 z.2 (q_its s.1.1 s.1.2.1 n (s.2.1.2 x.toNat)) (q_itw s.1.1 s.1.2.1 n (s.2.1.2 x.toNat) (z.2 128 15, z.2 128 16, z.2 128 17, z.2 128 18)))) = _ := hl
        show (q_lp B_X10_ring_64 q_fu (q_l (q_its s.1.1 s.1.2.1 n (s.2.1.2 x.toNat)).1, q_l (q_its s.1.1 s.1.2.1 n (s.2.1.2 x.toNat)).2.1, 0, 1, _)).bind _ = _
        rw [hl, Option.bind_some]
        rfl
    · refine q_cok_t hv (-1) 5 (fun z hz => ⟨(q_u2 z.1 1 9 5, z.2), ?_, q_CW_t 5 (q_CW_rfl z), rfl⟩) (fun z hz => ⟨(q_u2 (q_u2 z.1 128 3 0) 128 2 5, z.2), ?_, q_MW_t (z2 := (q_u2 z.1 128 3 0, z.2)) 5 (by decide) (q_MW_t (z2 := z) 0 (by decide) (q_MW_rfl z)), rfl⟩)
      · unfold F_X9_ring
        rw [p_X6_at hz.2.2.1.1 hn hx, Option.bind_some, if_pos c]
        dsimp only
        rw [hz.1.1, if_neg (by rw [q_i0, q_i_le (by decide) hdb]; exact cd)]
        rfl
      · unfold F_X10_ring
        rw [p_X10_isPlace (z := (q_u2 z.1 128 3 0, z.2)) (n := s.2.1.1) hz.2.2.1.1 hn hx, Option.bind_some, if_pos c]
        dsimp only
        have e0 : q_u2 z.1 128 3 0 128 0 = q_i s.1.1 := hz.1.1
        rw [if_neg (by decide), if_neg (by rw [e0, q_i0, q_i_le (by decide) hdb]; exact cd)]
        rfl
  · refine q_cok_t hv (-1) 2 (fun z hz => ⟨(q_u2 z.1 1 9 2, z.2), ?_, q_CW_t 2 (q_CW_rfl z), rfl⟩) (fun z hz => ⟨(q_u2 (q_u2 z.1 128 3 0) 128 2 2, z.2), ?_, q_MW_t (z2 := (q_u2 z.1 128 3 0, z.2)) 2 (by decide) (q_MW_t (z2 := z) 0 (by decide) (q_MW_rfl z)), rfl⟩)
    · unfold F_X9_ring
      rw [p_X6_at hz.2.2.1.1 hn hx, Option.bind_some, if_neg c]
      rfl
    · unfold F_X10_ring
      rw [p_X10_isPlace (z := (q_u2 z.1 128 3 0, z.2)) (n := s.2.1.1) hz.2.2.1.1 hn hx, Option.bind_some, if_neg c]
      rfl
theorem k_period {s : q_SS} (hv : q_V s) (l1 : Int32) : q_cok (fun z => F_X9_period z l1) (fun z => F_X10_period z l1) s := by
  obtain ⟨x, hx, rfl⟩ := q_i_of l1
  rcases p_X9_hasQuotients hx with ⟨h, hF⟩ | ⟨h, hF⟩
  · rcases p_X10_isRooted hx with ⟨_, hG⟩ | ⟨h2, _⟩
    · obtain ⟨R, hN⟩ := q_hq_N h
      obtain ⟨T, hT1, hT2⟩ := p_period hN
      refine q_cok_t hv (q_i T) 0 (fun z hz => ?_) (fun z hz => ?_)
      · obtain ⟨z2, a1, a2⟩ := hT1 z
        refine ⟨(q_u2 z2.1 1 9 0, z2.2), ?_, q_CW_t 0 (q_CW_only (by omega) a2), rfl⟩
        unfold F_X9_period
        rw [hF, Option.bind_some]
        dsimp only
        rw [if_neg (by decide), q_l_i hx, a1, Option.bind_some]
        rfl
      · obtain ⟨z1, z2, z3, a1, a2, ⟨u1, u2, u3, a3⟩, a4⟩ := hT2 (q_u2 (q_u2 z.1 128 3 0) 128 2 0, z.2)
        refine ⟨z3, ?_, q_MW_trans (q_MW_t (z2 := (q_u2 z.1 128 3 0, z.2)) 0 (by decide) (q_MW_t (z2 := z) 0 (by decide) (q_MW_rfl z))) (q_MW_FR a4), ?_⟩
        · unfold F_X10_period
          rw [hG, Option.bind_some]
          dsimp only
          rw [if_neg (by decide), q_l_i hx, a1, Option.bind_some]
          dsimp only
          rw [a2, Option.bind_some]
          dsimp only
          rw [a3, Option.bind_some]
          rfl
        · rw [a4.2.2 2 (by decide)]
          rfl
    · exact absurd h h2
  · rcases p_X10_isRooted hx with ⟨h2, _⟩ | ⟨_, hG⟩
    · exact absurd h2 h
    · refine q_cok_t hv (-1) 1 (fun z hz => ⟨(q_u2 z.1 1 9 1, z.2), ?_, q_CW_t 1 (q_CW_rfl z), rfl⟩) (fun z hz => ⟨(q_u2 (q_u2 z.1 128 3 0) 128 2 1, z.2), ?_, q_MW_t (z2 := (q_u2 z.1 128 3 0, z.2)) 1 (by decide) (q_MW_t (z2 := z) 0 (by decide) (q_MW_rfl z)), rfl⟩)
      · unfold F_X9_period
        rw [hF, Option.bind_some]
        rfl
      · unfold F_X10_period
        rw [hG, Option.bind_some]
        rfl
theorem k_quotient {s : q_SS} (hv : q_V s) (l1 l2 : Int32) : q_cok (fun z => F_X9_quotient z l1 l2) (fun z => F_X10_quotient z l1 l2) s := by
  obtain ⟨x, hx, rfl⟩ := q_i_of l1
  obtain ⟨y, hy, rfl⟩ := q_i_of l2
  have hin : ∀ z : q_Z, F_X10_in z (Int32.toInt64 (q_i y)) 0 1000 = some (if 0 ≤ y ∧ y ≤ 1000 then 1 else 0, z) := fun z => p_in_i (z := z) (a := 0) (c := 1000) hy (by decide) (by decide)
  rcases p_X9_hasQuotients hx with ⟨h, hF⟩ | ⟨h, hF⟩
  · rcases p_X10_isRooted hx with ⟨_, hG⟩ | ⟨h2, _⟩
    · obtain ⟨R, hN⟩ := q_hq_N h
      by_cases c : 0 ≤ y ∧ y ≤ 1000
      · obtain ⟨K, rfl⟩ : ∃ K : Nat, y = K := ⟨y.toNat, by omega⟩
        refine q_cok_t hv (q_i (q_qk R (q_qit x R K (0, 1)))) 0 (fun z hz => ?_) (fun z hz => ?_)
        · obtain ⟨z2, a1, a2, a3⟩ := p_X5_goTo (z := z) (K := K) hN (by omega)
          refine ⟨(q_u2 z2.1 1 9 0, z2.2), ?_, q_CW_t 0 (q_CW_only (by omega) a3), rfl⟩
          unfold F_X9_quotient
          rw [hF, Option.bind_some]
          dsimp only
          rw [if_neg (by decide), if_neg (by rw [q_i0, q_i_lt hy (by decide)]; omega), if_pos (by rw [show (1000 : Int32) = q_i 1000 from rfl, q_i_le hy (by decide)]; omega), q_l_i hx, a1, Option.bind_some]
          dsimp only
          rw [a2.2.2.2.2.1, q_i_l]
          rfl
        · obtain ⟨z1, a1, a2, a3⟩ := p_X10_begin (z := (q_u2 (q_u2 z.1 128 3 0) 128 2 0, z.2)) (P := 0) (Q := 1) hN
          obtain ⟨z2, b1, b2, b3, b4⟩ := p_X10_quotient_loop hN (K + 1) 0 K (0, 1) (1, 0, -0, 1, false) z1 (by omega) (by omega) (q_x00 hN) ⟨by show (0 : Int) ≤ 1; decide, by show (1 : Int) ≤ 1000000000000000000; decide, by show (0 : Int) ≤ -0; decide, by show (-0 : Int) ≤ 1000000000000000000; decide⟩ a2
          refine ⟨z2, ?_, q_MW_trans (q_MW_t (z2 := (q_u2 z.1 128 3 0, z.2)) 0 (by decide) (q_MW_t (z2 := z) 0 (by decide) (q_MW_rfl z))) (q_MW_FR (q_FRm_trans a3 b4)), ?_⟩
          · unfold F_X10_quotient
            rw [hG, Option.bind_some]
            dsimp only
            rw [if_neg (by decide), hin, Option.bind_some, if_pos c]
            dsimp only
            have a1 : F_X10_begin (q_u2 (q_u2 z.1 128 3 0) 128 2 0, z.2) (q_l x) 0 1 = some ((), z1) := a1
            have b1 := q_lp_mono b1 (show K + 1 + 1 ≤ q_fu by unfold q_fu; omega)
            have b1 : q_lp B_X10_quotient_47 q_fu (q_i K, 0, z1) = _ := b1
            rw [if_neg (by decide), q_l_i hx, a1, Option.bind_some]
            dsimp only
            rw [b1, Option.bind_some]
            dsimp only
            rw [if_pos rfl, b3 K rfl, q_i_l]
          · rw [(q_FRm_trans a3 b4).2.2 2 (by decide)]
            rfl
      · refine q_cok_t hv (-1) 1 (fun z hz => ⟨(q_u2 z.1 1 9 1, z.2), ?_, q_CW_t 1 (q_CW_rfl z), rfl⟩) (fun z hz => ⟨(q_u2 (q_u2 z.1 128 3 0) 128 2 1, z.2), ?_, q_MW_t (z2 := (q_u2 z.1 128 3 0, z.2)) 1 (by decide) (q_MW_t (z2 := z) 0 (by decide) (q_MW_rfl z)), rfl⟩)
        · unfold F_X9_quotient T_X9_quotient_18
          rw [hF, Option.bind_some]
          dsimp only
          rw [if_neg (by decide)]
          by_cases c1 : y < 0
          · rw [if_pos (by rw [q_i0, q_i_lt hy (by decide)]; omega)]
            rfl
          · rw [if_neg (by rw [q_i0, q_i_lt hy (by decide)]; omega), if_neg (by rw [show (1000 : Int32) = q_i 1000 from rfl, q_i_le hy (by decide)]; omega)]
            rfl
        · unfold F_X10_quotient
          rw [hG, Option.bind_some]
          dsimp only
          rw [if_neg (by decide), hin, Option.bind_some, if_neg c]
          rfl
    · exact absurd h h2
  · rcases p_X10_isRooted hx with ⟨h2, _⟩ | ⟨_, hG⟩
    · exact absurd h2 h
    · refine q_cok_t hv (-1) 1 (fun z hz => ⟨(q_u2 z.1 1 9 1, z.2), ?_, q_CW_t 1 (q_CW_rfl z), rfl⟩) (fun z hz => ⟨(q_u2 (q_u2 z.1 128 3 0) 128 2 1, z.2), ?_, q_MW_t (z2 := (q_u2 z.1 128 3 0, z.2)) 1 (by decide) (q_MW_t (z2 := z) 0 (by decide) (q_MW_rfl z)), rfl⟩)
      · unfold F_X9_quotient
        rw [hF, Option.bind_some]
        rfl
      · unfold F_X10_quotient
        rw [hG, Option.bind_some]
        rfl
theorem k_near {s : q_SS} (hv : q_V s) (l1 l2 l3 : Int32) : q_cok (fun z => F_X9_near z l1 l2 l3) (fun z => F_X10_near z l1 l2 l3) s := by
  obtain ⟨x, hx, rfl⟩ := q_i_of l1
  obtain ⟨y, hy, rfl⟩ := q_i_of l2
  have hin : ∀ z : q_Z, F_X10_in z (Int32.toInt64 (q_i y)) 0 1000 = some (if 0 ≤ y ∧ y ≤ 1000 then 1 else 0, z) := fun z => p_in_i (z := z) (a := 0) (c := 1000) hy (by decide) (by decide)
  rcases p_X9_hasQuotients hx with ⟨h, hF⟩ | ⟨h, hF⟩
  · rcases p_X10_isRooted hx with ⟨_, hG⟩ | ⟨h2, _⟩
    · obtain ⟨R, hN⟩ := q_hq_N h
      by_cases c : 0 ≤ y ∧ y ≤ 1000
      · obtain ⟨K, rfl⟩ : ∃ K : Nat, y = K := ⟨y.toNat, by omega⟩
        obtain ⟨g, hg⟩ : ∃ g, g = q_fit x R (K + 1) (0, 1) (1, 0, 0, 1, false) := ⟨_, rfl⟩
        refine q_cok_t hv (if g.2.2.2.2 then -1 else if l3 = 0 then q_l g.1 else q_l g.2.1) (if g.2.2.2.2 then 6 else 0) (fun z hz => ?_) (fun z hz => ?_)
        · obtain ⟨z2, a1, a2, a3⟩ := p_X5_goTo (z := z) (K := K) hN (by omega)
          rw [← hg] at a2
          refine ⟨(q_u2 z2.1 1 9 (if g.2.2.2.2 then 6 else 0), z2.2), ?_, q_CW_t _ (q_CW_only (by omega) a3), rfl⟩
          unfold F_X9_near
          rw [hF, Option.bind_some]
          dsimp only
          rw [if_neg (by decide), if_neg (by rw [q_i0, q_i_lt hy (by decide)]; omega), if_pos (by rw [show (1000 : Int32) = q_i 1000 from rfl, q_i_le hy (by decide)]; omega), q_l_i hx, a1, Option.bind_some]
          dsimp only
          have eb := a2.2.2.2.2.2.2.2.2.2
          rw [a2.2.2.2.2.2.1, a2.2.2.2.2.2.2.1]
          by_cases cb : g.2.2.2.2 = true
          · rw [cb] at eb ⊢
            rw [if_neg (by rw [eb]; decide)]
            rfl
          · have cb : g.2.2.2.2 = false := by simpa using cb
            rw [cb] at eb ⊢
            rw [if_pos (show _ = (0 : Int32) from eb)]
            by_cases c3 : l3 = 0
            · simp only [if_pos c3]
              rfl
            · simp only [if_neg c3]
              rfl
        · obtain ⟨z1, a1, a2, a3⟩ := p_X10_begin (z := (q_u2 z.1 128 3 0, z.2)) (P := 0) (Q := 1) hN
          obtain ⟨z2, b1, b2, b4⟩ := p_X10_near_loop hN l3 (K + 1) 0 K (0, 1) (1, 0, -0, 1, false) z1 (by omega) (by omega) (q_x00 hN) ⟨by show (0 : Int) ≤ 1; decide, by show (1 : Int) ≤ 1000000000000000000; decide, by show (0 : Int) ≤ -0; decide, by show (-0 : Int) ≤ 1000000000000000000; decide⟩ a2
          have hg2 : g = q_fit x R (K + 1) (0, 1) (1, 0, -0, 1, false) := hg
          rw [← hg2] at b2
          refine ⟨(q_u2 z2.1 128 2 (if g.2.2.2.2 then 6 else 0), z2.2), ?_, q_MW_t (z2 := z2) _ (by decide) (q_MW_trans (q_MW_t (z2 := z) 0 (by decide) (q_MW_rfl z)) (q_MW_FR (q_FRm_trans a3 b4))), rfl⟩
          unfold F_X10_near
          rw [hG, Option.bind_some]
          dsimp only
          rw [if_neg (by decide), hin, Option.bind_some, if_pos c]
          dsimp only
          have a1 : F_X10_begin (q_u2 z.1 128 3 0, z.2) (q_l x) 0 1 = some ((), z1) := a1
          have b1 := q_lp_mono b1 (show K + 1 + 1 ≤ q_fu by unfold q_fu; omega)
          have b1 : q_lp B_X10_near_44 q_fu (q_i K, l3, 0, z1) = _ := b1
          rw [if_neg (by decide), q_l_i hx, a1, Option.bind_some]
          dsimp only
          rw [b1, Option.bind_some]
          dsimp only
          have eb := b2.2.2.2.2.2.2.2.2
          rw [if_pos rfl, b2.2.2.2.2.1, b2.2.2.2.2.2.1]
          by_cases cb : g.2.2.2.2 = true
          · rw [cb] at eb ⊢
            rw [if_neg (by rw [eb]; decide)]
            rfl
          · have cb : g.2.2.2.2 = false := by simpa using cb
            rw [cb] at eb ⊢
            rw [if_pos (show _ = (0 : Int32) from eb)]
            by_cases c3 : l3 = 0
            · simp only [if_pos c3]
              rfl
            · simp only [if_neg c3]
              rfl
      · refine q_cok_t hv (-1) 1 (fun z hz => ⟨(q_u2 z.1 1 9 1, z.2), ?_, q_CW_t 1 (q_CW_rfl z), rfl⟩) (fun z hz => ⟨(q_u2 (q_u2 z.1 128 3 0) 128 2 1, z.2), ?_, q_MW_t (z2 := (q_u2 z.1 128 3 0, z.2)) 1 (by decide) (q_MW_t (z2 := z) 0 (by decide) (q_MW_rfl z)), rfl⟩)
        · unfold F_X9_near T_X9_near_18
          rw [hF, Option.bind_some]
          dsimp only
          rw [if_neg (by decide)]
          by_cases c1 : y < 0
          · rw [if_pos (by rw [q_i0, q_i_lt hy (by decide)]; omega)]
            rfl
          · rw [if_neg (by rw [q_i0, q_i_lt hy (by decide)]; omega), if_neg (by rw [show (1000 : Int32) = q_i 1000 from rfl, q_i_le hy (by decide)]; omega)]
            rfl
        · unfold F_X10_near
          rw [hG, Option.bind_some]
          dsimp only
          rw [if_neg (by decide), hin, Option.bind_some, if_neg c]
          rfl
    · exact absurd h h2
  · rcases p_X10_isRooted hx with ⟨h2, _⟩ | ⟨_, hG⟩
    · exact absurd h2 h
    · refine q_cok_t hv (-1) 1 (fun z hz => ⟨(q_u2 z.1 1 9 1, z.2), ?_, q_CW_t 1 (q_CW_rfl z), rfl⟩) (fun z hz => ⟨(q_u2 (q_u2 z.1 128 3 0) 128 2 1, z.2), ?_, q_MW_t (z2 := (q_u2 z.1 128 3 0, z.2)) 1 (by decide) (q_MW_t (z2 := z) 0 (by decide) (q_MW_rfl z)), rfl⟩)
      · unfold F_X9_near
        rw [hF, Option.bind_some]
        rfl
      · unfold F_X10_near
        rw [hG, Option.bind_some]
        rfl
theorem k_unit {s : q_SS} (hv : q_V s) (l1 : Int32) : q_cok (fun z => F_X9_unit z l1) (fun z => F_X10_unit z l1) s := by
  obtain ⟨x, hx, rfl⟩ := q_i_of l1
  have hdb : q_b s.1.1 := by rcases hv.1 with q | q <;> exact ⟨by omega, by omega⟩
  by_cases cd : 0 ≤ s.1.1
  · have hp : 0 < s.1.1 := by rcases hv.1 with q | q <;> omega
    by_cases c : 0 ≤ x ∧ x ≤ 2
    · obtain ⟨big, t, u, v, hF, hG⟩ := p_unit hv.1 hp hv.2.1
      refine q_cok_t hv (if big then -1 else if x = 0 then t else if x = 1 then u else v) (if big then 6 else 0) (fun z hz => ?_) (fun z hz => ?_)
      · obtain ⟨z2, a1, a2⟩ := hF z x hz.1.1 hz.1.2 c.1 c.2
        exact ⟨_, a1, q_CW_t _ (q_CW_only (by omega) a2), rfl⟩
      · obtain ⟨z2, a1, a2⟩ := hG z x hz.1.1 c.1 c.2
        exact ⟨_, a1, q_MW_t (z2 := z2) _ (by decide) (q_MW_trans (q_MW_t (z2 := z) 0 (by decide) (q_MW_rfl z)) (q_MW_FR a2)), rfl⟩
    · refine q_cok_t hv (-1) 1 (fun z hz => ⟨(q_u2 z.1 1 9 1, z.2), ?_, q_CW_t 1 (q_CW_rfl z), rfl⟩) (fun z hz => ⟨(q_u2 (q_u2 z.1 128 3 0) 128 2 1, z.2), ?_, q_MW_t (z2 := (q_u2 z.1 128 3 0, z.2)) 1 (by decide) (q_MW_t (z2 := z) 0 (by decide) (q_MW_rfl z)), rfl⟩)
      · unfold F_X9_unit T_X9_unit_26
        rw [hz.1.1, if_pos (by rw [q_i0, q_i_le (by decide) hdb]; exact cd)]
        by_cases c1 : x < 0
        · rw [if_pos (by rw [q_i0, q_i_lt hx (by decide)]; omega)]
          rfl
        · rw [if_neg (by rw [q_i0, q_i_lt hx (by decide)]; omega), if_neg (by rw [show (2 : Int32) = q_i 2 from rfl, q_i_le hx (by decide)]; omega)]
          rfl
      · have hin : F_X10_in (q_u2 z.1 128 3 0, z.2) (Int32.toInt64 (q_i x)) 0 2 = _ := p_in_i (a := 0) (c := 2) hx (by decide) (by decide)
        unfold F_X10_unit
        rw [hz.1.1, if_pos (by rw [q_i0, q_i_le (by decide) hdb]; exact cd), hin, Option.bind_some, if_neg c]
        rfl
  · refine q_cok_t hv (-1) 5 (fun z hz => ⟨(q_u2 z.1 1 9 5, z.2), ?_, q_CW_t 5 (q_CW_rfl z), rfl⟩) (fun z hz => ⟨(q_u2 (q_u2 z.1 128 3 0) 128 2 5, z.2), ?_, q_MW_t (z2 := (q_u2 z.1 128 3 0, z.2)) 5 (by decide) (q_MW_t (z2 := z) 0 (by decide) (q_MW_rfl z)), rfl⟩)
    · unfold F_X9_unit
      rw [hz.1.1, if_neg (by rw [q_i0, q_i_le (by decide) hdb]; exact cd)]
      rfl
    · unfold F_X10_unit
      rw [hz.1.1, if_neg (by rw [q_i0, q_i_le (by decide) hdb]; exact cd)]
      rfl
