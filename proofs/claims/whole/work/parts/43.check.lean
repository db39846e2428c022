/-! check -/
theorem k_check {s : q_SS} (hv : q_V s) (l1 l2 l3 l4 l5 l6 : Int32) : q_cok (fun z => F_X9_check z l1 l2 l3 l4 l5 l6) (fun z => F_X10_check z l1 l2 l3 l4 l5 l6) s := by
  obtain ⟨x, hx, rfl⟩ := q_i_of l1
  obtain ⟨y, hy, rfl⟩ := q_i_of l2
  obtain ⟨a, ha, rfl⟩ := q_i_of l3
  obtain ⟨b, hb, rfl⟩ := q_i_of l4
  obtain ⟨c, hc, rfl⟩ := q_i_of l5
  obtain ⟨e, he, rfl⟩ := q_i_of l6
  have hn := hv.2.2.1
  have hin : ∀ (z : q_Z) (v : Int), q_b v → F_X10_in z (Int32.toInt64 (q_i v)) (-1000000) 1000000 = some (if -1000000 ≤ v ∧ v ≤ 1000000 then 1 else 0, z) := by
    intro z v h
    rw [show (-1000000 : Int64) = q_l (-1000000) from rfl, show (1000000 : Int64) = q_l 1000000 from rfl]
    exact p_in_i (z := z) (a := -1000000) (c := 1000000) h (by decide) (by decide)
  by_cases cx : 0 ≤ x ∧ x < s.2.1.1
  · by_cases cy : 0 ≤ y ∧ y < s.2.1.1
    · by_cases cr : (-1000000 ≤ a ∧ a ≤ 1000000) ∧ (-1000000 ≤ b ∧ b ≤ 1000000) ∧ (-1000000 ≤ c ∧ c ≤ 1000000) ∧ (-1000000 ≤ e ∧ e ≤ 1000000)
      · obtain ⟨ra, rb, rc, re⟩ := cr
        by_cases cw : Int32.toInt64 (q_i a) * Int32.toInt64 (q_i e) - Int32.toInt64 (q_i b) * Int32.toInt64 (q_i c) = 1
        · obtain ⟨A, hA⟩ : ∃ A, A = s.2.1.2 x.toNat := ⟨_, rfl⟩
          obtain ⟨B, hB⟩ : ∃ B, B = s.2.1.2 y.toNat := ⟨_, rfl⟩
          refine q_cok_t hv (if q_l A.1 * Int32.toInt64 (q_i a) * Int32.toInt64 (q_i a) + q_l A.2.1 * Int32.toInt64 (q_i a) * Int32.toInt64 (q_i c) + q_l A.2.2 * Int32.toInt64 (q_i c) * Int32.toInt64 (q_i c) = q_l B.1 then (if 2 * q_l A.1 * Int32.toInt64 (q_i a) * Int32.toInt64 (q_i b) + q_l A.2.1 * (Int32.toInt64 (q_i a) * Int32.toInt64 (q_i e) + Int32.toInt64 (q_i b) * Int32.toInt64 (q_i c)) + 2 * q_l A.2.2 * Int32.toInt64 (q_i c) * Int32.toInt64 (q_i e) = q_l B.2.1 then (if q_l A.1 * Int32.toInt64 (q_i b) * Int32.toInt64 (q_i b) + q_l A.2.1 * Int32.toInt64 (q_i b) * Int32.toInt64 (q_i e) + q_l A.2.2 * Int32.toInt64 (q_i e) * Int32.toInt64 (q_i e) = q_l B.2.2 then 1 else 0) else 0) else 0) 0 (fun z hz => ⟨(q_u2 z.1 1 9 0, q_v4 z.2 127 (Int32.toInt64 (q_i a), Int32.toInt64 (q_i b), Int32.toInt64 (q_i c), Int32.toInt64 (q_i e))), ?_, ?_, rfl⟩) (fun z hz => ⟨(q_u2 (q_u2 z.1 128 3 0) 128 2 0, q_w7 z.2 A (z.2 128 15, z.2 128 16, z.2 128 17, z.2 128 18)), ?_, q_MW_w7 (q_MW_t (z2 := (q_u2 z.1 128 3 0, z.2)) 0 (by decide) (q_MW_t (z2 := z) 0 (by decide) (q_MW_rfl z))), rfl⟩)
          · obtain ⟨g1, g2, g3⟩ := hz.2.2.1.2 x.toNat (by omega)
            obtain ⟨f1, f2, f3⟩ := hz.2.2.1.2 y.toNat (by omega)
            rw [← hA] at g1 g2 g3
            rw [← hB] at f1 f2 f3
            have ex : ∀ w, q_v4 z.2 127 w (19 + x.toNat) = z.2 (19 + x.toNat) := fun w => q_v4_ne (by omega)
            have ey : ∀ w, q_v4 z.2 127 w (19 + y.toNat) = z.2 (19 + y.toNat) := fun w => q_v4_ne (by omega)
            have g2 : z.2 (19 + x.toNat) 1 = q_l A.2.1 := g2
            have g3 : z.2 (19 + x.toNat) 2 = q_l A.2.2 := g3
            have f2 : z.2 (19 + y.toNat) 1 = q_l B.2.1 := f2
            have f3 : z.2 (19 + y.toNat) 2 = q_l B.2.2 := f3
            generalize hP : Int32.toInt64 (q_i a) = P at *
            generalize hQ : Int32.toInt64 (q_i b) = Q at *
            generalize hS : Int32.toInt64 (q_i c) = S at *
            generalize hT : Int32.toInt64 (q_i e) = T at *
            have lead : F_X8_leads 127 (19 + x.toNat) (19 + y.toNat) (z.1, q_v4 z.2 127 (P, Q, S, T)) = some (if q_l A.1 * P * P + q_l A.2.1 * P * S + q_l A.2.2 * S * S = q_l B.1 then (if 2 * q_l A.1 * P * Q + q_l A.2.1 * (P * T + Q * S) + 2 * q_l A.2.2 * S * T = q_l B.2.1 then (if q_l A.1 * Q * Q + q_l A.2.1 * Q * T + q_l A.2.2 * T * T = q_l B.2.2 then 1 else 0) else 0) else 0, (z.1, q_v4 z.2 127 (P, Q, S, T))) := by
              unfold F_X8_leads F_X1_worthAt T_X8_leads_116
              obtain ⟨w0, w1, w2, w3⟩ := q_v4_at z.2 127 (P, Q, S, T)
              simp only [Option.bind_some]
              rw [ex, ey, w0, w1, w2, w3, g1, g2, g3, f1, f2, f3]
              by_cases c1 : q_l A.1 * P * P + q_l A.2.1 * P * S + q_l A.2.2 * S * S = q_l B.1
              · rw [if_pos c1, if_pos c1]
                by_cases c2 : 2 * q_l A.1 * P * Q + q_l A.2.1 * (P * T + Q * S) + 2 * q_l A.2.2 * S * T = q_l B.2.1
                · rw [if_pos c2, if_pos c2]
                  by_cases c3 : q_l A.1 * Q * Q + q_l A.2.1 * Q * T + q_l A.2.2 * T * T = q_l B.2.2
                  · rw [if_pos c3, if_pos c3]
                  · rw [if_neg c3, if_neg c3]
                · rw [if_neg c2, if_neg c2]
              · rw [if_neg c1, if_neg c1]
            unfold F_X9_check
            rw [p_X6_at hz.2.2.1.1 hn hx, Option.bind_some, if_pos cx]
            dsimp only
            rw [p_X6_at hz.2.2.1.1 hn hy, Option.bind_some, if_pos cy]
            dsimp only
            rw [p_X9_isBeyond ha, Option.bind_some, if_pos ra]
            dsimp only
            rw [if_pos rfl, p_X9_isBeyond hb, Option.bind_some, if_pos rb]
            dsimp only
            rw [if_pos rfl, p_X9_isBeyond hc, Option.bind_some, if_pos rc]
            dsimp only
            rw [if_pos rfl, p_X9_isBeyond he, Option.bind_some, if_pos re]
            dsimp only
            have eput : F_X8_put 127 z P Q S T = some ((), (z.1, q_v4 z.2 127 (P, Q, S, T))) := rfl
            have ewo : F_X8_worth 127 (z.1, q_v4 z.2 127 (P, Q, S, T)) = some (P * T - Q * S, (z.1, q_v4 z.2 127 (P, Q, S, T))) := rfl
            rw [if_pos rfl, hP, hQ, hS, hT, eput, Option.bind_some]
            dsimp only
            rw [ewo, Option.bind_some]
            dsimp only
            rw [if_pos cw, lead, Option.bind_some]
            dsimp only
            by_cases c1 : q_l A.1 * P * P + q_l A.2.1 * P * S + q_l A.2.2 * S * S = q_l B.1
            · simp only [if_pos c1]
              by_cases c2 : 2 * q_l A.1 * P * Q + q_l A.2.1 * (P * T + Q * S) + 2 * q_l A.2.2 * S * T = q_l B.2.1
              · simp only [if_pos c2]
                by_cases c3 : q_l A.1 * Q * Q + q_l A.2.1 * Q * T + q_l A.2.2 * T * T = q_l B.2.2
                · simp only [if_pos c3]
                  rfl
                · simp only [if_neg c3]
                  rfl
              · simp only [if_neg c2]
                rfl
            · simp only [if_neg c1]
              rfl
          · intro m a1 a2 a3 a4
            exact ⟨q_u2_ne a1, q_v4_ne a4⟩
          · obtain ⟨f1, f2, f3⟩ := hz.2.2.1.2 y.toNat (by omega)
            rw [← hB] at f1 f2 f3
            unfold F_X10_check T_X10_check_317
            rw [p_X10_isPlace (z := (q_u2 z.1 128 3 0, z.2)) (n := s.2.1.1) hz.2.2.1.1 hn hx, Option.bind_some, if_pos cx]
            dsimp only
            rw [if_neg (by decide), p_X10_isPlace (z := (q_u2 z.1 128 3 0, z.2)) (n := s.2.1.1) hz.2.2.1.1 hn hy, Option.bind_some, if_pos cy]
            dsimp only
            rw [if_neg (by decide), hin _ a ha, Option.bind_some, if_pos ra]
            dsimp only
            rw [if_neg (by decide), hin _ b hb, Option.bind_some, if_pos rb]
            dsimp only
            rw [if_neg (by decide), hin _ c hc, Option.bind_some, if_pos rc]
            dsimp only
            rw [if_neg (by decide), hin _ e he, Option.bind_some, if_pos re]
            dsimp only
            rw [if_neg (by decide), if_pos cw, p_X10_take (z := (q_u2 (q_u2 z.1 128 3 0) 128 2 0, z.2)) hz.2.2.1.2 hn cx.1 cx.2, Option.bind_some, ← hA]
            dsimp only
            have w12 : ∀ v, q_w7 z.2 A v 128 12 = q_l A.1 := fun v => rfl
            have w13 : ∀ v, q_w7 z.2 A v 128 13 = q_l A.2.1 := fun v => rfl
            have w14 : ∀ v, q_w7 z.2 A v 128 14 = q_l A.2.2 := fun v => rfl
            have w9 : ∀ v k, q_w7 z.2 A v 129 k = z.2 129 k := fun v k => rfl
            have t0 : Int32.toInt (3 * q_i y) = 3 * y := by rw [show (3 : Int32) = q_i 3 from rfl, q_i_mul, q_i_toInt ⟨by omega, by omega⟩]
            have t1 : Int32.toInt (3 * q_i y + 1) = 3 * y + 1 := by rw [show (3 : Int32) = q_i 3 from rfl, q_i1, q_i_mul, q_i_add, q_i_toInt ⟨by omega, by omega⟩]
            have t2 : Int32.toInt (3 * q_i y + 2) = 3 * y + 2 := by rw [show (3 : Int32) = q_i 3 from rfl, show (2 : Int32) = q_i 2 from rfl, q_i_mul, q_i_add, q_i_toInt ⟨by omega, by omega⟩]
            have n0 : Int32.toNatClampNeg (3 * q_i y) = 3 * y.toNat := by rw [show (3 : Int32) = q_i 3 from rfl, q_i_mul, q_clamp ⟨by omega, by omega⟩]; omega
            have n1 : Int32.toNatClampNeg (3 * q_i y + 1) = 3 * y.toNat + 1 := by rw [show (3 : Int32) = q_i 3 from rfl, q_i1, q_i_mul, q_i_add, q_clamp ⟨by omega, by omega⟩]; omega
            have n2 : Int32.toNatClampNeg (3 * q_i y + 2) = 3 * y.toNat + 2 := by rw [show (3 : Int32) = q_i 3 from rfl, show (2 : Int32) = q_i 2 from rfl, q_i_mul, q_i_add, q_clamp ⟨by omega, by omega⟩]; omega
            simp only [w12, w13, w14, w9, t0, t1, t2, n0, n1, n2, f1, f2, f3]
            rw [if_pos (show 0 ≤ 3 * y ∧ 3 * y < (120 : Int) by omega), if_pos (show 0 ≤ 3 * y + 1 ∧ 3 * y + 1 < (120 : Int) by omega), if_pos (show 0 ≤ 3 * y + 2 ∧ 3 * y + 2 < (120 : Int) by omega)]
            generalize hP : Int32.toInt64 (q_i a) = P at *
            generalize hQ : Int32.toInt64 (q_i b) = Q at *
            generalize hS : Int32.toInt64 (q_i c) = S at *
            generalize hT : Int32.toInt64 (q_i e) = T at *
            by_cases c1 : q_l A.1 * P * P + q_l A.2.1 * P * S + q_l A.2.2 * S * S = q_l B.1
            · simp only [if_pos c1]
              by_cases c2 : 2 * q_l A.1 * P * Q + q_l A.2.1 * (P * T + Q * S) + 2 * q_l A.2.2 * S * T = q_l B.2.1
              · simp only [if_pos c2]
                by_cases c3 : q_l A.1 * Q * Q + q_l A.2.1 * Q * T + q_l A.2.2 * T * T = q_l B.2.2
                · simp only [if_pos c3]
                · simp only [if_neg c3]
              · simp only [if_neg c2]
            · simp only [if_neg c1]
        · refine q_cok_t hv (-1) 7 (fun z hz => ⟨(q_u2 z.1 1 9 7, q_v4 z.2 127 (Int32.toInt64 (q_i a), Int32.toInt64 (q_i b), Int32.toInt64 (q_i c), Int32.toInt64 (q_i e))), ?_, ?_, rfl⟩) (fun z hz => ⟨(q_u2 (q_u2 z.1 128 3 0) 128 2 7, z.2), ?_, q_MW_t (z2 := (q_u2 z.1 128 3 0, z.2)) 7 (by decide) (q_MW_t (z2 := z) 0 (by decide) (q_MW_rfl z)), rfl⟩)
          · unfold F_X9_check
            rw [p_X6_at hz.2.2.1.1 hn hx, Option.bind_some, if_pos cx]
            dsimp only
            rw [p_X6_at hz.2.2.1.1 hn hy, Option.bind_some, if_pos cy]
            dsimp only
            rw [p_X9_isBeyond ha, Option.bind_some, if_pos ra]
            dsimp only
            rw [if_pos rfl, p_X9_isBeyond hb, Option.bind_some, if_pos rb]
            dsimp only
            rw [if_pos rfl, p_X9_isBeyond hc, Option.bind_some, if_pos rc]
            dsimp only
            rw [if_pos rfl, p_X9_isBeyond he, Option.bind_some, if_pos re]
            dsimp only
            generalize hP : Int32.toInt64 (q_i a) = P at *
            generalize hQ : Int32.toInt64 (q_i b) = Q at *
            generalize hS : Int32.toInt64 (q_i c) = S at *
            generalize hT : Int32.toInt64 (q_i e) = T at *
            have eput : F_X8_put 127 z P Q S T = some ((), (z.1, q_v4 z.2 127 (P, Q, S, T))) := rfl
            have ewo : F_X8_worth 127 (z.1, q_v4 z.2 127 (P, Q, S, T)) = some (P * T - Q * S, (z.1, q_v4 z.2 127 (P, Q, S, T))) := rfl
            rw [if_pos rfl, eput, Option.bind_some]
            dsimp only
            rw [ewo, Option.bind_some]
            dsimp only
            rw [if_neg cw]
            rfl
          · intro m a1 a2 a3 a4
            exact ⟨q_u2_ne a1, q_v4_ne a4⟩
          · unfold F_X10_check
            rw [p_X10_isPlace (z := (q_u2 z.1 128 3 0, z.2)) (n := s.2.1.1) hz.2.2.1.1 hn hx, Option.bind_some, if_pos cx]
            dsimp only
            rw [if_neg (by decide), p_X10_isPlace (z := (q_u2 z.1 128 3 0, z.2)) (n := s.2.1.1) hz.2.2.1.1 hn hy, Option.bind_some, if_pos cy]
            dsimp only
            rw [if_neg (by decide), hin _ a ha, Option.bind_some, if_pos ra]
            dsimp only
            rw [if_neg (by decide), hin _ b hb, Option.bind_some, if_pos rb]
            dsimp only
            rw [if_neg (by decide), hin _ c hc, Option.bind_some, if_pos rc]
            dsimp only
            rw [if_neg (by decide), hin _ e he, Option.bind_some, if_pos re]
            dsimp only
            rw [if_neg (by decide), if_neg cw]
            rfl
      · refine q_cok_t hv (-1) 1 (fun z hz => ⟨(q_u2 z.1 1 9 1, z.2), ?_, q_CW_t 1 (q_CW_rfl z), rfl⟩) (fun z hz => ⟨(q_u2 (q_u2 z.1 128 3 0) 128 2 1, z.2), ?_, q_MW_t (z2 := (q_u2 z.1 128 3 0, z.2)) 1 (by decide) (q_MW_t (z2 := z) 0 (by decide) (q_MW_rfl z)), rfl⟩)
        · unfold F_X9_check T_X9_check_67
          rw [p_X6_at hz.2.2.1.1 hn hx, Option.bind_some, if_pos cx]
          dsimp only
          rw [p_X6_at hz.2.2.1.1 hn hy, Option.bind_some, if_pos cy]
          dsimp only
          rw [p_X9_isBeyond ha, Option.bind_some]
          by_cases ra : -1000000 ≤ a ∧ a ≤ 1000000
          · rw [if_pos ra]
            dsimp only
            rw [if_pos rfl, p_X9_isBeyond hb, Option.bind_some]
            by_cases rb : -1000000 ≤ b ∧ b ≤ 1000000
            · rw [if_pos rb]
              dsimp only
              rw [if_pos rfl, p_X9_isBeyond hc, Option.bind_some]
              by_cases rc : -1000000 ≤ c ∧ c ≤ 1000000
              · rw [if_pos rc]
                dsimp only
                rw [if_pos rfl, p_X9_isBeyond he, Option.bind_some, if_neg (fun q => cr ⟨ra, rb, rc, q⟩)]
                rfl
              · rw [if_neg rc]
                rfl
            · rw [if_neg rb]
              rfl
          · rw [if_neg ra]
            rfl
        · unfold F_X10_check T_X10_check_90
          rw [p_X10_isPlace (z := (q_u2 z.1 128 3 0, z.2)) (n := s.2.1.1) hz.2.2.1.1 hn hx, Option.bind_some, if_pos cx]
          dsimp only
          rw [if_neg (by decide), p_X10_isPlace (z := (q_u2 z.1 128 3 0, z.2)) (n := s.2.1.1) hz.2.2.1.1 hn hy, Option.bind_some, if_pos cy]
          dsimp only
          rw [if_neg (by decide), hin _ a ha, Option.bind_some]
          by_cases ra : -1000000 ≤ a ∧ a ≤ 1000000
          · rw [if_pos ra]
            dsimp only
            rw [if_neg (by decide), hin _ b hb, Option.bind_some]
            by_cases rb : -1000000 ≤ b ∧ b ≤ 1000000
            · rw [if_pos rb]
              dsimp only
              rw [if_neg (by decide), hin _ c hc, Option.bind_some]
              by_cases rc : -1000000 ≤ c ∧ c ≤ 1000000
              · rw [if_pos rc]
                dsimp only
                rw [if_neg (by decide), hin _ e he, Option.bind_some, if_neg (fun q => cr ⟨ra, rb, rc, q⟩)]
                rfl
              · rw [if_neg rc]
                rfl
            · rw [if_neg rb]
              rfl
          · rw [if_neg ra]
            rfl
    · refine q_cok_t hv (-1) 2 (fun z hz => ⟨(q_u2 z.1 1 9 2, z.2), ?_, q_CW_t 2 (q_CW_rfl z), rfl⟩) (fun z hz => ⟨(q_u2 (q_u2 z.1 128 3 0) 128 2 2, z.2), ?_, q_MW_t (z2 := (q_u2 z.1 128 3 0, z.2)) 2 (by decide) (q_MW_t (z2 := z) 0 (by decide) (q_MW_rfl z)), rfl⟩)
      · unfold F_X9_check
        rw [p_X6_at hz.2.2.1.1 hn hx, Option.bind_some, if_pos cx]
        dsimp only
        rw [p_X6_at hz.2.2.1.1 hn hy, Option.bind_some, if_neg cy]
        rfl
      · unfold F_X10_check
        rw [p_X10_isPlace (z := (q_u2 z.1 128 3 0, z.2)) (n := s.2.1.1) hz.2.2.1.1 hn hx, Option.bind_some, if_pos cx]
        dsimp only
        rw [if_neg (by decide), p_X10_isPlace (z := (q_u2 z.1 128 3 0, z.2)) (n := s.2.1.1) hz.2.2.1.1 hn hy, Option.bind_some, if_neg cy]
        rfl
  · refine q_cok_t hv (-1) 2 (fun z hz => ⟨(q_u2 z.1 1 9 2, z.2), ?_, q_CW_t 2 (q_CW_rfl z), rfl⟩) (fun z hz => ⟨(q_u2 (q_u2 z.1 128 3 0) 128 2 2, z.2), ?_, q_MW_t (z2 := (q_u2 z.1 128 3 0, z.2)) 2 (by decide) (q_MW_t (z2 := z) 0 (by decide) (q_MW_rfl z)), rfl⟩)
    · unfold F_X9_check
      rw [p_X6_at hz.2.2.1.1 hn hx, Option.bind_some, if_neg cx]
      dsimp only
      rw [p_X6_at hz.2.2.1.1 hn hy, Option.bind_some]
      by_cases cy : 0 ≤ y ∧ y < s.2.1.1
      · rw [if_pos cy]
        rfl
      · rw [if_neg cy]
        rfl
    · unfold F_X10_check
      rw [p_X10_isPlace (z := (q_u2 z.1 128 3 0, z.2)) (n := s.2.1.1) hz.2.2.1.1 hn hx, Option.bind_some, if_neg cx]
      rfl
