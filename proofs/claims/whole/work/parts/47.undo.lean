/-! undo -/
def q_s_undo (s : q_SS) (n : Nat) (sh : Nat → q_f3) : q_SS := (s.1, (n, sh), (s.2.2.1.1 - 1, fun i => s.2.2.1.2 (i + 1)), s.2.2.2)
theorem p_X6_pop {m ny : Nat} {lg : Nat → Int × q_f3} {z z2 : q_Z} {nx : Nat} (h1 : nx < 60) (hm : 0 < m) (hm6 : m ≤ 60) (h4 : ∀ i, i < m → z.1 120 ((nx + 59 - i) % 60) = q_i (lg i).1 ∧ ((lg i).1 ≠ -1 → q_3 (z.2 (60 + (nx + 59 - i) % 60)) 0 (lg i).2)) (hy : ny = (nx + 59) % 60) (e4 : z2.1 17 4 = q_i ((m - 1 : Nat) : Int)) (e5 : z2.1 17 5 = q_i ny) (e1 : z2.1 120 = z.1 120) (e2 : ∀ i, i < 60 → z2.2 (60 + i) = z.2 (60 + i)) : q_Cl (m - 1) (fun i => lg (i + 1)) z2 := by
  refine ⟨ny, by omega, e4, e5, fun i hi => ?_⟩
  rw [e1, e2 _ (Nat.mod_lt _ (by decide)), show (ny + 59 - i) % 60 = (nx + 59 - (i + 1)) % 60 by omega]
  exact h4 (i + 1) (by omega)
theorem k_undo {s : q_SS} (hv : q_V s) : q_cok F_X9_undo F_X10_undo s := by
  have hn := hv.2.2.1
  have hm := hv.2.2.2.1
  by_cases c0 : s.2.2.1.1 = 0
  · refine q_cok_r hv 0 (fun z hz => ⟨z, ?_, q_CW_rfl z, rfl⟩) (fun z hz => ⟨(q_u2 z.1 128 3 0, z.2), ?_, q_MW_t (z2 := z) 0 (by decide) (q_MW_rfl z), rfl⟩)
    · obtain ⟨nx, h1, h2, h3, h4⟩ := hz.2.2.2.1
      unfold F_X9_undo F_X6_takeBack
      rw [h2, c0, if_neg (by decide)]
      rfl
    · unfold F_X10_undo
      rw [hz.2.2.2.1.1, c0, if_pos (by decide)]
  · obtain ⟨m, hme⟩ : ∃ m, s.2.2.1.1 = m + 1 := ⟨s.2.2.1.1 - 1, by omega⟩
    obtain ⟨v1, v2, v3, v4, v5, v6, v7, v8⟩ := hv
    rw [hme] at v8
    have V7 : ∀ i, i < s.2.2.1.1 - 1 → (s.2.2.1.2 (i + 1)).1 ≠ -1 → q_G s.1.1 (s.2.2.1.2 (i + 1)).2 := fun i hi => v7 (i + 1) (by omega)
    have idx : ((4 : Int32) * (q_i ((m + 1 : Nat) : Int) - 1)) = q_i (4 * (m : Int)) := by rw [show (4 : Int32) = q_i 4 from rfl, q_i1, q_i_sub, q_i_mul, show (4 : Int) * (((m + 1 : Nat) : Int) - 1) = 4 * (m : Int) by omega]
    have im : q_i ((m + 1 : Nat) : Int) - 1 = q_i (m : Int) := by rw [q_i1, q_i_sub, show ((m + 1 : Nat) : Int) - 1 = (m : Int) by omega]
    rcases v8 with ⟨p1, p2, p3⟩ | ⟨p1, p2, p3⟩
    · refine ⟨1, q_s_undo s (s.2.1.1 - 1) s.2.1.2, ⟨v1, v2, by show s.2.1.1 - 1 ≤ 40; omega, by show s.2.2.1.1 - 1 ≤ 60; omega, v5, fun i hi => v6 i (by have hi : i < s.2.1.1 - 1 := hi; omega), V7, by show q_Vl (s.2.1.1 - 1) (s.2.2.1.1 - 1) _; rw [hme]; exact p3⟩, fun z hz => ?_, fun z hz => ?_⟩
      · obtain ⟨nx, h1, h2, h3, h4⟩ := hz.2.2.2.1
        obtain ⟨ny, hy⟩ : ∃ ny, ny = (nx + 59) % 60 := ⟨_, rfl⟩
        obtain ⟨c1, c2, c3, c4, c5, c6, c7⟩ := hz
        obtain ⟨g1, g2⟩ := h4 0 (by omega)
        rw [p1, show (nx + 59 - 0) % 60 = ny by omega] at g1
        have e47 : T_X6_takeBack_47 (q_u2 z.1 17 4 (q_i (m : Int)), z.2) (q_i ny) = some (1, (q_u2 (q_u2 (q_u2 z.1 17 4 (q_i (m : Int))) 17 5 (q_i ny)) 17 3 (q_i ((s.2.1.1 - 1 : Nat) : Int)), z.2)) := by
          unfold T_X6_takeBack_47
          have e3 : q_u2 z.1 17 4 (q_i (m : Int)) 17 3 = q_i s.2.1.1 := c3.1
          have e120 : q_u2 z.1 17 4 (q_i (m : Int)) 120 = z.1 120 := q_u2_ne (by decide)
          rw [q_i_toInt ⟨by omega, by omega⟩, if_pos (by omega)]
          dsimp only
          rw [if_pos (by rw [e120, q_clamp ⟨by omega, by omega⟩, show ((ny : Int)).toNat = ny by omega, g1]; rfl), e3, q_i1, q_i_sub, show (s.2.1.1 : Int) - 1 = ((s.2.1.1 - 1 : Nat) : Int) by omega]
        refine ⟨(q_u2 (q_u2 (q_u2 z.1 17 4 (q_i (m : Int))) 17 5 (q_i ny)) 17 3 (q_i ((s.2.1.1 - 1 : Nat) : Int)), z.2), ?_, ⟨q_Cg_fr c1 ?_, ?_, ⟨rfl, fun i hi => c3.2 i (by have hi : i < s.2.1.1 - 1 := hi; omega)⟩, p_X6_pop h1 (by omega) v4 h4 hy ?_ rfl ?_ (fun _ _ => rfl), q_Cw_fr c5 rfl, q_Co_fr c6 ?_ ?_ ?_, q_Ctab_fr c7 ?_⟩, ?_⟩
        · unfold F_X9_undo F_X6_takeBack T_X6_takeBack_36
          rw [h2, hme, q_i0, if_pos (by rw [q_i_lt (by decide) ⟨by omega, by omega⟩]; omega), im, h3]
          by_cases cx : nx = 0
          · rw [if_pos (by rw [cx]; decide)]
            rw [show (59 : Int32) = q_i ny by rw [show ny = 59 by omega]; rfl, e47, Option.bind_some]
            rfl
          · rw [if_neg (by rw [q_i_le ⟨by omega, by omega⟩ (by decide)]; omega), show (60 : Int32) = q_i 60 from rfl, if_pos (by rw [q_i_lt ⟨by omega, by omega⟩ (by decide)]; omega), q_i1, q_i_sub, show (nx : Int) - 1 = (ny : Int) by omega, e47, Option.bind_some]
            rfl
        · show q_u2 (q_u2 (q_u2 z.1 17 4 (q_i (m : Int))) 17 5 (q_i ny)) 17 3 (q_i ((s.2.1.1 - 1 : Nat) : Int)) 4 = _
          rw [q_u2_ne (by decide), q_u2_ne (by decide), q_u2_ne (by decide)]
        · show q_u2 (q_u2 (q_u2 z.1 17 4 (q_i (m : Int))) 17 5 (q_i ny)) 17 3 (q_i ((s.2.1.1 - 1 : Nat) : Int)) 1 9 = _
          rw [q_u2_ne (by decide), q_u2_ne (by decide), q_u2_ne (by decide)]
          exact c2
        · rw [hme]
          rfl
        · show q_u2 (q_u2 (q_u2 z.1 17 4 (q_i (m : Int))) 17 5 (q_i ny)) 17 3 (q_i ((s.2.1.1 - 1 : Nat) : Int)) 120 = _
          rw [q_u2_ne (by decide), q_u2_ne (by decide), q_u2_ne (by decide)]
        · show q_u2 (q_u2 (q_u2 z.1 17 4 (q_i (m : Int))) 17 5 (q_i ny)) 17 3 (q_i ((s.2.1.1 - 1 : Nat) : Int)) 122 = _
          rw [q_u2_ne (by decide), q_u2_ne (by decide), q_u2_ne (by decide)]
        · show q_u2 (q_u2 (q_u2 z.1 17 4 (q_i (m : Int))) 17 5 (q_i ny)) 17 3 (q_i ((s.2.1.1 - 1 : Nat) : Int)) 123 = _
          rw [q_u2_ne (by decide), q_u2_ne (by decide), q_u2_ne (by decide)]
        · show q_u2 (q_u2 (q_u2 z.1 17 4 (q_i (m : Int))) 17 5 (q_i ny)) 17 3 (q_i ((s.2.1.1 - 1 : Nat) : Int)) 124 = _
          rw [q_u2_ne (by decide), q_u2_ne (by decide), q_u2_ne (by decide)]
        · intro n a1 a2 a3
          show q_u2 (q_u2 (q_u2 z.1 17 4 (q_i (m : Int))) 17 5 (q_i ny)) 17 3 (q_i ((s.2.1.1 - 1 : Nat) : Int)) n = _
          rw [q_u2_ne (by omega), q_u2_ne (by omega), q_u2_ne (by omega)]
        · intro n a1
          refine ⟨?_, rfl⟩
          show q_u2 (q_u2 (q_u2 z.1 17 4 (q_i (m : Int))) 17 5 (q_i ny)) 17 3 (q_i ((s.2.1.1 - 1 : Nat) : Int)) n = _
          rw [q_u2_ne (by omega), q_u2_ne (by omega), q_u2_ne (by omega)]
      · obtain ⟨c1, c2, c3, c4, c5, c6, c7⟩ := hz
        obtain ⟨g1, g2⟩ := c4.2 0 (by omega)
        rw [p1, hme, show 4 * (m + 1 - 1 - 0) = 4 * m by omega] at g1
        refine ⟨(q_u2 (q_u2 (q_u2 z.1 128 3 0) 128 7 (q_i (m : Int))) 128 6 (q_i ((s.2.1.1 - 1 : Nat) : Int)), z.2), ?_, ⟨q_Mg_fr c1 rfl rfl, c2, ⟨rfl, fun i hi => c3.2 i (by have hi : i < s.2.1.1 - 1 := hi; omega)⟩, ⟨?_, ?_⟩, q_Mw_fr c5 rfl, q_Mo_fr c6 rfl ?_ ?_, q_Mtab_fr c7 rfl rfl ?_⟩, ?_⟩
        · unfold F_X10_undo
          rw [c4.1, hme, if_neg (by rw [q_i0, q_i_eq ⟨by omega, by omega⟩ (by decide)]; omega), idx, q_i_toInt ⟨by omega, by omega⟩, if_pos (by omega), q_clamp ⟨by omega, by omega⟩, show (4 * (m : Int)).toNat = 4 * m by omega, g1, q_i_l, if_pos (by decide), im, c3.1]
          rw [show q_i (s.2.1.1 : Int) - 1 = q_i ((s.2.1.1 - 1 : Nat) : Int) by rw [q_i1, q_i_sub, show (s.2.1.1 : Int) - 1 = ((s.2.1.1 - 1 : Nat) : Int) by omega]]
        · show q_i (m : Int) = q_i ((s.2.2.1.1 - 1 : Nat) : Int)
          rw [hme]
          rfl
        · intro i hi
          have hi : i < s.2.2.1.1 - 1 := hi
          show z.2 130 (4 * (s.2.2.1.1 - 1 - 1 - i)) = _ ∧ _
          have := c4.2 (i + 1) (by omega)
          rw [show s.2.2.1.1 - 1 - (i + 1) = s.2.2.1.1 - 1 - 1 - i by omega] at this
          exact this
        · show q_u2 (q_u2 (q_u2 z.1 128 3 0) 128 7 (q_i (m : Int))) 128 6 (q_i ((s.2.1.1 - 1 : Nat) : Int)) 132 = _
          rw [q_u2_ne (by decide), q_u2_ne (by decide), q_u2_ne (by decide)]
        · show q_u2 (q_u2 (q_u2 z.1 128 3 0) 128 7 (q_i (m : Int))) 128 6 (q_i ((s.2.1.1 - 1 : Nat) : Int)) 133 = _
          rw [q_u2_ne (by decide), q_u2_ne (by decide), q_u2_ne (by decide)]
        · intro n a1 a2
          show q_u2 (q_u2 (q_u2 z.1 128 3 0) 128 7 (q_i (m : Int))) 128 6 (q_i ((s.2.1.1 - 1 : Nat) : Int)) n = _
          rw [q_u2_ne (by omega), q_u2_ne (by omega), q_u2_ne (by omega)]
        · intro n a1
          refine ⟨?_, rfl⟩
          show q_u2 (q_u2 (q_u2 z.1 128 3 0) 128 7 (q_i (m : Int))) 128 6 (q_i ((s.2.1.1 - 1 : Nat) : Int)) n = _
          rw [q_u2_ne (by omega), q_u2_ne (by omega), q_u2_ne (by omega)]
    · obtain ⟨P, hP⟩ : ∃ P : Nat, (s.2.2.1.2 0).1 = P := ⟨(s.2.2.1.2 0).1.toNat, by omega⟩
      have hPn : P < s.2.1.1 := by omega
      obtain ⟨f, hf⟩ : ∃ f, f = (s.2.2.1.2 0).2 := ⟨_, rfl⟩
      have hfG : q_G s.1.1 f := by rw [hf]; exact v7 0 (by omega) (by omega)
      refine ⟨1, q_s_undo s s.2.1.1 (q_put s.2.1.2 P f), ⟨v1, v2, v3, by show s.2.2.1.1 - 1 ≤ 60; omega, v5, ?_, V7, by show q_Vl s.2.1.1 (s.2.2.1.1 - 1) _; rw [hme]; exact p3⟩, fun z hz => ?_, fun z hz => ?_⟩
      · intro i hi
        show q_G s.1.1 (q_put s.2.1.2 P f i)
        unfold q_put
        split
        · exact hfG
        · exact v6 i hi
      · obtain ⟨nx, h1, h2, h3, h4⟩ := hz.2.2.2.1
        obtain ⟨ny, hy⟩ : ∃ ny, ny = (nx + 59) % 60 := ⟨_, rfl⟩
        obtain ⟨c1, c2, c3, c4, c5, c6, c7⟩ := hz
        obtain ⟨g1, g2⟩ := h4 0 (by omega)
        have g2 := g2 (by omega)
        rw [← hf, show (nx + 59 - 0) % 60 = ny by omega] at g2
        rw [hP, show (nx + 59 - 0) % 60 = ny by omega] at g1
        have e47 : T_X6_takeBack_47 (q_u2 z.1 17 4 (q_i (m : Int)), z.2) (q_i ny) = some (1, (q_u2 (q_u2 z.1 17 4 (q_i (m : Int))) 17 5 (q_i ny), q_v3 z.2 (19 + P) f)) := by
          unfold T_X6_takeBack_47 T_X6_takeBack_112
          have e120 : q_u2 z.1 17 4 (q_i (m : Int)) 120 = z.1 120 := q_u2_ne (by decide)
          have e5 : q_u2 (q_u2 z.1 17 4 (q_i (m : Int))) 17 5 (q_i ny) 17 5 = q_i ny := rfl
          have eat := p_X6_at (n := s.2.1.1) (z := (q_u2 (q_u2 z.1 17 4 (q_i (m : Int))) 17 5 (q_i ny), z.2)) (x := (P : Int)) c3.1 v3 ⟨by omega, by omega⟩
          rw [if_pos (by omega), show ((P : Int)).toNat = P by omega] at eat
          have ecp := p_X1_copy (o := 19 + P) (p := 60 + ny) (z := (q_u2 (q_u2 z.1 17 4 (q_i (m : Int))) 17 5 (q_i ny), z.2)) g2
          rw [q_i_toInt ⟨by omega, by omega⟩, if_pos (by omega)]
          dsimp only
          rw [if_neg (by rw [e120, q_clamp ⟨by omega, by omega⟩, show ((ny : Int)).toNat = ny by omega, g1, show (-1 : Int32) = q_i (-1) from rfl, q_i_eq ⟨by omega, by omega⟩ (by decide)]; omega), if_pos (by omega), e120, q_clamp ⟨by omega, by omega⟩, show ((ny : Int)).toNat = ny by omega, g1, eat, Option.bind_some]
          dsimp only
          rw [if_pos (by rw [e5, q_i_toInt ⟨by omega, by omega⟩]; omega), e5, q_clamp ⟨by omega, by omega⟩, show ((ny : Int)).toNat = ny by omega, p_R59 ny (by omega)]
          dsimp only
          rw [ecp, Option.bind_some]
        refine ⟨(q_u2 (q_u2 z.1 17 4 (q_i (m : Int))) 17 5 (q_i ny), q_v3 z.2 (19 + P) f), ?_, ⟨q_Cg_fr c1 ?_, ?_, ⟨c3.1, ?_⟩, p_X6_pop h1 (by omega) v4 h4 hy ?_ rfl ?_ ?_, q_Cw_fr c5 ?_, q_Co_fr c6 ?_ ?_ ?_, q_Ctab_fr c7 ?_⟩, ?_⟩
        · unfold F_X9_undo F_X6_takeBack T_X6_takeBack_36
          rw [h2, hme, q_i0, if_pos (by rw [q_i_lt (by decide) ⟨by omega, by omega⟩]; omega), im, h3]
          by_cases cx : nx = 0
          · rw [if_pos (by rw [cx]; decide)]
            rw [show (59 : Int32) = q_i ny by rw [show ny = 59 by omega]; rfl, e47, Option.bind_some]
            rfl
          · rw [if_neg (by rw [q_i_le ⟨by omega, by omega⟩ (by decide)]; omega), show (60 : Int32) = q_i 60 from rfl, if_pos (by rw [q_i_lt ⟨by omega, by omega⟩ (by decide)]; omega), q_i1, q_i_sub, show (nx : Int) - 1 = (ny : Int) by omega, e47, Option.bind_some]
            rfl
        · show q_u2 (q_u2 z.1 17 4 (q_i (m : Int))) 17 5 (q_i ny) 4 = _
          rw [q_u2_ne (by decide), q_u2_ne (by decide)]
        · show q_u2 (q_u2 z.1 17 4 (q_i (m : Int))) 17 5 (q_i ny) 1 9 = _
          rw [q_u2_ne (by decide), q_u2_ne (by decide)]
          exact c2
        · intro i hi
          have hi : i < s.2.1.1 := hi
          show q_3 (q_v3 z.2 (19 + P) f (19 + i)) 0 (q_put s.2.1.2 P f i)
          unfold q_put
          by_cases c : i = P
          · rw [if_pos c, c]
            exact q_v3_3 _ _ _
          · rw [if_neg c, q_v3_ne (by omega)]
            exact c3.2 i hi
        · rw [hme]
          rfl
        · show q_u2 (q_u2 z.1 17 4 (q_i (m : Int))) 17 5 (q_i ny) 120 = _
          rw [q_u2_ne (by decide), q_u2_ne (by decide)]
        · intro i hi
          show q_v3 z.2 (19 + P) f (60 + i) = _
          rw [q_v3_ne (by omega)]
        · show q_v3 z.2 (19 + P) f 121 = _
          rw [q_v3_ne (by omega)]
        · show q_u2 (q_u2 z.1 17 4 (q_i (m : Int))) 17 5 (q_i ny) 122 = _
          rw [q_u2_ne (by decide), q_u2_ne (by decide)]
        · show q_u2 (q_u2 z.1 17 4 (q_i (m : Int))) 17 5 (q_i ny) 123 = _
          rw [q_u2_ne (by decide), q_u2_ne (by decide)]
        · show q_u2 (q_u2 z.1 17 4 (q_i (m : Int))) 17 5 (q_i ny) 124 = _
          rw [q_u2_ne (by decide), q_u2_ne (by decide)]
        · intro n a1 a2 a3
          show q_u2 (q_u2 z.1 17 4 (q_i (m : Int))) 17 5 (q_i ny) n = _
          rw [q_u2_ne (by omega), q_u2_ne (by omega)]
        · intro n a1
          refine ⟨?_, ?_⟩
          · show q_u2 (q_u2 z.1 17 4 (q_i (m : Int))) 17 5 (q_i ny) n = _
            rw [q_u2_ne (by omega), q_u2_ne (by omega)]
          · show q_v3 z.2 (19 + P) f n = _
            rw [q_v3_ne (by omega)]
      · obtain ⟨c1, c2, c3, c4, c5, c6, c7⟩ := hz
        obtain ⟨g1, g2⟩ := c4.2 0 (by omega)
        have g2 := g2 (by omega)
        rw [hP, hme, show 4 * (m + 1 - 1 - 0) = 4 * m by omega] at g1
        rw [← hf, hme, show 4 * (m + 1 - 1 - 0) = 4 * m by omega] at g2
        obtain ⟨J, hJ⟩ : ∃ J, J = q_u2 (q_u2 z.1 128 3 0) 128 7 (q_i (m : Int)) := ⟨_, rfl⟩
        have j7 : J 128 7 = q_i (m : Int) := by rw [hJ]; rfl
        have jne : ∀ k, k ≠ 128 → J k = z.1 k := by
          intro k hk
          rw [hJ, q_u2_ne hk, q_u2_ne hk]
        have j8 : ∀ k, k ≠ 7 → k ≠ 3 → J 128 k = z.1 128 k := by
          intro k h7 h3
          rw [hJ, q_u2_at, if_neg h7, q_u2_at, if_neg h3]
        have step : ∀ (L3 : Nat → Nat → Int64) (j : Nat), L3 130 = z.2 130 → j < 3 → B_X10_undo_56 (q_i P, q_i j, (J, L3)) = some ((q_i P, q_i ((j + 1 : Nat) : Int), (J, q_u2 L3 129 (3 * P + j) (z.2 130 (4 * m + 1 + j)))), 0) := by
          intro L3 j e3 hj
          have i1 : ((4 : Int32) * q_i (m : Int) + 1) + q_i j = q_i ((4 * m + 1 + j : Nat) : Int) := by
            rw [show (4 : Int32) = q_i 4 from rfl, q_i1, q_i_mul, q_i_add, q_i_add, show (4 : Int) * m + 1 + j = ((4 * m + 1 + j : Nat) : Int) by omega]
          have i2 : (3 : Int32) * q_i P + q_i j = q_i ((3 * P + j : Nat) : Int) := by
            rw [show (3 : Int32) = q_i 3 from rfl, q_i_mul, q_i_add, show (3 : Int) * P + j = ((3 * P + j : Nat) : Int) by omega]
          simp only [B_X10_undo_56]
          rw [if_neg (by rw [show (3 : Int32) = q_i 3 from rfl, q_i_le (by decide) ⟨by omega, by omega⟩]; omega), if_pos (by rw [j7, i1, q_i_toInt ⟨by omega, by omega⟩]; omega), if_pos (by rw [i2, q_i_toInt ⟨by omega, by omega⟩]; omega), j7, i1, i2, q_clamp ⟨by omega, by omega⟩, q_clamp ⟨by omega, by omega⟩, e3, q_i1, q_i_add, show (j : Int) + 1 = ((j + 1 : Nat) : Int) by omega, show (((4 * m + 1 + j : Nat) : Int)).toNat = 4 * m + 1 + j by omega, show (((3 * P + j : Nat) : Int)).toNat = 3 * P + j by omega]
        have a0 := step z.2 0 rfl (by omega)
        have a1 := step (q_u2 z.2 129 (3 * P + 0) (z.2 130 (4 * m + 1 + 0))) 1 (q_u2_ne (by decide)) (by omega)
        have a2 := step (q_u2 (q_u2 z.2 129 (3 * P + 0) (z.2 130 (4 * m + 1 + 0))) 129 (3 * P + 1) (z.2 130 (4 * m + 1 + 1))) 2 (by rw [q_u2_ne (by decide), q_u2_ne (by decide)]) (by omega)
        have a3 : ∀ zz : q_Z, B_X10_undo_56 (q_i P, q_i ((2 + 1 : Nat) : Int), zz) = some ((q_i P, q_i ((2 + 1 : Nat) : Int), zz), 1) := by
          intro zz
          simp only [B_X10_undo_56]
          rw [if_pos (by decide)]
        have hl := q_lp_mono ((q_lp_go (n := 3) a0).trans ((q_lp_go (n := 2) a1).trans ((q_lp_go (n := 1) a2).trans (q_lp_end (n := 0) (a3 _))))) (show 4 ≤ q_fu by decide)
        rw [show z.2 130 (4 * m + 1 + 0) = q_l f.1 from g2.1, show z.2 130 (4 * m + 1 + 1) = q_l f.2.1 from g2.2.1, show z.2 130 (4 * m + 1 + 2) = q_l f.2.2 from g2.2.2] at hl
        have hl : q_lp B_X10_undo_56 q_fu (q_i P, 0, (J, z.2)) = some ((q_i P, q_i ((2 + 1 : Nat) : Int), (J, q_u2 (q_u2 (q_u2 z.2 129 (3 * P) (q_l f.1)) 129 (3 * P + 1) (q_l f.2.1)) 129 (3 * P + 2) (q_l f.2.2))), 0) := hl
        have lne : ∀ k, k ≠ 129 → q_u2 (q_u2 (q_u2 z.2 129 (3 * P) (q_l f.1)) 129 (3 * P + 1) (q_l f.2.1)) 129 (3 * P + 2) (q_l f.2.2) k = z.2 k := fun k hk => q_lay_ne hk
        refine ⟨(J, q_u2 (q_u2 (q_u2 z.2 129 (3 * P) (q_l f.1)) 129 (3 * P + 1) (q_l f.2.1)) 129 (3 * P + 2) (q_l f.2.2)), ?_, ⟨q_Mg_fr c1 (j8 0 (by decide) (by decide)) (j8 1 (by decide) (by decide)), (j8 2 (by decide) (by decide)).trans c2, ⟨(j8 6 (by decide) (by decide)).trans c3.1, q_lay_sh (fun i hi _ => c3.2 i hi)⟩, ⟨?_, ?_⟩, q_Mw_fr c5 (lne 131 (by decide)), q_Mo_fr c6 (j8 11 (by decide) (by decide)) (jne 132 (by decide)) (jne 133 (by decide)), q_Mtab_fr c7 (j8 22 (by decide) (by decide)) (j8 23 (by decide) (by decide)) (fun n a1 a2 => jne n (by omega))⟩, fun n hn => ⟨jne n (by omega), lne n (by omega)⟩⟩
        · unfold F_X10_undo
          rw [c4.1, hme, if_neg (by rw [q_i0, q_i_eq ⟨by omega, by omega⟩ (by decide)]; omega), idx, q_i_toInt ⟨by omega, by omega⟩, if_pos (by omega), q_clamp ⟨by omega, by omega⟩, show (4 * (m : Int)).toNat = 4 * m by omega, g1, q_i_l, if_neg (by rw [show (-1 : Int32) = q_i (-1) from rfl, q_i_eq ⟨by omega, by omega⟩ (by decide)]; omega), im, ← hJ, hl, Option.bind_some]
          rfl
        · show J 128 7 = q_i ((s.2.2.1.1 - 1 : Nat) : Int)
          rw [j7, hme]
          rfl
        · intro i hi
          have hi : i < s.2.2.1.1 - 1 := hi
          have e130 : q_u2 (q_u2 (q_u2 z.2 129 (3 * P) (q_l f.1)) 129 (3 * P + 1) (q_l f.2.1)) 129 (3 * P + 2) (q_l f.2.2) 130 = z.2 130 := q_lay_ne (by decide)
          have := c4.2 (i + 1) (by omega)
          rw [show s.2.2.1.1 - 1 - (i + 1) = s.2.2.1.1 - 1 - 1 - i by omega, ← e130] at this
          exact this
