/-! takes of the class: the loop over y -/
theorem q_tkI_cong {W : q_z4} {g : q_f3} {n : Int} {Q Q2 : Int × Int → Prop} {m : Nat} {e : Nat → Int × Int} (h : q_tkI W g n Q m e) (hq : ∀ p, Q p ↔ Q2 p) : q_tkI W g n Q2 m e := by
  obtain ⟨h1, h2, h3⟩ := h
  refine ⟨h1, fun q => ?_, fun p hp => h3 p ((hq p).mpr hp)⟩
  rw [h2 q]
  exact ⟨fun ⟨p, a, b⟩ => ⟨p, (hq p).mp a, b⟩, fun ⟨p, a, b⟩ => ⟨p, (hq p).mpr a, b⟩⟩
def q_tkQ (g : q_f3) (n y : Int) (p : Int × Int) : Prop := q_ev g p = n ∧ -y < p.2 ∧ p.2 < y
theorem q_sq_pm {a b : Int} (h : a * a = b * b) : a = b ∨ a = -b := by
  have h1 : (a - b) * (a + b) = 0 := by grind
  rcases Int.mul_eq_zero.mp h1 with q | q
  · exact Or.inl (by omega)
  · exact Or.inr (by omega)
theorem p_X9_ctLoop {d n : Int} {f g : q_f3} {W : q_z4} {L : Nat → Nat → Int64} (hd : d < 0) (hd4 : -4000 ≤ d) (hG : q_G d f) (h1 : 1 ≤ n) (h2 : n ≤ 100000) (hph : ∀ p, q_ev f (q_ph W p) = q_ev g p) (hdet : q_det W = 1) (hA : 0 < g.1 ∧ g.1 ≤ 63) (hB : -63 ≤ g.2.1 ∧ g.2.1 ≤ 63) (hF : g.2.1 * g.2.1 - 4 * g.1 * g.2.2 = d) (hg3 : q_3 (L 126) 0 g) (hw : L 127 0 = q_l W.1 ∧ L 127 1 = q_l W.2.1 ∧ L 127 2 = q_l W.2.2.1 ∧ L 127 3 = q_l W.2.2.2) : ∀ (r : Nat) (y s : Int) (m : Nat) (e : Nat → Int × Int) (I : Nat → Nat → Int32), 0 ≤ y → y + r = 10000 → 0 ≤ s → s ≤ 10000 → 4 * g.1 * n + d * y * y < (s + 1) * (s + 1) → I 4 0 = q_i d → q_tkI W g n (q_tkQ g n y) m e → q_Or m e (I, L) → ∃ (m2 : Nat) (e2 : Nat → Int × Int) (I2 : Nat → Nat → Int32) (w1 w2 : Int64), q_lp B_X9_countTaken_27 (r + 1) (q_l (4 * g.1 * n), q_l s, q_i m, q_l y, (I, L)) = some ((q_l (4 * g.1 * n), w1, q_i m2, w2, (I2, L)), 0) ∧ q_enu (q_tkS f n) m2 e2 ∧ q_Or m2 e2 (I2, L) ∧ ∀ k, k ≠ 122 → k ≠ 123 → k ≠ 124 → I2 k = I k := by
  have ht : 4 * g.1 * n ≤ 252 * 100000 := Int.mul_le_mul (by omega) h2 (by omega) (by omega)
  have ht0 : 0 ≤ 4 * g.1 * n := Int.mul_nonneg (by omega) (by omega)
  have dy : ∀ y : Int, d * y * y = d * (y * y) := fun y => Int.mul_assoc _ _ _
  have dy0 : ∀ y : Int, d * y * y ≤ 0 := fun y => by rw [dy]; exact Int.mul_nonpos_of_nonpos_of_nonneg (by omega) (q_sq_nn y)
  have evy : ∀ p, q_ev g p = n → (2 * g.1 * p.1 + g.2.1 * p.2) * (2 * g.1 * p.1 + g.2.1 * p.2) = 4 * g.1 * n + d * p.2 * p.2 := by
    intro p hp
    have := q_ev_sq hF p
    rw [hp] at this
    rw [dy]
    omega
  have evn : ∀ p, (2 * g.1 * p.1 + g.2.1 * p.2) * (2 * g.1 * p.1 + g.2.1 * p.2) = 4 * g.1 * n + d * p.2 * p.2 → q_ev g p = n := by
    intro p hp
    have := q_ev_sq hF p
    rw [hp, dy] at this
    exact Int.eq_of_mul_eq_mul_left (show 4 * g.1 ≠ 0 by omega) (by omega)
  have fin : ∀ (y s : Int) (m : Nat) (e : Nat → Int × Int) (I : Nat → Nat → Int32), 0 ≤ y → y ≤ 10000 → I 4 0 = q_i d → 4 * g.1 * n + d * y * y < 0 → q_tkI W g n (q_tkQ g n y) m e → q_enu (q_tkS f n) m e ∧ B_X9_countTaken_27 (q_l (4 * g.1 * n), q_l s, q_i m, q_l y, (I, L)) = some ((q_l (4 * g.1 * n), q_l s, q_i m, q_l y, (I, L)), 1) := by
    intro y s m e I hy hy1 hI4 hneg hI
    refine ⟨⟨hI.1, fun i hi => ?_, fun q hq => ?_⟩, ?_⟩
    · obtain ⟨p, p1, p2⟩ := (hI.2.1 (e i)).mp ⟨i, hi, rfl⟩
      show q_ev f (e i) = n
      rw [p2, hph]
      exact p1.1
    · obtain ⟨p, hp⟩ := q_ph_sur hdet q
      have hq : q_ev f q = n := hq
      rw [← hp, hph] at hq
      refine (hI.2.1 q).mpr ⟨p, ⟨hq, ?_⟩, hp.symm⟩
      have h3 := evy p hq
      have h4 := q_sq_nn (2 * g.1 * p.1 + g.2.1 * p.2)
      have h5 : p.2 * p.2 < y * y := by
        rcases Int.lt_or_le (p.2 * p.2) (y * y) with q | q
        · exact q
        · have h6 : -d * (y * y) ≤ -d * (p.2 * p.2) := Int.mul_le_mul_of_nonneg_left q (by omega)
          rw [Int.neg_mul, Int.neg_mul] at h6
          rw [dy] at hneg h3
          omega
      constructor
      · rcases Int.lt_or_le (-y) p.2 with q | q
        · exact q
        · have := q_sq_mono hy (show y ≤ -p.2 by omega)
          rw [Int.neg_mul_neg] at this
          omega
      · rcases Int.lt_or_le p.2 y with q | q
        · exact q
        · have := q_sq_mono hy q
          omega
    · simp only [B_X9_countTaken_27]
      have b := dy0 y
      have b2 : -400000000000 ≤ d * y * y := by
        rw [dy]
        have h3 := q_sq_mono hy hy1
        have h4 : -d * (y * y) ≤ 4000 * (10000 * 10000) := Int.mul_le_mul (by omega) h3 (q_sq_nn y) (by omega)
        rw [Int.neg_mul] at h4
        omega
      rw [if_neg (by rw [show (100000 : Int64) = q_l 100000 from rfl, q_l_le (by decide) ⟨by omega, by omega⟩]; omega), if_pos (by rw [hI4, q_l_i ⟨by omega, by omega⟩, q_l_mul, q_l_mul, q_l_add, q_l0, q_l_lt ⟨by omega, by omega⟩ (by decide)]; exact hneg)]
  intro r
  induction r with
  | zero =>
    intro y s m e I hy hr hs0 hs hss hI4 hI hO
    have e1 : y = 10000 := by omega
    subst e1
    obtain ⟨f1, f2⟩ := fin 10000 s m e I (by omega) (by omega) hI4 (by omega) hI
    exact ⟨m, e, I, _, _, q_lp_end f2, f1, hO, fun _ _ _ _ => rfl⟩
  | succ r ih =>
    intro y s m e I hy hr hs0 hs hss hI4 hI hO
    by_cases c : 4 * g.1 * n + d * y * y < 0
    · obtain ⟨f1, f2⟩ := fin y s m e I hy (by omega) hI4 c hI
      exact ⟨m, e, I, _, _, q_lp_mono (q_lp_end (n := 0) f2) (by omega), f1, hO, fun _ _ _ _ => rfl⟩
    · obtain ⟨rest, hrest⟩ : ∃ rest, rest = 4 * g.1 * n + d * y * y := ⟨_, rfl⟩
      have b := dy0 y
      rw [← hrest] at c hss
      obtain ⟨s2, d1, d2, d3, d4, d5⟩ := p_X9_ctDown (t := 4 * g.1 * n) (rest := rest) (q_i m) (q_l y) (z := (I, L)) ⟨by omega, by omega⟩ 10000 s hs0 (by omega) hs hss
      have d1 := q_lp_mono d1 (show 10000 + 1 ≤ q_fu by decide)
      have hs2 : s2 ≤ 5021 := by
        rcases Int.lt_or_le 5021 s2 with q | q
        · have := q_sq_mono (show (0 : Int) ≤ 5022 by decide) (show 5022 ≤ s2 by omega)
          omega
        · exact q
      have hBy : -630000 ≤ g.2.1 * y ∧ g.2.1 * y ≤ 630000 := by
        have := q_mul_le (x := g.2.1) (y := y) (M := 63) (N := 10000) ⟨by omega, by omega⟩ ⟨by omega, by omega⟩ (by omega) (by omega)
        omega
      have nxt : 4 * g.1 * n + d * (y + 1) * (y + 1) < (s2 + 1) * (s2 + 1) := by
        have h3 : d * (y + 1) * (y + 1) ≤ d * y * y := by
          rw [dy, dy]
          have h4 := q_sq_mono hy (show y ≤ y + 1 by omega)
          have h5 : -d * (y * y) ≤ -d * ((y + 1) * (y + 1)) := Int.mul_le_mul_of_nonneg_left h4 (by omega)
          rw [Int.neg_mul, Int.neg_mul] at h5
          omega
        omega
      have pre : ∀ o, T_X9_countTaken_102 (I, L) (q_l (4 * g.1 * n)) (q_l s2) (q_i m) (q_l y) (q_l rest) = o → B_X9_countTaken_27 (q_l (4 * g.1 * n), q_l s, q_i m, q_l y, (I, L)) = o := by
        intro o ho
        have er : q_l (4 * g.1 * n) + Int32.toInt64 (I 4 0) * q_l y * q_l y = q_l rest := by
          rw [hI4, q_l_i ⟨by omega, by omega⟩, q_l_mul, q_l_mul, q_l_add, hrest]
        simp only [B_X9_countTaken_27]
        rw [if_neg (by rw [show (100000 : Int64) = q_l 100000 from rfl, q_l_le (by decide) ⟨by omega, by omega⟩]; omega), er, if_neg (by rw [q_l0, q_l_lt ⟨by omega, by omega⟩ (by decide)]; exact c), d1, Option.bind_some]
        dsimp only
        rw [if_pos rfl]
        exact ho
      have rt : ∀ p, q_ev g p = n → (p.2 = y ∨ p.2 = -y) → s2 * s2 = rest := by
        intro p hp hpy
        have h3 := evy p hp
        have h4 : d * p.2 * p.2 = d * y * y := by
          rcases hpy with q | q
          · rw [q]
          · rw [q, dy, dy, Int.neg_mul_neg]
        rw [h4, ← hrest] at h3
        obtain ⟨v, hv⟩ : ∃ v, v = 2 * g.1 * p.1 + g.2.1 * p.2 := ⟨_, rfl⟩
        rw [← hv] at h3
        have h5 : (v.natAbs : Int) * v.natAbs = rest := by rw [← Int.natCast_mul, Int.natAbs_mul_self]; exact h3
        have h6 : rest < ((v.natAbs : Int) + 1) * (v.natAbs + 1) := by
          have := q_sq_lt (Int.natCast_nonneg v.natAbs) (show (v.natAbs : Int) < (v.natAbs : Int) + 1 by omega)
          omega
        rw [q_sqrt_uni d2 (Int.natCast_nonneg _) d4 d5 (Int.le_of_eq h5) h6]
        exact h5
      by_cases cs : s2 * s2 = rest
      · have hw1 : q_l s2 - L 126 1 * q_l y = q_l (s2 - g.2.1 * y) := by rw [show L 126 1 = q_l g.2.1 from hg3.2.1, q_l_mul, q_l_sub]
        have hw2 : -q_l s2 - L 126 1 * q_l y = q_l (-s2 - g.2.1 * y) := by rw [show L 126 1 = q_l g.2.1 from hg3.2.1, q_l_mul, q_l_neg, q_l_sub]
        have ev1 : ∀ X, s2 - g.2.1 * y = 2 * g.1 * X → q_ev g (X, y) = n := by
          intro X hX
          refine evn (X, y) ?_
          show (2 * g.1 * X + g.2.1 * y) * (2 * g.1 * X + g.2.1 * y) = 4 * g.1 * n + d * y * y
          rw [show 2 * g.1 * X + g.2.1 * y = s2 by omega, ← hrest]
          exact cs
        have ev2 : ∀ X, -s2 - g.2.1 * y = 2 * g.1 * X → q_ev g (X, y) = n := by
          intro X hX
          refine evn (X, y) ?_
          show (2 * g.1 * X + g.2.1 * y) * (2 * g.1 * X + g.2.1 * y) = 4 * g.1 * n + d * y * y
          rw [show 2 * g.1 * X + g.2.1 * y = -s2 by omega, ← hrest, Int.neg_mul_neg]
          exact cs
        have noQ : ∀ X, ¬ q_tkQ g n y (X, y) ∧ ¬ q_tkQ g n y (-X, -y) := by
          intro X
          refine ⟨fun q => ?_, fun q => ?_⟩
          · have := q.2.2
            simp only at this
            omega
          · have := q.2.1
            simp only at this
            omega
        obtain ⟨k1, e1, I1, a1, a2, a3, a4, a5⟩ := p_X9_keepTaken (z := (I, L)) (u := s2 - g.2.1 * y) (Y := y) hd hG h1 h2 hph hdet hA hg3 hw ⟨by omega, by omega⟩ ⟨hy, by omega⟩ hI hO (fun X hX => ⟨ev1 X hX, (noQ X).1, fun _ => (noQ X).2⟩)
        -- what |Y| = y adds
        have all : ∀ p, q_tkQ g n (y + 1) p ↔ q_tkN (q_tkN (q_tkQ g n y) g.1 (s2 - g.2.1 * y) y) g.1 (-s2 - g.2.1 * y) y p := by
          intro p
          constructor
          · intro hp
            by_cases cl : -y < p.2 ∧ p.2 < y
            · exact Or.inl (Or.inl ⟨hp.1, cl⟩)
            · have hyy : p.2 = y ∨ p.2 = -y := by
                have := hp.2
                omega
              have h3 := evy p hp.1
              have h4 : d * p.2 * p.2 = d * y * y := by
                rcases hyy with q | q
                · rw [q]
                · rw [q, dy, dy, Int.neg_mul_neg]
              rw [h4, ← hrest, ← cs] at h3
              by_cases cp : p.2 = y
              · rw [cp] at h3
                rcases q_sq_pm h3 with q | q
                · exact Or.inl (Or.inr ⟨p.1, by omega, Or.inl (Prod.ext rfl cp)⟩)
                · exact Or.inr ⟨p.1, by omega, Or.inl (Prod.ext rfl cp)⟩
              · have cq : p.2 = -y := by omega
                have e3 : 2 * g.1 * p.1 + g.2.1 * p.2 = -(2 * g.1 * -p.1 + g.2.1 * y) := by rw [cq]; grind
                rw [e3, Int.neg_mul_neg] at h3
                rcases q_sq_pm h3 with q | q
                · exact Or.inl (Or.inr ⟨-p.1, by omega, Or.inr ⟨by omega, Prod.ext (by show p.1 = - -p.1; omega) cq⟩⟩)
                · exact Or.inr ⟨-p.1, by omega, Or.inr ⟨by omega, Prod.ext (by show p.1 = - -p.1; omega) cq⟩⟩
          · intro hp
            have add : ∀ X, q_ev g (X, y) = n → (p = (X, y) ∨ (y ≠ 0 ∧ p = (-X, -y))) → q_tkQ g n (y + 1) p := by
              intro X hX hp
              rcases hp with hp | ⟨_, hp⟩
              · rw [hp]
                exact ⟨hX, by show -(y + 1) < y; omega, by show y < y + 1; omega⟩
              · rw [hp]
                refine ⟨?_, by show -(y + 1) < -y; omega, by show -y < y + 1; omega⟩
                exact (q_ev_neg g (X, y)).trans hX
            rcases hp with (hp | ⟨X, x1, x2⟩) | ⟨X, x1, x2⟩
            · exact ⟨hp.1, by have := hp.2.1; omega, by have := hp.2.2; omega⟩
            · exact add X (ev1 X x1) x2
            · exact add X (ev2 X x1) x2
        by_cases c0 : s2 = 0
        · have hb := pre (some ((q_l (4 * g.1 * n), q_l s2, q_i ((m + k1 : Nat) : Int), q_l (y + 1), (I1, L)), 0)) (by
            unfold T_X9_countTaken_102 T_X9_countTaken_172
            dsimp only
            rw [if_pos (by rw [q_l_mul, cs]), hw1, a1, Option.bind_some]
            dsimp only
            rw [if_pos (by rw [c0]; decide), q_i_add, q_l1, q_l_add]
            rfl)
          have hI2 : q_tkI W g n (q_tkQ g n (y + 1)) (m + k1) e1 := by
            refine q_tkI_cong a3 (fun p => ?_)
            rw [all p]
            refine ⟨fun h => Or.inl h, fun h => ?_⟩
            rcases h with h | ⟨X, x1, x2⟩
            · exact h
            · exact Or.inr ⟨X, by omega, x2⟩
          obtain ⟨m2, e2, I2, w1, w2, g1, g2, g3, g4⟩ := ih (y + 1) s2 (m + k1) e1 I1 (by omega) (by omega) d2 (by omega) nxt (by rw [a5 4 (by decide) (by decide) (by decide)]; exact hI4) hI2 a4
          exact ⟨m2, e2, I2, w1, w2, by rw [q_lp_go hb]; exact g1, g2, g3, fun k x y z => (g4 k x y z).trans (a5 k x y z)⟩
        · obtain ⟨k2, e2, I2, b1, b2, b3, b4, b5⟩ := p_X9_keepTaken (z := (I1, L)) (u := -s2 - g.2.1 * y) (Y := y) hd hG h1 h2 hph hdet hA hg3 hw ⟨by omega, by omega⟩ ⟨hy, by omega⟩ a3 a4 (fun X hX => ⟨ev2 X hX, fun q => by
              rcases q with q | ⟨X', x1, x2⟩
              · exact (noQ X).1 q
              · rcases x2 with x2 | ⟨x3, x2⟩
                · have e3 : X = X' := congrArg Prod.fst x2
                  rw [← e3] at x1
                  omega
                · have e3 : y = -y := congrArg Prod.snd x2
                  omega, fun hy0 q => by
              rcases q with q | ⟨X', x1, x2⟩
              · exact (noQ X).2 q
              · rcases x2 with x2 | ⟨x3, x2⟩
                · have e3 : -y = y := congrArg Prod.snd x2
                  omega
                · have e3 : -X = -X' := congrArg Prod.fst x2
                  have e4 : X' = X := by omega
                  rw [e4] at x1
                  omega⟩)
          have hb := pre (some ((q_l (4 * g.1 * n), q_l s2, q_i ((m + k1 + k2 : Nat) : Int), q_l (y + 1), (I2, L)), 0)) (by
            unfold T_X9_countTaken_102 T_X9_countTaken_172
            dsimp only
            rw [if_pos (by rw [q_l_mul, cs]), hw1, a1, Option.bind_some]
            dsimp only
            rw [if_neg (by rw [q_l0, q_l_le ⟨by omega, by omega⟩ (by decide)]; omega), hw2, b1, Option.bind_some]
            dsimp only
            rw [q_i_add, q_i_add, q_l1, q_l_add]
            rfl)
          obtain ⟨m2, e3, I3, w1, w2, g1, g2, g3, g4⟩ := ih (y + 1) s2 (m + k1 + k2) e2 I2 (by omega) (by omega) d2 (by omega) nxt (by rw [b5 4 (by decide) (by decide) (by decide)]; show I1 4 0 = q_i d; rw [a5 4 (by decide) (by decide) (by decide)]; exact hI4) (q_tkI_cong b3 (fun p => (all p).symm)) b4
          exact ⟨m2, e3, I3, w1, w2, by rw [q_lp_go hb]; exact g1, g2, g3, fun k x y z => ((g4 k x y z).trans (b5 k x y z)).trans (a5 k x y z)⟩
      · have hb := pre (some ((q_l (4 * g.1 * n), q_l s2, q_i m, q_l (y + 1), (I, L)), 0)) (by
          have hs9 := q_sq_mono d2 (show s2 ≤ 10000 by omega)
          have hs8 := q_sq_nn s2
          unfold T_X9_countTaken_102 T_X9_countTaken_172
          rw [if_neg (by rw [q_l_mul, q_l_eq ⟨by omega, by omega⟩ ⟨by omega, by omega⟩]; exact cs), q_l1, q_l_add])
        obtain ⟨m2, e2, I2, w1, w2, g1, g2, g3, g4⟩ := ih (y + 1) s2 m e I (by omega) (by omega) d2 (by omega) nxt hI4 (q_tkI_cong hI (fun p => by
          refine ⟨fun h => ⟨h.1, by have := h.2.1; omega, by have := h.2.2; omega⟩, fun h => ⟨h.1, ?_⟩⟩
          have hno : ¬ (p.2 = y ∨ p.2 = -y) := fun q => cs (rt p h.1 q)
          have := h.2
          omega)) hO
        exact ⟨m2, e2, I2, w1, w2, by rw [q_lp_go hb]; exact g1, g2, g3, g4⟩
