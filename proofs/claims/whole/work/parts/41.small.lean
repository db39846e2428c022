/-! small pieces of the calls -/
theorem q_b_B {x : Int} (h : q_b x) : q_B x := ⟨by omega, by omega⟩
theorem p_R18 : ∀ k, k < 40 → q_R0 18 k = some (19 + k) := by decide +kernel
theorem p_R59 : ∀ k, k < 60 → q_R0 59 k = some (60 + k) := by decide +kernel
theorem p_X6_at {n : Nat} {z : q_Z} {x : Int} (h : z.1 17 3 = q_i n) (hn : n ≤ 40) (hx : q_b x) : F_X6_at z (q_i x) = some (if 0 ≤ x ∧ x < n then some (19 + x.toNat) else none, z) := by
  unfold F_X6_at T_X6_at_18
  rw [h, q_i0]
  by_cases c1 : x < 0
  · rw [if_pos ((q_i_lt hx (by decide)).mpr c1), if_neg (by omega)]
  · rw [if_neg (fun q => c1 ((q_i_lt hx (by decide)).mp q))]
    by_cases c2 : (n : Int) ≤ x
    · rw [if_pos ((q_i_le ⟨by omega, by omega⟩ hx).mpr c2), if_neg (by omega)]
    · rw [if_neg (fun q => c2 ((q_i_le ⟨by omega, by omega⟩ hx).mp q)), show (40 : Int32) = q_i 40 from rfl, if_pos ((q_i_lt hx (by decide)).mpr (by omega)), q_i_toInt hx, if_pos (by omega), if_pos (by omega), q_clamp hx, p_R18 _ (by omega)]
theorem p_X10_isPlace {n : Nat} {z : q_Z} {x : Int} (h : z.1 128 6 = q_i n) (hn : n ≤ 40) (hx : q_b x) : F_X10_isPlace z (q_i x) = some (if 0 ≤ x ∧ x < n then 1 else 0, z) := by
  unfold F_X10_isPlace
  rw [h, q_i1, q_i_sub, q_l_i hx, q_l_i ⟨by omega, by omega⟩, q_l0, p_X10_in (q_b_B hx) (by decide) ⟨by omega, by omega⟩, Option.bind_some]
  dsimp only
  by_cases c : 0 ≤ x ∧ x < n
  · rw [if_pos c, if_pos (show 0 ≤ x ∧ x ≤ (n : Int) - 1 by omega)]
    exact if_pos (Or.inr rfl)
  · rw [if_neg c, if_neg (show ¬ (0 ≤ x ∧ x ≤ (n : Int) - 1) by omega)]
    exact if_pos (Or.inl rfl)
theorem p_in_i {z : q_Z} {x a c : Int} (hx : q_b x) (ha : q_B a) (hc : q_B c) : F_X10_in z (Int32.toInt64 (q_i x)) (q_l a) (q_l c) = some (if a ≤ x ∧ x ≤ c then 1 else 0, z) := by
  rw [q_l_i hx]
  exact p_X10_in (q_b_B hx) ha hc
theorem q_w7_take (L : Nat → Nat → Int64) (f : q_f3) : q_u2 (q_u2 (q_u2 L 128 12 (q_l f.1)) 128 13 (q_l f.2.1)) 128 14 (q_l f.2.2) = q_w7 L f (L 128 15, L 128 16, L 128 17, L 128 18) := by
  funext n k
  by_cases hn : n = 128
  · subst hn
    simp only [q_w7, q_u2, if_true]
    by_cases h14 : k = 14
    · subst h14; simp
    · by_cases h13 : k = 13
      · subst h13; simp
      · by_cases h12 : k = 12
        · subst h12; simp
        · by_cases h18 : k = 18
          · subst h18; simp
          · by_cases h17 : k = 17
            · subst h17; simp
            · by_cases h16 : k = 16
              · subst h16; simp
              · by_cases h15 : k = 15
                · subst h15; simp
                · simp [h14, h13, h12, h18, h17, h16, h15]
  · simp [q_w7, q_u2, hn]
theorem p_X10_take {n : Nat} {sh : Nat → q_f3} {z : q_Z} {x : Int} (h : ∀ i, i < n → q_3 (z.2 129) (3 * i) (sh i)) (hn : n ≤ 40) (h0 : 0 ≤ x) (h1 : x < n) : F_X10_take z (q_i x) = some ((), (z.1, q_w7 z.2 (sh x.toNat) (z.2 128 15, z.2 128 16, z.2 128 17, z.2 128 18))) := by
  obtain ⟨g1, g2, g3⟩ := h x.toNat (by omega)
  unfold F_X10_take
  rw [show (3 : Int32) = q_i 3 from rfl, q_i1, show (2 : Int32) = q_i 2 from rfl, q_i_mul, q_i_add, q_i_add, q_i_toInt ⟨by omega, by omega⟩, q_i_toInt ⟨by omega, by omega⟩, q_i_toInt ⟨by omega, by omega⟩, if_pos (by omega), if_pos (by omega), if_pos (by omega), q_clamp ⟨by omega, by omega⟩, q_clamp ⟨by omega, by omega⟩, q_clamp ⟨by omega, by omega⟩, show (3 * x).toNat = 3 * x.toNat by omega, show (3 * x + 1).toNat = 3 * x.toNat + 1 by omega, show (3 * x + 2).toNat = 3 * x.toNat + 2 by omega, g1, g2, g3, q_w7_take]
theorem p_X9_isBeyond {z : q_Z} {x : Int} (hx : q_b x) : F_X9_isBeyond z (q_i x) = some (if -1000000 ≤ x ∧ x ≤ 1000000 then 0 else 1, z) := by
  unfold F_X9_isBeyond T_X9_isBeyond_14
  rw [show (-1000000 : Int32) = q_i (-1000000) from rfl, show (1000000 : Int32) = q_i 1000000 from rfl]
  by_cases c1 : x < -1000000
  · rw [if_pos ((q_i_lt hx (by decide)).mpr c1), if_neg (by omega)]
  · rw [if_neg (fun q => c1 ((q_i_lt hx (by decide)).mp q))]
    by_cases c2 : x ≤ 1000000
    · rw [if_pos ((q_i_le hx (by decide)).mpr c2), if_pos (by omega)]
    · rw [if_neg (fun q => c2 ((q_i_le hx (by decide)).mp q)), if_neg (by omega)]
/-- has a root with quotients -/
def q_hq (x : Int) : Prop := 2 ≤ x ∧ x ≤ 10000 ∧ ∀ r, ¬ r * r = x
theorem q_hq_N {x : Int} (h : q_hq x) : ∃ R, q_N x R := by
  obtain ⟨r, r1, r2, r3, r4, -⟩ := p_X7_rootOf (z := (fun _ _ => 0, fun _ _ => 0)) (n := x) (by have := h.1; omega) (by have := h.2.1; omega)
  obtain ⟨h1, h2, h3⟩ := h
  have := h3 r
  refine ⟨r, ?_, ?_, by omega, r4⟩
  · rcases Int.lt_or_le 0 r with c | c
    · exact c
    · have e : r = 0 := by omega
      subst e
      omega
  · rcases Int.lt_or_le 100 r with c | c
    · have : (101 : Int) * 101 ≤ r * r := Int.mul_le_mul (by omega) (by omega) (by omega) (by omega)
      omega
    · exact c
theorem p_X9_hasQuotients {x : Int} (hx : q_b x) : (q_hq x ∧ ∀ z, F_X9_hasQuotients z (q_i x) = some (1, z)) ∨ (¬ q_hq x ∧ ∀ z, F_X9_hasQuotients z (q_i x) = some (0, z)) := by
  by_cases c1 : x < 2
  · refine Or.inr ⟨fun h => by have := h.1; omega, fun z => ?_⟩
    unfold F_X9_hasQuotients T_X9_hasQuotients_24
    rw [show (2 : Int32) = q_i 2 from rfl, if_pos ((q_i_lt hx (by decide)).mpr c1)]
  by_cases c2 : 10000 < x
  · refine Or.inr ⟨fun h => by have := h.2.1; omega, fun z => ?_⟩
    unfold F_X9_hasQuotients T_X9_hasQuotients_24
    rw [show (2 : Int32) = q_i 2 from rfl, if_neg (fun q => c1 ((q_i_lt hx (by decide)).mp q)), show (10000 : Int32) = q_i 10000 from rfl, if_pos ((q_i_lt (by decide) hx).mpr c2)]
  by_cases c3 : ∀ r, ¬ r * r = x
  · refine Or.inl ⟨⟨by omega, by omega, c3⟩, fun z => ?_⟩
    unfold F_X9_hasQuotients T_X9_hasQuotients_24
    rw [show (2 : Int32) = q_i 2 from rfl, if_neg (fun q => c1 ((q_i_lt hx (by decide)).mp q)), show (10000 : Int32) = q_i 10000 from rfl, if_neg (fun q => c2 ((q_i_lt (by decide) hx).mp q)), q_l_i hx]
    rcases p_X7_isSquare (z := z) (n := x) (by omega) (by omega) with ⟨r, _, r1, _⟩ | ⟨_, r2⟩
    · exact absurd r1 (c3 r)
    · rw [r2, Option.bind_some]
      dsimp only
      rw [if_pos rfl]
  · refine Or.inr ⟨fun h => c3 h.2.2, fun z => ?_⟩
    unfold F_X9_hasQuotients T_X9_hasQuotients_24
    rw [show (2 : Int32) = q_i 2 from rfl, if_neg (fun q => c1 ((q_i_lt hx (by decide)).mp q)), show (10000 : Int32) = q_i 10000 from rfl, if_neg (fun q => c2 ((q_i_lt (by decide) hx).mp q)), q_l_i hx]
    rcases p_X7_isSquare (z := z) (n := x) (by omega) (by omega) with ⟨r, _, _, r2⟩ | ⟨r1, _⟩
    · rw [r2, Option.bind_some]
      dsimp only
      rw [if_neg (by decide)]
    · exact absurd r1 c3
theorem p_X10_isRooted {x : Int} (hx : q_b x) : (q_hq x ∧ ∀ z, F_X10_isRooted z (q_i x) = some (1, z)) ∨ (¬ q_hq x ∧ ∀ z, F_X10_isRooted z (q_i x) = some (0, z)) := by
  have hin : ∀ z : q_Z, F_X10_in z (Int32.toInt64 (q_i x)) 2 10000 = some (if 2 ≤ x ∧ x ≤ 10000 then 1 else 0, z) := fun z => p_in_i (z := z) (a := 2) (c := 10000) hx (by decide) (by decide)
  by_cases c1 : 2 ≤ x ∧ x ≤ 10000
  · have rt : ∀ z : q_Z, ∃ r, 0 ≤ r ∧ r ≤ 3037000499 ∧ r * r ≤ x ∧ x < (r + 1) * (r + 1) ∧ F_X10_root0 z (q_l x) = some (q_l r, z) := fun z => p_X10_root0 (z := z) (n := x) (by omega) ⟨by omega, by omega⟩
    by_cases c3 : ∀ r, ¬ r * r = x
    · refine Or.inl ⟨⟨by omega, by omega, c3⟩, fun z => ?_⟩
      obtain ⟨r, r1, r2, r3, r4, r5⟩ := rt z
      unfold F_X10_isRooted
      rw [hin, Option.bind_some, if_pos c1]
      dsimp only
      rw [if_neg (by decide), q_l_i hx, r5, Option.bind_some]
      dsimp only
      rw [q_l_mul, if_neg (by rw [q_l_eq (q_mulB r1 r2) (q_b_B hx)]; exact c3 r)]
    · refine Or.inr ⟨fun h => c3 h.2.2, fun z => ?_⟩
      obtain ⟨r, r1, r2, r3, r4, r5⟩ := rt z
      unfold F_X10_isRooted
      rw [hin, Option.bind_some, if_pos c1]
      dsimp only
      rw [if_neg (by decide), q_l_i hx, r5, Option.bind_some]
      dsimp only
      have e : r * r = x := by
        have : ∃ s : Int, s * s = x := Classical.byContradiction fun q => c3 fun s hs => q ⟨s, hs⟩
        obtain ⟨s, hs⟩ := this
        have hs2 : (s.natAbs : Int) * s.natAbs = x := by rw [← Int.natCast_mul, Int.natAbs_mul_self]; exact hs
        have h9 : x < ((s.natAbs : Int) + 1) * (s.natAbs + 1) := by rw [← hs2, Int.add_mul, Int.mul_add]; omega
        rw [q_sqrt_uni r1 (Int.natCast_nonneg _) r3 r4 (Int.le_of_eq hs2) h9]
        exact hs2
      rw [q_l_mul, e, if_pos rfl]
  · refine Or.inr ⟨fun h => c1 ⟨h.1, h.2.1⟩, fun z => ?_⟩
    unfold F_X10_isRooted
    rw [hin, Option.bind_some, if_neg c1]
    rfl
/-! calls -/
theorem k_size {s : q_SS} (hv : q_V s) (l1 : Int32) : q_cok (fun z => F_X9_size z l1) (fun z => F_X10_size z l1) s := by
  refine q_cok_r hv (if l1 = 0 then q_i s.2.1.1 else if l1 = 1 then q_i s.2.2.2.2.1 else if l1 = 2 then q_i s.2.2.1.1 else if l1 = 3 then q_i s.1.1 else -2147483648) (fun z hz => ⟨z, ?_, q_CW_rfl z, rfl⟩) (fun z hz => ⟨(q_u2 z.1 128 3 0, z.2), ?_, q_MW_t 0 (by decide) (q_MW_rfl z), rfl⟩)
  · obtain ⟨nx, _, hm, _⟩ := hz.2.2.2.1
    unfold F_X9_size
    rw [hz.2.2.1.1, hz.2.2.2.2.2.1.1, hm, hz.1.1]
    by_cases c0 : l1 = 0
    · simp only [if_pos c0]
    · simp only [if_neg c0]
      by_cases c1 : l1 = 1
      · simp only [if_pos c1]
      · simp only [if_neg c1]
        by_cases c2 : l1 = 2
        · simp only [if_pos c2]
        · simp only [if_neg c2]
          by_cases c3 : l1 = 3
          · simp only [if_pos c3]
          · simp only [if_neg c3]
  · unfold F_X10_size
    rw [hz.2.2.1.1, hz.2.2.2.2.2.1.1, hz.2.2.2.1.1, hz.1.1]
    by_cases c0 : l1 = 0
    · simp only [if_pos c0]
    · simp only [if_neg c0]
      by_cases c1 : l1 = 1
      · simp only [if_pos c1]
      · simp only [if_neg c1]
        by_cases c2 : l1 = 2
        · simp only [if_pos c2]
        · simp only [if_neg c2]
          by_cases c3 : l1 = 3
          · simp only [if_pos c3]
          · simp only [if_neg c3]
theorem k_trouble {s : q_SS} (hv : q_V s) : q_cok F_X9_trouble F_X10_trouble s :=
  q_cok_r hv s.1.2.2 (fun z hz => ⟨z, by unfold F_X9_trouble; rw [hz.2.1], q_CW_rfl z, rfl⟩) (fun z hz => ⟨(q_u2 z.1 128 3 0, z.2), by unfold F_X10_trouble; rw [hz.2.1], q_MW_t 0 (by decide) (q_MW_rfl z), rfl⟩)
theorem k_way {s : q_SS} (hv : q_V s) (l1 : Int32) : q_cok (fun z => F_X9_way z l1) (fun z => F_X10_way z l1) s := by
  obtain ⟨x, hx, rfl⟩ := q_i_of l1
  have hc : ∀ k : Int, q_b k → (q_i x = q_i k ↔ x = k) := fun k hk => q_i_eq hx hk
  refine q_cok_r hv (if x = 0 then s.2.2.2.1.1 else if x = 1 then s.2.2.2.1.2.1 else if x = 2 then s.2.2.2.1.2.2.1 else if x = 3 then s.2.2.2.1.2.2.2 else 0) (fun z hz => ⟨z, ?_, q_CW_rfl z, rfl⟩) (fun z hz => ⟨(q_u2 z.1 128 3 0, z.2), ?_, q_MW_t 0 (by decide) (q_MW_rfl z), rfl⟩)
  · obtain ⟨w1, w2, w3, w4⟩ := hz.2.2.2.2.1
    unfold F_X9_way
    rw [w1, w2, w3, w4, q_i0, q_i1, show (2 : Int32) = q_i 2 from rfl, show (3 : Int32) = q_i 3 from rfl]
    simp only [hc 0 (by decide), hc 1 (by decide), hc 2 (by decide), hc 3 (by decide)]
    by_cases c0 : x = 0
    · simp only [if_pos c0]
    · simp only [if_neg c0]
      by_cases c1 : x = 1
      · simp only [if_pos c1]
      · simp only [if_neg c1]
        by_cases c2 : x = 2
        · simp only [if_pos c2]
        · simp only [if_neg c2]
          by_cases c3 : x = 3
          · simp only [if_pos c3]
          · simp only [if_neg c3]
  · obtain ⟨w1, w2, w3, w4⟩ := hz.2.2.2.2.1
    unfold F_X10_way
    rw [show (0 : Int64) = q_l 0 from rfl, show (3 : Int64) = q_l 3 from rfl, p_in_i hx (by decide) (by decide), Option.bind_some]
    dsimp only
    by_cases c : 0 ≤ x ∧ x ≤ 3
    · rw [if_pos c, if_neg (by decide), q_i_toInt hx, if_pos (by omega), q_clamp hx]
      have : x = 0 ∨ x = 1 ∨ x = 2 ∨ x = 3 := by omega
      rcases this with e | e | e | e
      · subst e; rw [if_pos rfl, ← w1]; rfl
      · subst e; rw [if_neg (by decide), if_pos rfl, ← w2]; rfl
      · subst e; rw [if_neg (by decide), if_neg (by decide), if_pos rfl, ← w3]; rfl
      · subst e; rw [if_neg (by decide), if_neg (by decide), if_neg (by decide), if_pos rfl, ← w4]; rfl
    · rw [if_neg c, if_pos rfl, if_neg (by omega), if_neg (by omega), if_neg (by omega), if_neg (by omega)]
theorem k_number {s : q_SS} (hv : q_V s) (l1 l2 : Int32) : q_cok (fun z => F_X9_number z l1 l2) (fun z => F_X10_number z l1 l2) s := by
  obtain ⟨x, hx, rfl⟩ := q_i_of l1
  obtain ⟨y, hy, rfl⟩ := q_i_of l2
  have hc : ∀ k : Int, q_b k → (q_i y = q_i k ↔ y = k) := fun k hk => q_i_eq hy hk
  have hn := hv.2.2.1
  refine q_cok_r hv (if 0 ≤ x ∧ x < s.2.1.1 then (if y = 0 then q_i (s.2.1.2 x.toNat).1 else if y = 1 then q_i (s.2.1.2 x.toNat).2.1 else if y = 2 then q_i (s.2.1.2 x.toNat).2.2 else 0) else 0) (fun z hz => ⟨z, ?_, q_CW_rfl z, rfl⟩) (fun z hz => ⟨(q_u2 z.1 128 3 0, z.2), ?_, q_MW_t 0 (by decide) (q_MW_rfl z), rfl⟩)
  · unfold F_X9_number
    rw [p_X6_at hz.2.2.1.1 hn hx, Option.bind_some]
    by_cases c : 0 ≤ x ∧ x < s.2.1.1
    · obtain ⟨g1, g2, g3⟩ := hz.2.2.1.2 x.toNat (by omega)
      simp only [if_pos c]
      unfold F_X1_part
      simp only [Nat.zero_add] at g2 g3
      rw [g1, g2, g3, q_i_l, q_i_l, q_i_l, q_i0, q_i1, show (2 : Int32) = q_i 2 from rfl]
      simp only [hc 0 (by decide), hc 1 (by decide), hc 2 (by decide)]
      by_cases c0 : y = 0
      · simp only [if_pos c0, Option.bind_some]
      · simp only [if_neg c0]
        by_cases c1 : y = 1
        · simp only [if_pos c1, Option.bind_some]
        · simp only [if_neg c1]
          by_cases c2 : y = 2
          · simp only [if_pos c2, Option.bind_some]
          · simp only [if_neg c2, Option.bind_some]
    · simp only [if_neg c]
  · unfold F_X10_number T_X10_number_40
    rw [p_X10_isPlace (z := (q_u2 z.1 128 3 0, z.2)) (n := s.2.1.1) hz.2.2.1.1 hn hx, Option.bind_some]
    by_cases c : 0 ≤ x ∧ x < s.2.1.1
    · obtain ⟨g1, g2, g3⟩ := hz.2.2.1.2 x.toNat (by omega)
      simp only [if_pos c]
      rw [if_neg (by decide), show (0 : Int64) = q_l 0 from rfl, show (2 : Int64) = q_l 2 from rfl, p_in_i hy (by decide) (by decide), Option.bind_some]
      dsimp only
      by_cases c3 : 0 ≤ y ∧ y ≤ 2
      · rw [if_pos c3, if_neg (by decide), show (3 : Int32) = q_i 3 from rfl, q_i_mul, q_i_add, q_i_toInt ⟨by omega, by omega⟩, if_pos (by omega), q_clamp ⟨by omega, by omega⟩]
        have : y = 0 ∨ y = 1 ∨ y = 2 := by omega
        rcases this with e | e | e
        · subst e; rw [if_pos rfl, show (3 * x + 0).toNat = 3 * x.toNat by omega, g1, q_i_l]
        · subst e; rw [if_neg (by decide), if_pos rfl, show (3 * x + 1).toNat = 3 * x.toNat + 1 by omega, g2, q_i_l]
        · subst e; rw [if_neg (by decide), if_neg (by decide), if_pos rfl, show (3 * x + 2).toNat = 3 * x.toNat + 2 by omega, g3, q_i_l]
      · rw [if_neg c3, if_pos rfl, if_neg (by omega), if_neg (by omega), if_neg (by omega)]
    · simp only [if_neg c]
      rw [if_pos trivial]
theorem k_pair {s : q_SS} (hv : q_V s) (l1 l2 : Int32) : q_cok (fun z => F_X9_pair z l1 l2) (fun z => F_X10_pair z l1 l2) s := by
  obtain ⟨x, hx, rfl⟩ := q_i_of l1
  have hk := hv.2.2.2.2.1
  refine q_cok_r hv (if 0 ≤ x ∧ x < s.2.2.2.2.1 then (if l2 = 0 then (s.2.2.2.2.2 x.toNat).1 else (s.2.2.2.2.2 x.toNat).2) else -2147483648) (fun z hz => ⟨z, ?_, q_CW_rfl z, rfl⟩) (fun z hz => ⟨(q_u2 z.1 128 3 0, z.2), ?_, q_MW_t 0 (by decide) (q_MW_rfl z), rfl⟩)
  · obtain ⟨o1, o2⟩ := hz.2.2.2.2.2.1
    unfold F_X9_pair T_X9_pair_22
    rw [o1, q_i0]
    by_cases c1 : x < 0
    · rw [if_pos ((q_i_lt hx (by decide)).mpr c1), if_neg (by omega)]
    rw [if_neg (fun q => c1 ((q_i_lt hx (by decide)).mp q))]
    by_cases c2 : (s.2.2.2.2.1 : Int) ≤ x
    · rw [if_pos ((q_i_le ⟨by omega, by omega⟩ hx).mpr c2), if_neg (by omega)]
    rw [if_neg (fun q => c2 ((q_i_le ⟨by omega, by omega⟩ hx).mp q)), show (200 : Int32) = q_i 200 from rfl, if_pos ((q_i_lt hx (by decide)).mpr (by omega)), q_i_toInt hx, if_pos (show 0 ≤ x ∧ x < (200 : Int) by omega), if_pos (show 0 ≤ x ∧ x < (200 : Int) by omega), if_pos (show 0 ≤ x ∧ x < (s.2.2.2.2.1 : Int) by omega), q_clamp hx, (o2 x.toNat (by omega)).1, (o2 x.toNat (by omega)).2]
    by_cases c3 : l2 = q_i 0
    · rw [if_pos c3, if_pos c3]
    · rw [if_neg c3, if_neg c3]
  · obtain ⟨o1, o2⟩ := hz.2.2.2.2.2.1
    unfold F_X10_pair
    rw [o1, q_i1, q_i_sub, q_l_i hx, q_l_i (x := (s.2.2.2.2.1 : Int) - 1) ⟨by omega, by omega⟩, show (0 : Int64) = q_l 0 from rfl, p_X10_in (q_b_B hx) (by decide) ⟨by omega, by omega⟩, Option.bind_some]
    dsimp only
    by_cases c : 0 ≤ x ∧ x < s.2.2.2.2.1
    · have e1 : q_u2 z.1 128 3 0 132 = z.1 132 := q_u2_ne (by decide)
      have e2 : q_u2 z.1 128 3 0 133 = z.1 133 := q_u2_ne (by decide)
      rw [if_pos (show 0 ≤ x ∧ x ≤ (s.2.2.2.2.1 : Int) - 1 by omega), if_neg (by decide), q_i_toInt hx, if_pos c, e1, e2, q_clamp hx, (o2 x.toNat (by omega)).1, (o2 x.toNat (by omega)).2]
      by_cases c3 : l2 = 0
      · rw [if_pos c3, if_pos c3, if_pos (by omega)]
      · rw [if_neg c3, if_neg c3, if_pos (by omega)]
    · rw [if_neg (show ¬ (0 ≤ x ∧ x ≤ (s.2.2.2.2.1 : Int) - 1) by omega), if_pos rfl, if_neg c]
