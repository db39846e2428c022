/-! markRing, numberClasses, find -/
theorem p_X0_markLoop {d R : Int} {n m x : Nat} {T : Nat → q_f3} {L : Nat → Nat → Int64} {v : Int32} {O : Nat → Int32} (hdc : q_dc d R) (hp : 0 < d) (hT : q_isT d R n T) (hn : n ≤ 128) (hx : x < n) (hm : m ≤ n) (h1 : q_its d R (2 * m) (T x) = T x) (h2 : ∀ k, 0 < k → k < m → q_its d R (2 * k) (T x) ≠ T x) : ∀ (r t : Nat) (I : Nat → Nat → Int32), t + 1 + r = m → I 4 0 = q_i d → I 4 1 = q_i R → q_CA n T (I, L) → (∀ j, j < n → ((∃ s, s ≤ t ∧ T j = q_its d R (2 * s) (T x)) → I 8 j = v) ∧ ((¬ ∃ s, s ≤ t ∧ T j = q_its d R (2 * s) (T x)) → I 8 j = O j)) → ∃ I2 w, q_lp B_X0_markRing_60 (r + 1) (q_i x, v, q_i t, (I, q_v3 L 10 (q_its d R (2 * t) (T x)))) = some ((q_i x, v, w, (I2, q_v3 L 10 (T x))), 0) ∧ (∀ j, j < n → ((∃ s, s < m ∧ T j = q_its d R (2 * s) (T x)) → I2 8 j = v) ∧ ((¬ ∃ s, s < m ∧ T j = q_its d R (2 * s) (T x)) → I2 8 j = O j)) ∧ ∀ k, k ≠ 8 → I2 k = I k := by
  have hf := (hT.2.1 x hx).1
  have ha := (hT.2.1 x hx).2
  have two : ∀ t, q_st d R (q_st d R (q_its d R (2 * t) (T x))) = q_its d R (2 * (t + 1)) (T x) := by
    intro t
    rw [← q_its_succ, ← q_its_succ]
    rfl
  have go : ∀ (t : Nat) (I : Nat → Nat → Int32), t < 128 → I 4 0 = q_i d → I 4 1 = q_i R → q_CA n T (I, L) → ∃ y, y < n ∧ T y = q_its d R (2 * (t + 1)) (T x) ∧ B_X0_markRing_60 (q_i x, v, q_i t, (I, q_v3 L 10 (q_its d R (2 * t) (T x)))) = if y = x then some ((q_i x, v, q_i t, (I, q_v3 L 10 (q_its d R (2 * (t + 1)) (T x)))), 1) else some ((q_i x, v, q_i ((t + 1 : Nat) : Int), (q_u2 I 8 y v, q_v3 L 10 (q_its d R (2 * (t + 1)) (T x)))), 0) := by
    intro t I ht hd hR hA
    have l0 := q_LF_its hdc hp hf (2 * t)
    have l1 := q_LF_its hdc hp hf (2 * t + 1)
    have l2 := q_LF_its hdc hp hf (2 * (t + 1))
    obtain ⟨y, y1, y2⟩ := hT.2.2 _ l2 ((q_its_sign hdc hp hf ha (2 * (t + 1))).1 (by omega))
    refine ⟨y, y1, y2, ?_⟩
    have a1 := p_X2_advance3 (I := I) (L := L) (o := 10) hd hR hdc l0.1 (q_G_s3 (q_LF_G hdc l0))
    have l1' : q_LF d R (q_st d R (q_its d R (2 * t) (T x))) := by rw [← q_its_succ]; exact l1
    have a2 := p_X2_advance3 (I := I) (L := L) (o := 10) hd hR hdc l1'.1 (q_G_s3 (q_LF_G hdc l1'))
    rw [two t] at a2
    have hA2 : q_CA n T (I, q_v3 L 10 (q_its d R (2 * (t + 1)) (T x))) := hA
    have ix := p_X0_indexOf (x := y) hdc hT hn hA2 y1
    rw [y2] at ix
    obtain ⟨w0, w1, w2⟩ := q_v3_at L 10 (q_its d R (2 * (t + 1)) (T x))
    simp only [B_X0_markRing_60]
    rw [if_neg (by rw [show (128 : Int32) = q_i 128 from rfl, q_i_le (by decide) ⟨by omega, by omega⟩]; omega), a1, Option.bind_some]
    dsimp only
    rw [a2, Option.bind_some]
    dsimp only
    rw [w0, w1, ix, Option.bind_some]
    dsimp only
    rw [if_neg (by rw [q_i0, q_i_lt ⟨by omega, by omega⟩ (by decide)]; omega), if_neg (by rw [show (128 : Int32) = q_i 128 from rfl, q_i_le (by decide) ⟨by omega, by omega⟩]; omega)]
    by_cases c : y = x
    · rw [if_pos (by rw [c]), if_pos c]
    · rw [if_neg (by rw [q_i_eq ⟨by omega, by omega⟩ ⟨by omega, by omega⟩]; omega), if_neg c, q_i_toInt ⟨by omega, by omega⟩, if_pos (by omega), q_clamp ⟨by omega, by omega⟩, q_i1, q_i_add, show ((y : Int)).toNat = y by omega, show (t : Int) + 1 = ((t + 1 : Nat) : Int) by omega]
  intro r
  induction r with
  | zero =>
    intro t I ht hd hR hA hM
    obtain ⟨y, y1, y2, y3⟩ := go t I (by omega) hd hR hA
    have e : t + 1 = m := by omega
    rw [e, h1] at y2
    have c : y = x := q_T_eq hT y1 hx y2
    rw [if_pos c, e, h1] at y3
    refine ⟨I, _, q_lp_end y3, ?_, fun _ _ => rfl⟩
    intro j hj
    have := hM j hj
    refine ⟨fun ⟨s, s1, s2⟩ => this.1 ⟨s, by omega, s2⟩, fun h => this.2 fun ⟨s, s1, s2⟩ => h ⟨s, by omega, s2⟩⟩
  | succ r ih =>
    intro t I ht hd hR hA hM
    obtain ⟨y, y1, y2, y3⟩ := go t I (by omega) hd hR hA
    have c : y ≠ x := by
      intro c
      rw [c] at y2
      exact h2 (t + 1) (by omega) (by omega) y2.symm
    rw [if_neg c] at y3
    have u : ∀ k, k ≠ 8 → q_u2 I 8 y v k = I k := fun k hk => q_u2_ne hk
    obtain ⟨I2, w, g1, g2, g3⟩ := ih (t + 1) (q_u2 I 8 y v) (by omega) (by rw [u 4 (by decide)]; exact hd) (by rw [u 4 (by decide)]; exact hR) (q_CA_fr hA (by show q_u2 I 8 y v 3 9 = I 3 9; rw [u 3 (by decide)]) (u 5 (by decide)) (u 6 (by decide)) (u 7 (by decide))) (by
      intro j hj
      rw [q_u2_at]
      by_cases cj : j = y
      · rw [if_pos cj]
        refine ⟨fun _ => rfl, fun h => absurd ⟨t + 1, Nat.le_refl _, by rw [cj]; exact y2⟩ h⟩
      · rw [if_neg cj]
        have := hM j hj
        refine ⟨fun ⟨s, s1, s2⟩ => ?_, fun h => this.2 fun ⟨s, s1, s2⟩ => h ⟨s, by omega, s2⟩⟩
        by_cases cs : s = t + 1
        · rw [cs, ← y2] at s2
          exact absurd (q_T_eq hT hj y1 s2) cj
        · exact this.1 ⟨s, by omega, s2⟩)
    exact ⟨I2, w, by rw [q_lp_go y3]; exact g1, g2, fun k hk => (g3 k hk).trans (u k hk)⟩
theorem p_X0_markRing {d R : Int} {n x : Nat} {T : Nat → q_f3} {z : q_Z} {v : Int32} (hdc : q_dc d R) (hT : q_isT d R n T) (hn : n ≤ 128) (hx : x < n) (hg : q_Cg d R z) (hA : q_CA n T z) : ∃ z2, F_X0_markRing z (q_i x) v = some ((), z2) ∧ (∀ j, j < n → (q_rg d R (T x) (T j) → z2.1 8 j = v) ∧ (¬ q_rg d R (T x) (T j) → z2.1 8 j = z.1 8 j)) ∧ (∀ k, k ≠ 8 → z2.1 k = z.1 k) ∧ ∀ k, k ≠ 10 → z2.2 k = z.2 k := by
  have hdb : q_b d := by rcases hdc with q | q <;> exact ⟨by omega, by omega⟩
  have hf := (hT.2.1 x hx).1
  have ha := (hT.2.1 x hx).2
  have ei : Int32.toInt (q_i (x : Int)) = x := q_i_toInt ⟨by omega, by omega⟩
  have ec : Int32.toNatClampNeg (q_i (x : Int)) = x := by rw [q_clamp ⟨by omega, by omega⟩]; omega
  unfold F_X0_markRing
  rw [ei, ec, if_neg (by rw [q_i0, q_i_lt ⟨by omega, by omega⟩ (by decide)]; omega), if_pos (by rw [show (128 : Int32) = q_i 128 from rfl, q_i_lt ⟨by omega, by omega⟩ (by decide)]; omega), if_pos (by omega), hg.1]
  by_cases hp : 0 < d
  · obtain ⟨m, m0, m1, m2⟩ := q_ring2 hdc hp hf
    have hmn := q_ring2_n hdc hp hT hf ha m2
    obtain ⟨r5, r6, r7⟩ := hA.2 x hx
    have bx := q_LF_b hdc hf
    have bc := (q_LF_G hdc hf).2.2.2.2
    have ep : F_X1_put 10 (q_u2 z.1 8 x v, z.2) (Int32.toInt64 (z.1 5 x)) (Int32.toInt64 (z.1 6 x)) (Int32.toInt64 (z.1 7 x)) = some ((), (q_u2 z.1 8 x v, q_v3 z.2 10 (T x))) := by
      rw [r5, r6, r7, q_l_i ⟨by omega, by omega⟩, q_l_i ⟨by omega, by omega⟩, q_l_i ⟨by have := bc.1; omega, by have := bc.2; omega⟩]
      rfl
    have u : ∀ k, k ≠ 8 → q_u2 z.1 8 x v k = z.1 k := fun k hk => q_u2_ne hk
    obtain ⟨I2, w, g1, g2, g3⟩ := p_X0_markLoop (L := z.2) (v := v) (O := z.1 8) hdc hp hT hn hx hmn m1 m2 (m - 1) 0 (q_u2 z.1 8 x v) (by omega) (by rw [u 4 (by decide)]; exact hg.1) (by rw [u 4 (by decide)]; exact hg.2) (q_CA_fr hA (by show q_u2 z.1 8 x v 3 9 = z.1 3 9; rw [u 3 (by decide)]) (u 5 (by decide)) (u 6 (by decide)) (u 7 (by decide))) (by
      intro j hj
      rw [q_u2_at]
      by_cases cj : j = x
      · rw [if_pos cj]
        refine ⟨fun _ => rfl, fun h => absurd ⟨0, Nat.le_refl _, by rw [cj]; rfl⟩ h⟩
      · rw [if_neg cj]
        refine ⟨fun ⟨s, s1, s2⟩ => ?_, fun _ => rfl⟩
        have : s = 0 := by omega
        subst this
        exact absurd (q_T_eq hT hj hx s2) cj)
    have g1 := q_lp_mono g1 (show m - 1 + 1 ≤ q_fu by unfold q_fu; omega)
    have g1 : q_lp B_X0_markRing_60 q_fu (q_i x, v, 0, (q_u2 z.1 8 x v, q_v3 z.2 10 (T x))) = _ := g1
    refine ⟨(I2, q_v3 z.2 10 (T x)), ?_, ?_, fun k hk => (g3 k hk).trans (u k hk), fun k hk => q_v3_ne hk⟩
    · rw [if_pos (by rw [q_i0, q_i_le (by decide) hdb]; omega), if_pos (by omega), ep, Option.bind_some]
      dsimp only
      rw [g1, Option.bind_some]
      rfl
    · intro j hj
      have hr := q_ring2_rg (g := T j) hdc hp hf ha (hT.2.1 j hj).2 m0 m1
      have := g2 j hj
      refine ⟨fun h => ?_, fun h => ?_⟩
      · obtain ⟨s, s1, s2⟩ := hr.mp h
        exact this.1 ⟨s, s1, s2.symm⟩
      · exact this.2 fun ⟨s, s1, s2⟩ => h (hr.mpr ⟨s, s1, s2.symm⟩)
  · have hn' : d < 0 := by rcases hdc with q | q <;> omega
    refine ⟨(q_u2 z.1 8 x v, z.2), ?_, ?_, fun k hk => q_u2_ne hk, fun _ _ => rfl⟩
    · rw [if_neg (by rw [q_i0, q_i_le (by decide) hdb]; omega)]
    · intro j hj
      show (_ → q_u2 z.1 8 x v 8 j = v) ∧ (_ → q_u2 z.1 8 x v 8 j = z.1 8 j)
      rw [q_u2_at]
      refine ⟨fun h => ?_, fun h => ?_⟩
      · rcases h with ⟨_, e⟩ | ⟨q, _⟩
        · rw [if_pos (q_T_eq hT hj hx e.symm)]
        · omega
      · rw [if_neg (fun e => h (by rw [e]; exact q_rg_rfl hdc (T x)))]
/-- while classes are numbered -/
def q_CN (d R : Int) (n : Nat) (T : Nat → q_f3) (i : Nat) (z : q_Z) : Prop := q_CA n T z ∧ z.1 3 10 = q_i (q_hn d R T i) ∧ (∀ j, j < n → (q_hx d R T (T j) < i → z.1 8 j = q_i (q_hn d R T (q_hx d R T (T j)))) ∧ (i ≤ q_hx d R T (T j) → z.1 8 j = -1)) ∧ ∀ j, j < i → q_hx d R T (T j) = j → z.1 9 (q_hn d R T j) = q_i j
/-- what numbering may change -/
def q_CM (z z2 : q_Z) : Prop := (∀ k, k ≠ 3 → k ≠ 8 → k ≠ 9 → z2.1 k = z.1 k) ∧ (∀ k, k ≠ 10 → z2.1 3 k = z.1 3 k) ∧ ∀ k, k ≠ 10 → z2.2 k = z.2 k
theorem q_CM_rfl (z : q_Z) : q_CM z z := ⟨fun _ _ _ _ => rfl, fun _ _ => rfl, fun _ _ => rfl⟩
theorem q_CM_trans {x y z : q_Z} (h1 : q_CM x y) (h2 : q_CM y z) : q_CM x z := ⟨fun k a b c => (h2.1 k a b c).trans (h1.1 k a b c), fun k a => (h2.2.1 k a).trans (h1.2.1 k a), fun k a => (h2.2.2 k a).trans (h1.2.2 k a)⟩
theorem p_X0_numLoop {d R : Int} {n : Nat} {T : Nat → q_f3} (hdc : q_dc d R) (hT : q_isT d R n T) (hn : n ≤ 128) : ∀ (r i : Nat) (z : q_Z), i + r = n → q_Cg d R z → q_CN d R n T i z → ∃ z2, q_lp B_X0_numberClasses_7 (r + 1) (q_i i, z) = some ((q_i n, z2), 0) ∧ q_CN d R n T n z2 ∧ q_CM z z2 := by
  intro r
  induction r with
  | zero =>
    intro i z hi hg hN
    have e : i = n := by omega
    subst e
    refine ⟨z, q_lp_end ?_, hN, q_CM_rfl z⟩
    simp only [B_X0_numberClasses_7]
    rw [if_pos (by rw [hN.1.1]; exact (q_i_le ⟨by omega, by omega⟩ ⟨by omega, by omega⟩).mpr (Int.le_refl _))]
  | succ r ih =>
    intro i z hi hg hN
    obtain ⟨hA, h10, h8, h9⟩ := hN
    have hin : i < n := by omega
    have hle := q_hx_le hdc hT hin
    have hhn : q_hn d R T i ≤ i := q_hn_le i
    have ei : Int32.toInt (q_i (i : Int)) = i := q_i_toInt ⟨by omega, by omega⟩
    have ec : Int32.toNatClampNeg (q_i (i : Int)) = i := by rw [q_clamp ⟨by omega, by omega⟩]; omega
    have stp : ∃ z1, B_X0_numberClasses_7 (q_i i, z) = some ((q_i ((i + 1 : Nat) : Int), z1), 0) ∧ q_CN d R n T (i + 1) z1 ∧ q_CM z z1 := by
      simp only [B_X0_numberClasses_7, T_X0_numberClasses_71]
      rw [if_neg (by rw [hA.1, q_i_le ⟨by omega, by omega⟩ ⟨by omega, by omega⟩]; omega), if_neg (by rw [show (128 : Int32) = q_i 128 from rfl, q_i_le (by decide) ⟨by omega, by omega⟩]; omega), ei, if_pos (by omega), ec, show q_i (i : Int) + 1 = q_i ((i + 1 : Nat) : Int) by rw [q_i1, q_i_add]; rfl]
      by_cases c : q_hx d R T (T i) = i
      · have e8 := (h8 i hin).2 (by omega)
        have u : ∀ k, k ≠ 9 → q_u2 z.1 9 (q_hn d R T i) (q_i i) k = z.1 k := fun k hk => q_u2_ne hk
        obtain ⟨z4, m1, m2, m3, m4⟩ := p_X0_markRing (z := (q_u2 z.1 9 (q_hn d R T i) (q_i i), z.2)) (v := q_i (q_hn d R T i)) hdc hT hn hin (q_Cg_fr hg (u 4 (by decide))) (q_CA_fr hA (congrFun (u 3 (by decide)) 9) (u 5 (by decide)) (u 6 (by decide)) (u 7 (by decide)))
        have v4 : ∀ k, k ≠ 8 → k ≠ 9 → z4.1 k = z.1 k := fun k a b => (m3 k a).trans (u k b)
        have w : ∀ k, k ≠ 3 → q_u2 z4.1 3 10 (q_i ((q_hn d R T i + 1 : Nat) : Int)) k = z4.1 k := fun k hk => q_u2_ne hk
        refine ⟨(q_u2 z4.1 3 10 (q_i ((q_hn d R T i + 1 : Nat) : Int)), z4.2), ?_, ⟨q_CA_fr hA ?_ ?_ ?_ ?_, ?_, ?_, ?_⟩, ?_, ?_, m4⟩
        · rw [if_pos e8, if_neg (by rw [h10, show (128 : Int32) = q_i 128 from rfl, q_i_le (by decide) ⟨by omega, by omega⟩]; omega), if_pos (by rw [h10, q_i_toInt ⟨by omega, by omega⟩]; omega), h10, q_clamp ⟨by omega, by omega⟩, show ((q_hn d R T i : Nat) : Int).toNat = q_hn d R T i by omega, m1, Option.bind_some]
          dsimp only
          rw [show z4.1 3 10 = q_i (q_hn d R T i) by rw [v4 3 (by decide) (by decide)]; exact h10, q_i1, q_i_add, show (q_hn d R T i : Int) + 1 = ((q_hn d R T i + 1 : Nat) : Int) by omega]
        · show q_u2 z4.1 3 10 (q_i ((q_hn d R T i + 1 : Nat) : Int)) 3 9 = z.1 3 9
          rw [q_u2_at, if_neg (by decide), v4 3 (by decide) (by decide)]
        · show q_u2 z4.1 3 10 (q_i ((q_hn d R T i + 1 : Nat) : Int)) 5 = z.1 5
          rw [w 5 (by decide), v4 5 (by decide) (by decide)]
        · show q_u2 z4.1 3 10 (q_i ((q_hn d R T i + 1 : Nat) : Int)) 6 = z.1 6
          rw [w 6 (by decide), v4 6 (by decide) (by decide)]
        · show q_u2 z4.1 3 10 (q_i ((q_hn d R T i + 1 : Nat) : Int)) 7 = z.1 7
          rw [w 7 (by decide), v4 7 (by decide) (by decide)]
        · rw [q_hn_yes c]
          rfl
        · intro j hj
          show (_ → q_u2 z4.1 3 10 (q_i ((q_hn d R T i + 1 : Nat) : Int)) 8 j = _) ∧ (_ → q_u2 z4.1 3 10 (q_i ((q_hn d R T i + 1 : Nat) : Int)) 8 j = _)
          rw [w 8 (by decide)]
          have hm := m2 j hj
          have hLi := (hT.2.1 i hin).1
          have hLj := (hT.2.1 j hj).1
          have hr : q_rg d R (T i) (T j) ↔ q_hx d R T (T j) = i := by
            refine ⟨fun h => by rw [q_hx_rg hdc hT hLi h]; exact c, fun h => q_hx_eq hdc hT hLi hLj (by rw [c, h])⟩
          have old : (q_u2 z.1 9 (q_hn d R T i) (q_i i), z.2).1 8 j = z.1 8 j := congrFun (u 8 (by decide)) j
          refine ⟨fun h => ?_, fun h => ?_⟩
          · by_cases e : q_hx d R T (T j) = i
            · rw [hm.1 (hr.mpr e), e]
            · rw [hm.2 (fun q => e (hr.mp q)), old]
              exact (h8 j hj).1 (by omega)
          · rw [hm.2 (fun q => by have := hr.mp q; omega), old]
            exact (h8 j hj).2 (by omega)
        · intro j hj hjj
          show q_u2 z4.1 3 10 (q_i ((q_hn d R T i + 1 : Nat) : Int)) 9 _ = _
          rw [w 9 (by decide), m3 9 (by decide)]
          show q_u2 z.1 9 (q_hn d R T i) (q_i i) 9 _ = _
          rw [q_u2_at]
          by_cases e : j = i
          · rw [e, if_pos rfl]
          · rw [if_neg (fun q => e (q_hn_inj hjj c q))]
            exact h9 j (by omega) hjj
        · intro k a1 a2 a3
          show q_u2 z4.1 3 10 (q_i ((q_hn d R T i + 1 : Nat) : Int)) k = z.1 k
          rw [w k a1, v4 k a2 a3]
        · intro k a1
          show q_u2 z4.1 3 10 (q_i ((q_hn d R T i + 1 : Nat) : Int)) 3 k = z.1 3 k
          rw [q_u2_at, if_neg a1, v4 3 (by decide) (by decide)]
      · have e8 := (h8 i hin).1 (by omega)
        have hb2 : q_hn d R T (q_hx d R T (T i)) ≤ 128 := Nat.le_trans (q_hn_le _) (by omega)
        refine ⟨z, ?_, ⟨hA, ?_, ?_, ?_⟩, q_CM_rfl z⟩
        · rw [if_neg (by rw [e8, show (-1 : Int32) = q_i (-1) from rfl, q_i_eq ⟨by omega, by omega⟩ (by decide)]; omega)]
        · rw [q_hn_no c]
          exact h10
        · intro j hj
          have hne : q_hx d R T (T j) ≠ i := by
            intro e
            have := q_hx_hx hdc hT (hT.2.1 j hj).1
            rw [e] at this
            exact c this
          exact ⟨fun h => (h8 j hj).1 (by omega), fun h => (h8 j hj).2 (by omega)⟩
        · intro j hj hjj
          have hne : j ≠ i := by
            intro e
            rw [e] at hjj
            exact c hjj
          exact h9 j (by omega) hjj
    obtain ⟨z1, s1, s2, s3⟩ := stp
    obtain ⟨z2, g1, g2, g3⟩ := ih (i + 1) z1 (by omega) (q_Cg_fr hg (s3.1 4 (by decide) (by decide) (by decide))) s2
    exact ⟨z2, by rw [q_lp_go s1]; exact g1, g2, q_CM_trans s3 g3⟩
theorem p_X0_numberClasses {d R : Int} {n : Nat} {T : Nat → q_f3} {z : q_Z} (hdc : q_dc d R) (hT : q_isT d R n T) (hn : n ≤ 128) (hg : q_Cg d R z) (hC : q_CT n T z) : ∃ z2, F_X0_numberClasses z = some ((), z2) ∧ q_CN d R n T n z2 ∧ q_CM z z2 := by
  have u : ∀ k, k ≠ 3 → q_u2 z.1 3 10 0 k = z.1 k := fun k hk => q_u2_ne hk
  have hA : q_CA n T z := ⟨hC.1, fun i hi => ⟨(hC.2 i hi).1, (hC.2 i hi).2.1, (hC.2 i hi).2.2.1⟩⟩
  have hN : q_CN d R n T 0 (q_u2 z.1 3 10 0, z.2) := by
    refine ⟨q_CA_fr hA rfl (u 5 (by decide)) (u 6 (by decide)) (u 7 (by decide)), rfl, fun j hj => ⟨fun h => absurd h (Nat.not_lt_zero _), fun _ => ?_⟩, fun j hj => absurd hj (Nat.not_lt_zero j)⟩
    show q_u2 z.1 3 10 0 8 j = -1
    rw [u 8 (by decide)]
    exact (hC.2 j hj).2.2.2
  obtain ⟨z2, g1, g2, g3⟩ := p_X0_numLoop hdc hT hn n 0 (q_u2 z.1 3 10 0, z.2) (by omega) (q_Cg_fr hg (u 4 (by decide))) hN
  refine ⟨z2, ?_, g2, q_CM_trans (y := (q_u2 z.1 3 10 0, z.2)) ⟨fun k a _ _ => u k a, fun k a => by show q_u2 z.1 3 10 0 3 k = z.1 3 k; rw [q_u2_at, if_neg a], fun _ _ => rfl⟩ g3⟩
  unfold F_X0_numberClasses
  have g1 := q_lp_mono g1 (show n + 1 ≤ q_fu by unfold q_fu; omega)
  have g1 : q_lp B_X0_numberClasses_7 q_fu (0, (q_u2 z.1 3 10 0, z.2)) = _ := g1
  rw [g1, Option.bind_some]
  rfl
