/-! the class: indexOf, markRing, numberClasses -/
theorem q_CA_fr {n : Nat} {T : Nat → q_f3} {z z2 : q_Z} (h : q_CA n T z) (e3 : z2.1 3 9 = z.1 3 9) (e5 : z2.1 5 = z.1 5) (e6 : z2.1 6 = z.1 6) (e7 : z2.1 7 = z.1 7) : q_CA n T z2 := by
  refine ⟨e3.trans h.1, fun i hi => ?_⟩
  rw [e5, e6, e7]
  exact h.2 i hi
theorem q_T_lt {d R : Int} {n : Nat} {T : Nat → q_f3} {i j : Nat} (hT : q_isT d R n T) (hi : i < n) (hj : j < n) : (i < j ↔ q_lt (T i) (T j)) := by
  refine ⟨fun h => hT.1 i j h hj, fun h => ?_⟩
  rcases Nat.lt_trichotomy i j with c | c | c
  · exact c
  · rw [c] at h; exact absurd h q_lt_irr
  · exact absurd h (q_lt_asymm (hT.1 j i c hi))
theorem q_T_eq {d R : Int} {n : Nat} {T : Nat → q_f3} {i j : Nat} (hT : q_isT d R n T) (hi : i < n) (hj : j < n) (h : T i = T j) : i = j := by
  rcases Nat.lt_trichotomy i j with c | c | c
  · have := hT.1 i j c hj; rw [h] at this; exact absurd this q_lt_irr
  · exact c
  · have := hT.1 j i c hi; rw [h] at this; exact absurd this q_lt_irr
theorem p_X0_indexLoop {d R : Int} {n : Nat} {T : Nat → q_f3} {z : q_Z} {x : Nat} (hdc : q_dc d R) (hT : q_isT d R n T) (hn : n ≤ 128) (hA : q_CA n T z) (hx : x < n) : ∀ (r lo hi t : Nat) (g : Int32), hi - lo < r → lo ≤ x → x ≤ hi → hi < n → t + (hi - lo) ≤ 127 → ∃ w5 w6 w7, q_lp B_X0_indexOf_20 r (q_l (T x).1, q_l (T x).2.1, q_i lo, q_i hi, q_i t, g, z) = some ((q_l (T x).1, q_l (T x).2.1, w5, w6, w7, q_i x, z), 1) := by
  have bx := q_LF_b hdc (hT.2.1 x hx).1
  intro r
  induction r with
  | zero => intro lo hi t g h; omega
  | succ r ih =>
    intro lo hi t g h1 h2 h3 h4 h5
    obtain ⟨m, hm⟩ : ∃ m, m = (lo + hi) / 2 := ⟨_, rfl⟩
    have em : (q_i lo + q_i hi) / 2 = q_i m := by
      have e : ((lo : Int) + hi).tdiv 2 = m := by rw [Int.tdiv_eq_ediv_of_nonneg (by omega)]; omega
      rw [q_i_add, show (2 : Int32) = q_i 2 from rfl, q_i_div ⟨by omega, by omega⟩ (by decide) (by rw [e]; exact ⟨by omega, by omega⟩), e]
    have hmn : m < n := by omega
    obtain ⟨r5, r6, r7⟩ := hA.2 m hmn
    have bm := q_LF_b hdc (hT.2.1 m hmn).1
    have ei : Int32.toInt (q_i (m : Int)) = m := q_i_toInt ⟨by omega, by omega⟩
    have ec : Int32.toNatClampNeg (q_i (m : Int)) = m := by rw [q_clamp ⟨by omega, by omega⟩]; omega
    have e5 : Int32.toInt64 (z.1 5 m) = q_l (T m).1 := by rw [r5, q_l_i ⟨by omega, by omega⟩]
    have e6 : Int32.toInt64 (z.1 6 m) = q_l (T m).2.1 := by rw [r6, q_l_i ⟨by omega, by omega⟩]
    have ca : (q_l (T m).1 = q_l (T x).1) ↔ (T m).1 = (T x).1 := q_l_eq ⟨by omega, by omega⟩ ⟨by omega, by omega⟩
    have cb : (q_l (T m).2.1 = q_l (T x).2.1) ↔ (T m).2.1 = (T x).2.1 := q_l_eq ⟨by omega, by omega⟩ ⟨by omega, by omega⟩
    have la : (q_l (T m).1 < q_l (T x).1) ↔ (T m).1 < (T x).1 := q_l_lt ⟨by omega, by omega⟩ ⟨by omega, by omega⟩
    have lb : (q_l (T x).2.1 ≤ q_l (T m).2.1) ↔ (T x).2.1 ≤ (T m).2.1 := q_l_le ⟨by omega, by omega⟩ ⟨by omega, by omega⟩
    have hlt := q_T_lt hT hmn hx
    have hgt := q_T_lt hT hx hmn
    by_cases c0 : (T m).1 = (T x).1 ∧ (T m).2.1 = (T x).2.1
    · have e := q_T_eq hT hmn hx (q_ab_eq (hT.2.1 m hmn).1.1 (hT.2.1 x hx).1.1 c0.1 c0.2)
      refine ⟨q_i lo, q_i hi, q_i t, q_lp_end ?_⟩
      simp only [B_X0_indexOf_20]
      rw [if_neg (by rw [show (128 : Int32) = q_i 128 from rfl, q_i_le (by decide) ⟨by omega, by omega⟩]; omega), if_neg (by rw [q_i_lt ⟨by omega, by omega⟩ ⟨by omega, by omega⟩]; omega), em, if_neg (by rw [q_i0, q_i_lt ⟨by omega, by omega⟩ (by decide)]; omega), if_pos (by rw [show (128 : Int32) = q_i 128 from rfl, q_i_lt ⟨by omega, by omega⟩ (by decide)]; omega), ei, if_pos (by omega), ec, e5, if_pos (ca.mpr c0.1), if_pos (by omega), e6, if_pos (cb.mpr c0.2), e]
    · have t88 : T_X0_indexOf_88 z (q_l (T x).1) (q_l (T x).2.1) (q_i lo) (q_i hi) (q_i t) (q_i m) = if m < x then some ((q_l (T x).1, q_l (T x).2.1, q_i ((m + 1 : Nat) : Int), q_i hi, q_i ((t + 1 : Nat) : Int), 0, z), 0) else some ((q_l (T x).1, q_l (T x).2.1, q_i lo, q_i ((m : Int) - 1), q_i ((t + 1 : Nat) : Int), 0, z), 0) := by
        unfold T_X0_indexOf_88 T_X0_indexOf_127 T_X0_indexOf_136 T_X0_indexOf_142
        rw [ei, if_pos (by omega), ec, e5, e6, q_i1, q_i_add, q_i_add, q_i_sub, show (t : Int) + 1 = ((t + 1 : Nat) : Int) by omega, show (m : Int) + 1 = ((m + 1 : Nat) : Int) by omega]
        by_cases d1 : (T m).1 < (T x).1
        · rw [if_pos (la.mpr d1), if_pos (hlt.mpr (Or.inl d1))]
        · rw [if_neg (fun q => d1 (la.mp q)), if_pos (by omega)]
          by_cases d2 : (T m).1 = (T x).1
          · rw [if_pos (ca.mpr d2), if_pos (by omega)]
            by_cases d3 : (T x).2.1 ≤ (T m).2.1
            · rw [if_pos (lb.mpr d3), if_neg (fun q => by have := hlt.mp q; unfold q_lt at this; omega)]
            · rw [if_neg (fun q => d3 (lb.mp q)), if_pos (hlt.mpr (Or.inr ⟨d2, by omega⟩))]
          · rw [if_neg (fun q => d2 (ca.mp q)), if_neg (fun q => by have := hlt.mp q; unfold q_lt at this; omega)]
      have hb : B_X0_indexOf_20 (q_l (T x).1, q_l (T x).2.1, q_i lo, q_i hi, q_i t, g, z) = T_X0_indexOf_88 z (q_l (T x).1) (q_l (T x).2.1) (q_i lo) (q_i hi) (q_i t) (q_i m) := by
        simp only [B_X0_indexOf_20]
        rw [if_neg (by rw [show (128 : Int32) = q_i 128 from rfl, q_i_le (by decide) ⟨by omega, by omega⟩]; omega), if_neg (by rw [q_i_lt ⟨by omega, by omega⟩ ⟨by omega, by omega⟩]; omega), em, if_neg (by rw [q_i0, q_i_lt ⟨by omega, by omega⟩ (by decide)]; omega), if_pos (by rw [show (128 : Int32) = q_i 128 from rfl, q_i_lt ⟨by omega, by omega⟩ (by decide)]; omega), ei, if_pos (by omega), ec, e5]
        by_cases d1 : (T m).1 = (T x).1
        · rw [if_pos (ca.mpr d1), if_pos (by omega), e6, if_neg (fun q => c0 ⟨d1, cb.mp q⟩)]
        · rw [if_neg (fun q => d1 (ca.mp q))]
      rw [t88] at hb
      have hne : m ≠ x := fun e => c0 ⟨by rw [e], by rw [e]⟩
      by_cases c1 : m < x
      · rw [if_pos c1] at hb
        rw [q_lp_go hb]
        exact ih (m + 1) hi (t + 1) 0 (by omega) (by omega) (by omega) h4 (by omega)
      · rw [if_neg c1, show (m : Int) - 1 = ((m - 1 : Nat) : Int) by omega] at hb
        rw [q_lp_go hb]
        exact ih lo (m - 1) (t + 1) 0 (by omega) (by omega) (by omega) (by omega) (by omega)
theorem p_X0_indexOf {d R : Int} {n : Nat} {T : Nat → q_f3} {z : q_Z} {x : Nat} (hdc : q_dc d R) (hT : q_isT d R n T) (hn : n ≤ 128) (hA : q_CA n T z) (hx : x < n) : F_X0_indexOf z (q_l (T x).1) (q_l (T x).2.1) = some (q_i x, z) := by
  obtain ⟨w5, w6, w7, h⟩ := p_X0_indexLoop hdc hT hn hA hx n 0 (n - 1) 0 0 (by omega) (by omega) (by omega) (by omega) (by omega)
  have h := q_lp_mono h (show n ≤ q_fu by unfold q_fu; omega)
  unfold F_X0_indexOf
  rw [hA.1, show (128 : Int32) = q_i 128 from rfl, p_J9_min ⟨by omega, by omega⟩ (by decide), Option.bind_some]
  dsimp only
  rw [show min (n : Int) 128 = n by omega, q_i1, q_i_sub, show (n : Int) - 1 = ((n - 1 : Nat) : Int) by omega]
  have h : q_lp B_X0_indexOf_20 q_fu (q_l (T x).1, q_l (T x).2.1, 0, q_i ((n - 1 : Nat) : Int), 0, 0, z) = _ := h
  rw [h, Option.bind_some]
  rfl
/-! a ring is walked by two STEPS at a time -/
theorem q_its_sign {d R : Int} {f : q_f3} (hdc : q_dc d R) (hp : 0 < d) (hf : q_LF d R f) (ha : 0 < f.1) : ∀ n, (n % 2 = 0 → 0 < (q_its d R n f).1) ∧ (n % 2 = 1 → (q_its d R n f).1 < 0)
  | 0 => ⟨fun _ => ha, fun h => by omega⟩
  | n + 1 => by
    have h := q_its_sign hdc hp hf ha n
    have hl := q_LF_its hdc hp hf n
    have s := (q_st_lst hdc hp hl.1 hl.2.2).2
    have hne := (q_LF_its hdc hp hf (n + 1)).1.2.1
    rw [q_its_succ] at hne ⊢
    refine ⟨fun e => ?_, fun e => ?_⟩
    · have h1 := h.2 (by omega)
      omega
    · have h1 := h.1 (by omega)
      omega
theorem q_ring2 {d R : Int} {f : q_f3} (hdc : q_dc d R) (hp : 0 < d) (hf : q_LF d R f) : ∃ m, 0 < m ∧ q_its d R (2 * m) f = f ∧ ∀ k, 0 < k → k < m → q_its d R (2 * k) f ≠ f := by
  obtain ⟨t, t1, t2, t3, t4⟩ := q_ring hdc hp hf.1 hf.2.2
  obtain ⟨m, m1, m2⟩ := pk_least (fun m => 0 < m ∧ q_its d R (2 * m) f = f) ⟨t, t1, by rw [Nat.mul_comm]; exact q_its_mul t3 2⟩
  exact ⟨m, m1.1, m1.2, fun k k1 k2 e => m2 k k2 ⟨k1, e⟩⟩
theorem q_ring2_rg {d R : Int} {f g : q_f3} {m : Nat} (hdc : q_dc d R) (hp : 0 < d) (hf : q_LF d R f) (ha : 0 < f.1) (hg : 0 < g.1) (hm : 0 < m) (h1 : q_its d R (2 * m) f = f) : q_rg d R f g ↔ ∃ k, k < m ∧ q_its d R (2 * k) f = g := by
  refine ⟨fun h => ?_, fun h => ?_⟩
  · rcases h with ⟨a, _⟩ | ⟨_, n, hn⟩
    · omega
    · have hs := q_its_sign hdc hp hf ha n
      rw [hn] at hs
      have he : n % 2 = 0 := by
        rcases Nat.mod_two_eq_zero_or_one n with c | c
        · exact c
        · have := hs.2 c; omega
      refine ⟨(n / 2) % m, Nat.mod_lt _ hm, ?_⟩
      have e : n = 2 * m * (n / 2 / m) + 2 * ((n / 2) % m) := by
        have e1 := Nat.div_add_mod (n / 2) m
        have e2 : 2 * m * (n / 2 / m) = 2 * (m * (n / 2 / m)) := Nat.mul_assoc _ _ _
        omega
      rw [e, q_its_add, q_its_mul h1] at hn
      exact hn
  · obtain ⟨k, _, hk⟩ := h
    exact Or.inr ⟨hp, 2 * k, hk⟩
theorem q_ring2_n {d R : Int} {n : Nat} {T : Nat → q_f3} {f : q_f3} {m : Nat} (hdc : q_dc d R) (hp : 0 < d) (hT : q_isT d R n T) (hf : q_LF d R f) (ha : 0 < f.1) (h2 : ∀ k, 0 < k → k < m → q_its d R (2 * k) f ≠ f) : m ≤ n := by
  have pl : ∀ k, ∃ i, i < n ∧ T i = q_its d R (2 * k) f := fun k => hT.2.2 _ (q_LF_its hdc hp hf (2 * k)) ((q_its_sign hdc hp hf ha (2 * k)).1 (by omega))
  have := q_pg m (fun k => Classical.choose (pl k)) (List.range n) (fun i j hij hj e => ?_) (fun i hi => List.mem_range.mpr (Classical.choose_spec (pl i)).1)
  · rw [List.length_range] at this
    exact this
  · have e1 := (Classical.choose_spec (pl i)).2
    have e2 := (Classical.choose_spec (pl j)).2
    have e : Classical.choose (pl i) = Classical.choose (pl j) := e
    rw [e, e2, show 2 * j = 2 * (j - i) + 2 * i by omega, q_its_add] at e1
    have := q_its_inj hdc hp (2 * i) _ _ (q_F3_its hdc (2 * (j - i)) f hf.1) hf.1 (q_LF_its hdc hp hf (2 * (j - i))).2.2 hf.2.2 e1
    exact h2 (j - i) (by omega) (by omega) this
