/-! squares -/
def q_sqS (n : Int) (p : Int × Int) : Prop := 0 ≤ p.1 ∧ p.1 ≤ p.2 ∧ p.1 * p.1 + p.2 * p.2 = n
theorem q_sq_lt {x y : Int} (hx : 0 ≤ x) (h : x < y) : x * x < y * y := by
  have h1 : x * x ≤ x * y := Int.mul_le_mul_of_nonneg_left (by omega) hx
  have h2 : x * y < y * y := Int.mul_lt_mul_of_pos_right h (by omega)
  omega
theorem q_sq_mono {x y : Int} (hx : 0 ≤ x) (h : x ≤ y) : x * x ≤ y * y := Int.mul_le_mul h h hx (by omega)
/-- y goes down until the pair lies within -/
theorem p_X9_csDown {n x : Int} {z : q_Z} (f : Int32) (hx : 0 ≤ x) (hn : 0 ≤ n ∧ n ≤ 1000000000) (hx2 : x ≤ 31623) : ∀ (r : Nat) (y : Int), x ≤ y → y ≤ 31623 → y - x ≤ r → n < x * x + (y + 1) * (y + 1) → ∃ y2, q_lp B_X9_countSquares_25 (r + 1) (f, q_i y, q_i (x * x + y * y - n), q_i x, z) = some ((f, q_i y2, q_i (x * x + y2 * y2 - n), q_i x, z), 0) ∧ x ≤ y2 ∧ y2 ≤ y ∧ n < x * x + (y2 + 1) * (y2 + 1) ∧ (x * x + y2 * y2 ≤ n ∨ y2 = x) := by
  intro r
  induction r with
  | zero =>
    intro y h1 h2 h3 h4
    have e : y = x := by omega
    subst e
    have s1 := q_sq_nn y
    have s2 := q_sq_mono hx hx2
    refine ⟨y, q_lp_end ?_, Int.le_refl _, Int.le_refl _, h4, Or.inr rfl⟩
    simp only [B_X9_countSquares_25]
    by_cases c : y * y + y * y - n ≤ 0
    · rw [if_pos (by rw [q_i0, q_i_le ⟨by omega, by omega⟩ (by decide)]; exact c)]
    · rw [if_neg (by rw [q_i0, q_i_le ⟨by omega, by omega⟩ (by decide)]; exact c), if_pos ((q_i_le ⟨by omega, by omega⟩ ⟨by omega, by omega⟩).mpr (Int.le_refl _))]
  | succ r ih =>
    intro y h1 h2 h3 h4
    have s1 := q_sq_nn y
    have s2 := q_sq_mono hx hx2
    have s3 := q_sq_mono (show 0 ≤ y by omega) h2
    have s4 := q_sq_nn x
    by_cases c : x * x + y * y - n ≤ 0
    · refine ⟨y, q_lp_mono (q_lp_end (n := 0) ?_) (by omega), h1, Int.le_refl _, h4, Or.inl (by omega)⟩
      simp only [B_X9_countSquares_25]
      rw [if_pos (by rw [q_i0, q_i_le ⟨by omega, by omega⟩ (by decide)]; exact c)]
    · by_cases c2 : y ≤ x
      · have e : y = x := by omega
        refine ⟨y, q_lp_mono (q_lp_end (n := 0) ?_) (by omega), h1, Int.le_refl _, h4, Or.inr e⟩
        simp only [B_X9_countSquares_25]
        rw [if_neg (by rw [q_i0, q_i_le ⟨by omega, by omega⟩ (by decide)]; exact c), if_pos ((q_i_le ⟨by omega, by omega⟩ ⟨by omega, by omega⟩).mpr c2)]
      · have ey : x * x + (y - 1) * (y - 1) - n = x * x + y * y - n - (2 * y - 1) := by grind
        have hb : B_X9_countSquares_25 (f, q_i y, q_i (x * x + y * y - n), q_i x, z) = some ((f, q_i (y - 1), q_i (x * x + (y - 1) * (y - 1) - n), q_i x, z), 0) := by
          simp only [B_X9_countSquares_25]
          rw [if_neg (by rw [q_i0, q_i_le ⟨by omega, by omega⟩ (by decide)]; exact c), if_neg (by rw [q_i_le ⟨by omega, by omega⟩ ⟨by omega, by omega⟩]; exact c2), show (-1 : Int32) = q_i (-1) from rfl, q_i_add, show (2 : Int32) = q_i 2 from rfl, q_i1, q_i_mul, q_i_sub, q_i_sub, ey]
          rfl
        obtain ⟨y2, g1, g2, g3, g4, g5⟩ := ih (y - 1) (by omega) (by omega) (by omega) (by rw [Int.sub_add_cancel]; omega)
        exact ⟨y2, by rw [q_lp_go hb]; exact g1, g2, by omega, g4, g5⟩
/-- what holds while x goes up -/
def q_sqI (n x : Int) (m : Nat) (e : Nat → Int × Int) : Prop := q_inc m e ∧ (∀ i, i < m → q_sqS n (e i) ∧ (e i).1 < x) ∧ ∀ p, q_sqS n p → p.1 < x → ∃ i, i < m ∧ e i = p
theorem p_X9_csLoop {n : Int} (hn : 0 ≤ n ∧ n ≤ 1000000000) : ∀ (r : Nat) (x y : Int) (m : Nat) (e : Nat → Int × Int) (z : q_Z), 0 ≤ x → 0 ≤ y → y ≤ 31622 → x ≤ y + 1 → y + 1 - x ≤ r → n < x * x + (y + 1) * (y + 1) → (m : Int) ≤ x → q_sqI n x m e → q_Or m e z → ∃ (m2 : Nat) (e2 : Nat → Int × Int) (I2 : Nat → Nat → Int32) (w1 w2 w3 : Int32), q_lp B_X9_countSquares_19 (r + 1) (q_i m, q_i y, q_i (x * x + y * y - n), q_i x, z) = some ((q_i m2, w1, w2, w3, (I2, z.2)), 0) ∧ q_enu (q_sqS n) m2 e2 ∧ q_Or m2 e2 (I2, z.2) ∧ (∀ k, k ≠ 122 → k ≠ 123 → k ≠ 124 → I2 k = z.1 k) ∧ m2 ≤ 40000 := by
  intro r
  have fin : ∀ (x y : Int) (m : Nat) (e : Nat → Int × Int) (z : q_Z), 0 ≤ x → 0 ≤ y → y ≤ 31622 → y < x → x ≤ y + 1 → n < x * x + (y + 1) * (y + 1) → (m : Int) ≤ x → q_sqI n x m e → q_enu (q_sqS n) m e ∧ B_X9_countSquares_19 (q_i m, q_i y, q_i (x * x + y * y - n), q_i x, z) = some ((q_i m, q_i y, q_i (x * x + y * y - n), q_i x, z), 1) := by
    intro x y m e z h0 hy0 hy h1 h1b h2 h3 hI
    refine ⟨⟨hI.1, fun i hi => (hI.2.1 i hi).1, fun p hp => ?_⟩, ?_⟩
    · rcases Int.lt_or_le p.1 x with c | c
      · exact hI.2.2 p hp c
      · exfalso
        obtain ⟨p1, p2, p3⟩ := hp
        have a1 := q_sq_mono h0 c
        have a2 := q_sq_mono (show 0 ≤ y + 1 by omega) (show y + 1 ≤ p.2 by omega)
        omega
    · simp only [B_X9_countSquares_19]
      rw [if_pos (by rw [q_i_lt ⟨by omega, by omega⟩ ⟨by omega, by omega⟩]; exact h1)]
  induction r with
  | zero =>
    intro x y m e z h0 hy0 hy h1 h2 h3 hm hI hO
    obtain ⟨f1, f2⟩ := fin x y m e z h0 hy0 hy (by omega) h1 h3 hm hI
    exact ⟨m, e, z.1, _, _, _, q_lp_end f2, f1, hO, fun _ _ _ _ => rfl, by omega⟩
  | succ r ih =>
    intro x y m e z h0 hy0 hy h1 h2 h3 hm hI hO
    by_cases c : y < x
    · obtain ⟨f1, f2⟩ := fin x y m e z h0 hy0 hy c h1 h3 hm hI
      exact ⟨m, e, z.1, _, _, _, q_lp_mono (q_lp_end (n := 0) f2) (by omega), f1, hO, fun _ _ _ _ => rfl, by omega⟩
    · obtain ⟨y2, d1, d2, d3, d4, d5⟩ := p_X9_csDown (z := z) (q_i m) h0 hn (by omega) 40000 y (by omega) (by omega) (by omega) h3
      have d1 := q_lp_mono d1 (show 40000 + 1 ≤ q_fu by decide)
      have s1 := q_sq_nn y2
      have s2 := q_sq_mono h0 (show x ≤ 31622 by omega)
      have s3 := q_sq_mono (show 0 ≤ y2 by omega) (show y2 ≤ 31622 by omega)
      have s4 := q_sq_nn x
      have ex : (x + 1) * (x + 1) + y2 * y2 - n = x * x + y2 * y2 - n + (2 * x + 1) := by grind
      have t70 : ∀ (z' : q_Z) (f : Int32), T_X9_countSquares_70 z' f (q_i y2) (q_i (x * x + y2 * y2 - n)) (q_i x) = some ((f, q_i y2, q_i ((x + 1) * (x + 1) + y2 * y2 - n), q_i (x + 1), z'), 0) := by
        intro z' f
        unfold T_X9_countSquares_70
        rw [show (2 : Int32) = q_i 2 from rfl, q_i1, q_i_mul, q_i_add, q_i_add, q_i_add, ex]
      have sol : ∀ p, q_sqS n p → p.1 = x → p.2 = y2 ∧ x * x + y2 * y2 = n := by
        intro p hp hpx
        obtain ⟨p1, p2, p3⟩ := hp
        rw [hpx] at p2 p3
        have a1 : p.2 ≤ y2 := by
          rcases Int.lt_or_le y2 p.2 with q | q
          · have := q_sq_mono (show 0 ≤ y2 + 1 by omega) (show y2 + 1 ≤ p.2 by omega)
            omega
          · exact q
        rcases d5 with d5 | d5
        · rcases Int.lt_or_le p.2 y2 with q | q
          · have := q_sq_lt (by omega) q
            omega
          · have : p.2 = y2 := by omega
            rw [this] at p3
            exact ⟨this, p3⟩
        · have : p.2 = y2 := by omega
          rw [this] at p3
          exact ⟨this, p3⟩
      have h3' : n < (x + 1) * (x + 1) + (y2 + 1) * (y2 + 1) := by
        have := q_sq_lt h0 (show x < x + 1 by omega)
        omega
      by_cases c2 : x * x + y2 * y2 - n = 0
      · have hp : q_sqS n (x, y2) := ⟨h0, d2, by show x * x + y2 * y2 = n; omega⟩
        obtain ⟨e2, I2, i1, i2, i3, i4, i5⟩ := p_X4_insert (p := (x, y2)) hI.1 hO ⟨⟨by show -2147483648 ≤ x; omega, by show x < 2147483648; omega⟩, ⟨by show -2147483648 ≤ y2; omega, by show y2 < 2147483648; omega⟩⟩ (fun i hi => by
            obtain ⟨⟨q1, q2, q3⟩, q4⟩ := hI.2.1 i hi
            have a1 : (e i).2 ≤ 31623 := by
              rcases Int.lt_or_le 31623 (e i).2 with q | q
              · have := q_sq_mono (show (0 : Int) ≤ 31624 by decide) (show 31624 ≤ (e i).2 by omega)
                have := q_sq_nn (e i).1
                omega
              · exact q
            exact ⟨⟨by omega, by omega⟩, ⟨by omega, by omega⟩⟩) (fun i hi q => by have := (hI.2.1 i hi).2; rw [q] at this; exact absurd this (by show ¬ x < x; omega))
        have i1 : F_X4_insert z (q_i x) (q_i y2) = some ((), (I2, z.2)) := i1
        have hb : B_X9_countSquares_19 (q_i m, q_i y, q_i (x * x + y * y - n), q_i x, z) = some ((q_i ((m + 1 : Nat) : Int), q_i y2, q_i ((x + 1) * (x + 1) + y2 * y2 - n), q_i (x + 1), (I2, z.2)), 0) := by
          simp only [B_X9_countSquares_19]
          rw [if_neg (by rw [q_i_lt ⟨by omega, by omega⟩ ⟨by omega, by omega⟩]; exact c), d1, Option.bind_some]
          dsimp only
          rw [if_pos rfl]
          unfold T_X9_countSquares_52
          rw [if_pos (by rw [c2]; rfl), i1, Option.bind_some]
          dsimp only
          rw [q_i1, q_i_add, t70]
          rfl
        have hI2 : q_sqI n (x + 1) (m + 1) e2 := by
          refine ⟨i2, fun i hi => ?_, fun p hp hpx => ?_⟩
          · rcases (i3 (e2 i)).mp ⟨i, hi, rfl⟩ with q | ⟨k, k1, k2⟩
            · rw [q]
              exact ⟨hp, by show x < x + 1; omega⟩
            · rw [← k2]
              exact ⟨(hI.2.1 k k1).1, by have := (hI.2.1 k k1).2; omega⟩
          · refine (i3 p).mpr ?_
            rcases Int.lt_or_le p.1 x with q | q
            · exact Or.inr (hI.2.2 p hp q)
            · have hpe : p.1 = x := by omega
              exact Or.inl (Prod.ext hpe (sol p hp hpe).1)
        obtain ⟨m2, e3, I3, w1, w2, w3, g1, g2, g3, g4, g5⟩ := ih (x + 1) y2 (m + 1) e2 (I2, z.2) (by omega) (by omega) (by omega) (by omega) (by omega) h3' (by omega) hI2 i4
        exact ⟨m2, e3, I3, w1, w2, w3, by rw [q_lp_go hb]; exact g1, g2, g3, fun k a b c => (g4 k a b c).trans (i5 k a b c), g5⟩
      · have hb : B_X9_countSquares_19 (q_i m, q_i y, q_i (x * x + y * y - n), q_i x, z) = some ((q_i m, q_i y2, q_i ((x + 1) * (x + 1) + y2 * y2 - n), q_i (x + 1), z), 0) := by
          simp only [B_X9_countSquares_19]
          rw [if_neg (by rw [q_i_lt ⟨by omega, by omega⟩ ⟨by omega, by omega⟩]; exact c), d1, Option.bind_some]
          dsimp only
          rw [if_pos rfl]
          unfold T_X9_countSquares_52
          rw [if_neg (by rw [q_i0, q_i_eq ⟨by omega, by omega⟩ (by decide)]; exact c2), t70]
        have hI2 : q_sqI n (x + 1) m e := by
          refine ⟨hI.1, fun i hi => ⟨(hI.2.1 i hi).1, by have := (hI.2.1 i hi).2; omega⟩, fun p hp hpx => ?_⟩
          rcases Int.lt_or_le p.1 x with q | q
          · exact hI.2.2 p hp q
          · have := (sol p hp (by omega)).2
            omega
        obtain ⟨m2, e3, I3, w1, w2, w3, g1, g2, g3, g4, g5⟩ := ih (x + 1) y2 m e z (by omega) (by omega) (by omega) (by omega) (by omega) h3' (by omega) hI2 hO
        exact ⟨m2, e3, I3, w1, w2, w3, by rw [q_lp_go hb]; exact g1, g2, g3, g4, g5⟩
/-! the reference -/
def q_Om (m : Nat) (e : Nat → Int × Int) (z : q_Z) : Prop := ∀ i, i < min m 200 → z.1 132 i = q_i (e i).1 ∧ z.1 133 i = q_i (e i).2
def q_ap2 (e : Nat → Int × Int) (m : Nat) (p : Int × Int) : Nat → Int × Int := fun i => if i = m then p else e i
theorem p_X10_put {m : Nat} {e : Nat → Int × Int} {z : q_Z} {x y : Int} (hm : m < 2000000000) (hO : q_Om m e z) : ∃ I2, F_X10_put z (q_i m) (q_l x) (q_l y) = some ((), (I2, z.2)) ∧ q_Om (m + 1) (q_ap2 e m (x, y)) (I2, z.2) ∧ ∀ k, k ≠ 132 → k ≠ 133 → I2 k = z.1 k := by
  unfold F_X10_put
  by_cases c : m < 200
  · refine ⟨q_u2 (q_u2 z.1 132 m (q_i x)) 133 m (q_i y), ?_, ?_, fun k a b => by rw [q_u2_ne b, q_u2_ne a]⟩
    · rw [if_pos (by rw [show (200 : Int32) = q_i 200 from rfl, q_i_lt ⟨by omega, by omega⟩ (by decide)]; omega), q_i_toInt ⟨by omega, by omega⟩, if_pos (by omega), q_clamp ⟨by omega, by omega⟩, show ((m : Int)).toNat = m by omega, q_i_l, q_i_l]
    · intro i hi
      show q_u2 (q_u2 z.1 132 m (q_i x)) 133 m (q_i y) 132 i = _ ∧ q_u2 (q_u2 z.1 132 m (q_i x)) 133 m (q_i y) 133 i = _
      rw [q_u2_ne (show 132 ≠ 133 by decide), q_u2_at, q_u2_at, q_u2_ne (show 133 ≠ 132 by decide)]
      unfold q_ap2
      by_cases d : i = m
      · rw [if_pos d, if_pos d, if_pos d]
        exact ⟨rfl, rfl⟩
      · rw [if_neg d, if_neg d, if_neg d]
        exact hO i (by omega)
  · refine ⟨z.1, ?_, ?_, fun _ _ _ => rfl⟩
    · rw [if_neg (by rw [show (200 : Int32) = q_i 200 from rfl, q_i_lt ⟨by omega, by omega⟩ (by decide)]; omega)]
    · intro i hi
      unfold q_ap2
      rw [if_neg (by omega)]
      exact hO i (by omega)
theorem p_X10_sqLoop {n : Int} (hn : 0 ≤ n ∧ n ≤ 1000000000) : ∀ (r : Nat) (x : Int) (m : Nat) (e : Nat → Int × Int) (z : q_Z), 0 ≤ x → x + r = 31623 → (m : Int) ≤ x → q_sqI n x m e → q_Om m e z → ∃ (m2 : Nat) (e2 : Nat → Int × Int) (I2 : Nat → Nat → Int32) (w : Int64), q_lp B_X10_squares_33 (r + 1) (q_i n, q_i m, q_l x, z) = some ((q_i n, q_i m2, w, (I2, z.2)), 0) ∧ q_enu (q_sqS n) m2 e2 ∧ q_Om m2 e2 (I2, z.2) ∧ (∀ k, k ≠ 132 → k ≠ 133 → I2 k = z.1 k) ∧ m2 ≤ 40000 := by
  have fin : ∀ (x : Int) (m : Nat) (e : Nat → Int × Int) (z : q_Z), 0 ≤ x → x ≤ 31623 → n < 2 * x * x → q_sqI n x m e → q_enu (q_sqS n) m e ∧ B_X10_squares_33 (q_i n, q_i m, q_l x, z) = some ((q_i n, q_i m, q_l x, z), 1) := by
    intro x m e z h0 h1 h2 hI
    have s2 := q_sq_mono h0 h1
    have ee : 2 * x * x = 2 * (x * x) := Int.mul_assoc _ _ _
    refine ⟨⟨hI.1, fun i hi => (hI.2.1 i hi).1, fun p hp => ?_⟩, ?_⟩
    · rcases Int.lt_or_le p.1 x with c | c
      · exact hI.2.2 p hp c
      · exfalso
        obtain ⟨p1, p2, p3⟩ := hp
        have a1 := q_sq_mono h0 c
        have a2 := q_sq_mono h0 (show x ≤ p.2 by omega)
        omega
    · simp only [B_X10_squares_33]
      rw [if_pos (by rw [q_l_i ⟨by omega, by omega⟩, q_l2, q_l_mul, q_l_mul, q_l_lt ⟨by omega, by omega⟩ ⟨by omega, by omega⟩]; exact h2)]
  intro r
  induction r with
  | zero =>
    intro x m e z h0 h1 hm hI hO
    have s2 := q_sq_mono (show (0 : Int) ≤ 31623 by decide) (show (31623 : Int) ≤ x by omega)
    have ee : 2 * x * x = 2 * (x * x) := Int.mul_assoc _ _ _
    obtain ⟨f1, f2⟩ := fin x m e z h0 (by omega) (by omega) hI
    exact ⟨m, e, z.1, _, q_lp_end f2, f1, hO, fun _ _ _ => rfl, by omega⟩
  | succ r ih =>
    intro x m e z h0 h1 hm hI hO
    have ee : 2 * x * x = 2 * (x * x) := Int.mul_assoc _ _ _
    by_cases c : n < 2 * x * x
    · obtain ⟨f1, f2⟩ := fin x m e z h0 (by omega) c hI
      exact ⟨m, e, z.1, _, q_lp_mono (q_lp_end (n := 0) f2) (by omega), f1, hO, fun _ _ _ => rfl, by omega⟩
    · have s2 := q_sq_nn x
      obtain ⟨y, y1, y2, y3, y4, y5⟩ := p_X10_root0 (z := z) (n := n - x * x) (by omega) ⟨by omega, by omega⟩
      have hxy : x ≤ y := by
        rcases Int.lt_or_le y x with q | q
        · have := q_sq_mono (show 0 ≤ y + 1 by omega) (show y + 1 ≤ x by omega)
          omega
        · exact q
      have hyb : y ≤ 31623 := by
        rcases Int.lt_or_le 31623 y with q | q
        · have := q_sq_mono (show (0 : Int) ≤ 31624 by decide) (show 31624 ≤ y by omega)
          omega
        · exact q
      have yy := q_sq_nn y
      have sol : ∀ p, q_sqS n p → p.1 = x → p.2 = y ∧ y * y = n - x * x := by
        intro p hp hpx
        obtain ⟨p1, p2, p3⟩ := hp
        rw [hpx] at p2 p3
        have e1 : p.2 = y := q_sqrt_uni (n := n - x * x) (by omega) y1 (by omega) (by have := q_sq_lt (show 0 ≤ p.2 by omega) (show p.2 < p.2 + 1 by omega); omega) y3 y4
        rw [e1] at p3
        exact ⟨e1, by omega⟩
      have pre : ∀ o, (if (q_l y * q_l y) = q_l (n - x * x) then (F_X10_put z (q_i m) (q_l x) (q_l y)).bind fun (_, z6) => T_X10_squares_87 z6 (q_i n) (q_i m + 1) (q_l x) else T_X10_squares_87 z (q_i n) (q_i m) (q_l x)) = o → B_X10_squares_33 (q_i n, q_i m, q_l x, z) = o := by
        intro o ho
        simp only [B_X10_squares_33]
        rw [if_neg (by rw [q_l_i ⟨by omega, by omega⟩, q_l2, q_l_mul, q_l_mul, q_l_lt ⟨by omega, by omega⟩ ⟨by omega, by omega⟩]; exact c), q_l_i ⟨by omega, by omega⟩, q_l_mul, q_l_sub, y5, Option.bind_some]
        exact ho
      by_cases c2 : y * y = n - x * x
      · have hp : q_sqS n (x, y) := ⟨h0, hxy, by show x * x + y * y = n; omega⟩
        obtain ⟨I2, i1, i2, i3⟩ := p_X10_put (x := x) (y := y) (by omega) hO
        have hb := pre (some ((q_i n, q_i ((m + 1 : Nat) : Int), q_l (x + 1), (I2, z.2)), 0)) (by
          rw [if_pos (by rw [q_l_mul, c2]), i1, Option.bind_some]
          unfold T_X10_squares_87
          rw [q_i1, q_i_add, q_l1, q_l_add]
          rfl)
        obtain ⟨m2, e3, I3, w, g1, g2, g3, g4, g5⟩ := ih (x + 1) (m + 1) (q_ap2 e m (x, y)) (I2, z.2) (by omega) (by omega) (by omega) (by
          refine ⟨?_, fun i hi => ?_, fun p hp2 hpx => ?_⟩
          · intro i j hij hj
            unfold q_ap2
            by_cases d : j = m
            · rw [if_pos d, if_neg (by omega)]
              exact Or.inl (hI.2.1 i (by omega)).2
            · rw [if_neg d, if_neg (by omega)]
              exact hI.1 i j hij (by omega)
          · unfold q_ap2
            by_cases d : i = m
            · rw [if_pos d]
              exact ⟨hp, by show x < x + 1; omega⟩
            · rw [if_neg d]
              exact ⟨(hI.2.1 i (by omega)).1, by have := (hI.2.1 i (by omega)).2; omega⟩
          · rcases Int.lt_or_le p.1 x with q | q
            · obtain ⟨i, k1, k2⟩ := hI.2.2 p hp2 q
              refine ⟨i, by omega, ?_⟩
              unfold q_ap2
              rw [if_neg (by omega)]
              exact k2
            · refine ⟨m, by omega, ?_⟩
              unfold q_ap2
              rw [if_pos rfl]
              have hpe : p.1 = x := by omega
              exact (Prod.ext hpe (sol p hp2 hpe).1).symm) i2
        exact ⟨m2, e3, I3, w, by rw [q_lp_go hb]; exact g1, g2, g3, fun k a b => (g4 k a b).trans (i3 k a b), g5⟩
      · have hb := pre (some ((q_i n, q_i m, q_l (x + 1), z), 0)) (by
          rw [if_neg (by rw [q_l_mul, q_l_eq ⟨by omega, by omega⟩ ⟨by omega, by omega⟩]; exact c2)]
          unfold T_X10_squares_87
          rw [q_l1, q_l_add])
        obtain ⟨m2, e3, I3, w, g1, g2, g3, g4, g5⟩ := ih (x + 1) m e z (by omega) (by omega) (by omega) ⟨hI.1, fun i hi => ⟨(hI.2.1 i hi).1, by have := (hI.2.1 i hi).2; omega⟩, fun p hp hpx => by
          rcases Int.lt_or_le p.1 x with q | q
          · exact hI.2.2 p hp q
          · exact absurd (sol p hp (by omega)).2 c2⟩ hO
        exact ⟨m2, e3, I3, w, by rw [q_lp_go hb]; exact g1, g2, g3, g4, g5⟩
/-- the state behind: OUT anew -/
def q_s_out (s : q_SS) (m : Nat) (e : Nat → Int × Int) : q_SS := ((s.1.1, s.1.2.1, 0), s.2.1, s.2.2.1, s.2.2.2.1, (min m 200, fun i => (q_i (e i).1, q_i (e i).2)))
theorem q_V_out {s : q_SS} (hv : q_V s) (m : Nat) (e : Nat → Int × Int) : q_V (q_s_out s m e) := ⟨hv.1, hv.2.1, hv.2.2.1, hv.2.2.2.1, by show min m 200 ≤ 200; omega, hv.2.2.2.2.2.1, hv.2.2.2.2.2.2.1, hv.2.2.2.2.2.2.2⟩
theorem q_C_out {s : q_SS} {z z2 : q_Z} {m m2 : Nat} {e e2 : Nat → Int × Int} (hv : q_V s) (hz : q_C s z) (hO : q_Or m2 e2 z2) (hm : m2 = m) (he : ∀ i, i < m → e2 i = e i) (h1 : ∀ k, k ≠ 1 → k ≠ 122 → k ≠ 123 → k ≠ 124 → z2.1 k = z.1 k) (h2 : ∀ k, k ≠ 126 → k ≠ 127 → z2.2 k = z.2 k) (h0 : z2.1 1 9 = 0) : q_C (q_s_out s m e) z2 ∧ q_fC z z2 := by
  obtain ⟨c1, c2, c3, c4, c5, c6, c7⟩ := hz
  subst hm
  refine ⟨⟨q_Cg_fr c1 (h1 4 (by decide) (by decide) (by decide) (by decide)), h0, q_Cs_fr c3 hv.2.2.1 (congrFun (h1 17 (by decide) (by decide) (by decide) (by decide)) 3) (fun i hi => h2 _ (by omega) (by omega)), q_Cl_fr c4 (congrFun (h1 17 (by decide) (by decide) (by decide) (by decide)) 4) (congrFun (h1 17 (by decide) (by decide) (by decide) (by decide)) 5) (h1 120 (by decide) (by decide) (by decide) (by decide)) (fun i hi => h2 _ (by omega) (by omega)), q_Cw_fr c5 (h2 121 (by decide) (by decide)), ⟨hO.1, fun i hi => ?_⟩, q_Ctab_fr c7 (fun n a b c => h1 n b (by omega) (by omega) (by omega))⟩, fun n hn => ⟨h1 n (by omega) (by omega) (by omega) (by omega), h2 n (by omega) (by omega)⟩⟩
  have hi : i < min m2 200 := hi
  show z2.1 123 i = q_i (e i).1 ∧ z2.1 124 i = q_i (e i).2
  rw [← he i (by omega)]
  exact hO.2 i hi
theorem q_M_out {s : q_SS} {z z2 : q_Z} {m m2 : Nat} {e e2 : Nat → Int × Int} (hz : q_M s z) (hO : q_Om m2 e2 z2) (h11 : z2.1 128 11 = q_i ((min m2 200 : Nat) : Int)) (hm : m2 = m) (he : ∀ i, i < m → e2 i = e i) (h1 : ∀ k, k ≠ 128 → k ≠ 132 → k ≠ 133 → z2.1 k = z.1 k) (h8 : ∀ k, k ≠ 2 → k ≠ 3 → k ≠ 11 → z2.1 128 k = z.1 128 k) (h2 : ∀ k, k ≠ 128 → z2.2 k = z.2 k) (h0 : z2.1 128 2 = 0) : q_M (q_s_out s m e) z2 ∧ q_fM z z2 := by
  obtain ⟨c1, c2, c3, c4, c5, c6, c7⟩ := hz
  subst hm
  refine ⟨⟨q_Mg_fr c1 (h8 0 (by decide) (by decide) (by decide)) (h8 1 (by decide) (by decide) (by decide)), h0, q_Ms_fr c3 (h8 6 (by decide) (by decide) (by decide)) (h2 129 (by decide)), q_Ml_fr c4 (h8 7 (by decide) (by decide) (by decide)) (h2 130 (by decide)), q_Mw_fr c5 (h2 131 (by decide)), ⟨h11, fun i hi => ?_⟩, q_Mtab_fr c7 (h8 22 (by decide) (by decide) (by decide)) (h8 23 (by decide) (by decide) (by decide)) (fun n a b => h1 n (by omega) (by omega) (by omega))⟩, fun n hn => ⟨h1 n (by omega) (by omega) (by omega), h2 n (by omega)⟩⟩
  have hi : i < min m2 200 := hi
  show z2.1 132 i = q_i (e i).1 ∧ z2.1 133 i = q_i (e i).2
  rw [← he i (by omega)]
  exact hO i hi
theorem k_squares {s : q_SS} (hv : q_V s) (l1 : Int32) : q_cok (fun z => F_X9_squares z l1) (fun z => F_X10_squares z l1) s := by
  obtain ⟨n, hn, rfl⟩ := q_i_of l1
  have hin : ∀ z : q_Z, F_X10_in z (Int32.toInt64 (q_i n)) 0 1000000000 = some (if 0 ≤ n ∧ n ≤ 1000000000 then 1 else 0, z) := fun z => p_in_i (z := z) (a := 0) (c := 1000000000) hn (by decide) (by decide)
  have kn : (q_i n < (0 : Int32) ↔ n < 0) := q_i_lt (y := 0) hn (by decide)
  have kp : (q_i n ≤ (1000000000 : Int32) ↔ n ≤ 1000000000) := q_i_le (y := 1000000000) hn (by decide)
  by_cases c : 0 ≤ n ∧ n ≤ 1000000000
  · have I0 : q_sqI n 0 0 (fun _ => (0, 0)) := ⟨fun i j _ h => absurd h (Nat.not_lt_zero j), fun i h => absurd h (Nat.not_lt_zero i), fun p hp h => by have := hp.1; omega⟩
    have ref : ∀ z : q_Z, ∃ (m2 : Nat) (e2 : Nat → Int × Int) (I2 : Nat → Nat → Int32) (w : Int64), q_lp B_X10_squares_33 q_fu (q_i n, 0, 0, z) = some ((q_i n, q_i m2, w, (I2, z.2)), 0) ∧ q_enu (q_sqS n) m2 e2 ∧ q_Om m2 e2 (I2, z.2) ∧ (∀ k, k ≠ 132 → k ≠ 133 → I2 k = z.1 k) ∧ m2 ≤ 40000 := by
      intro z
      obtain ⟨m2, e2, I2, w, g1, g2⟩ := p_X10_sqLoop c 31623 0 0 (fun _ => (0, 0)) z (by omega) (by omega) (by omega) I0 (fun i h => by omega)
      exact ⟨m2, e2, I2, w, q_lp_mono g1 (by decide), g2⟩
    obtain ⟨m, e, -, -, -, hE, -, -, hm4⟩ := ref (fun _ _ => 0, fun _ _ => 0)
    refine ⟨q_i m, q_s_out s m e, q_V_out hv m e, fun z hz => ?_, fun z hz => ?_⟩
    · obtain ⟨y, y1, y2, y3, y4, y5⟩ := p_X7_rootOf (z := (q_u2 z.1 122 2 0, z.2)) (n := n) (by omega) (by omega)
      have hyb : y ≤ 31622 := by
        rcases Int.lt_or_le 31622 y with q | q
        · have := q_sq_mono (show (0 : Int) ≤ 31623 by decide) (show 31623 ≤ y by omega)
          omega
        · exact q
      obtain ⟨m2, e2, I2, w1, w2, w3, g1, g2, g3, g4, g5⟩ := p_X9_csLoop c 31623 0 y 0 (fun _ => (0, 0)) (q_u2 z.1 122 2 0, z.2) (by omega) y1 hyb (by omega) (by omega) (by omega) (by omega) I0 ⟨rfl, fun i h => by omega⟩
      obtain ⟨u1, u2⟩ := q_enu_uni g2 hE
      have k := q_C_out (z2 := (q_u2 I2 1 9 0, z.2)) (m := m) (e := e) (m2 := m2) (e2 := e2) hv hz ⟨(congrFun (show q_u2 I2 1 9 0 122 = I2 122 from q_u2_ne (by decide)) 2).trans g3.1, fun i hi => by
          show q_u2 I2 1 9 0 123 i = _ ∧ q_u2 I2 1 9 0 124 i = _
          rw [q_u2_ne (by decide), q_u2_ne (by decide)]
          exact g3.2 i hi⟩ u1 (fun i hi => u2 i (by omega)) (fun k a b c d => by
          show q_u2 I2 1 9 0 k = _
          rw [q_u2_ne a, g4 k b c d]
          exact q_u2_ne b) (fun _ _ _ => rfl) rfl
      refine ⟨_, ?_, k.1, k.2⟩
      show F_X9_squares z (q_i n) = _
      have g1 := q_lp_mono g1 (show 31623 + 1 ≤ q_fu by decide)
      rw [show (0 : Int) * 0 + y * y - n = y * y - n by omega] at g1
      have g1 : q_lp B_X9_countSquares_19 q_fu (0, q_i y, q_i (y * y - n), 0, (q_u2 z.1 122 2 0, z.2)) = _ := g1
      unfold F_X9_squares F_X4_clear
      rw [if_neg (fun q => by have := kn.mp q; omega), if_pos (kp.mpr c.2), Option.bind_some]
      dsimp only
      unfold F_X9_countSquares
      rw [q_l_i hn, y5, Option.bind_some]
      dsimp only
      rw [q_i_l, q_i_mul, q_i_sub, g1, Option.bind_some]
      dsimp only
      rw [if_pos rfl, Option.bind_some, u1]
      rfl
    · obtain ⟨m2, e2, I2, w, g1, g2, g3, g4, g5⟩ := ref (q_u2 (q_u2 z.1 128 3 0) 128 2 0, z.2)
      obtain ⟨u1, u2⟩ := q_enu_uni g2 hE
      have k := q_M_out (z2 := (q_u2 I2 128 11 (q_i ((min m2 200 : Nat) : Int)), z.2)) (m := m) (e := e) (m2 := m2) (e2 := e2) hz (fun i hi => by
          show q_u2 I2 128 11 (q_i ((min m2 200 : Nat) : Int)) 132 i = _ ∧ q_u2 I2 128 11 (q_i ((min m2 200 : Nat) : Int)) 133 i = _
          rw [q_u2_ne (by decide), q_u2_ne (by decide)]
          exact g3 i hi) rfl u1 (fun i hi => u2 i (by omega)) (fun k a b c => by
          show q_u2 I2 128 11 (q_i ((min m2 200 : Nat) : Int)) k = _
          rw [q_u2_ne a, g4 k b c]
          show q_u2 (q_u2 z.1 128 3 0) 128 2 0 k = _
          rw [q_u2_ne a, q_u2_ne a]) (fun k a b c => by
          show q_u2 I2 128 11 (q_i ((min m2 200 : Nat) : Int)) 128 k = _
          rw [q_u2_at, if_neg c, g4 128 (by decide) (by decide)]
          show q_u2 (q_u2 z.1 128 3 0) 128 2 0 128 k = _
          rw [q_u2_at, if_neg a, q_u2_at, if_neg b]) (fun _ _ => rfl) (by
          show q_u2 I2 128 11 (q_i ((min m2 200 : Nat) : Int)) 128 2 = _
          rw [q_u2_at, if_neg (by decide), g4 128 (by decide) (by decide)]
          rfl)
      refine ⟨_, ?_, k.1, k.2⟩
      show F_X10_squares z (q_i n) = _
      unfold F_X10_squares T_X10_squares_109
      rw [hin, Option.bind_some, if_pos c]
      dsimp only
      rw [if_neg (by decide), g1, Option.bind_some]
      dsimp only
      rw [if_pos rfl]
      by_cases d : 200 ≤ m2
      · rw [if_pos (by rw [show (200 : Int32) = q_i 200 from rfl, q_i_le (by decide) ⟨by omega, by omega⟩]; omega), show min m2 200 = 200 by omega, u1]
        rfl
      · rw [if_neg (by rw [show (200 : Int32) = q_i 200 from rfl, q_i_le (by decide) ⟨by omega, by omega⟩]; omega), show min m2 200 = m2 by omega, u1]
  · refine q_cok_t hv (-1) 1 (fun z hz => ⟨(q_u2 z.1 1 9 1, z.2), ?_, q_CW_t 1 (q_CW_rfl z), rfl⟩) (fun z hz => ⟨(q_u2 (q_u2 z.1 128 3 0) 128 2 1, z.2), ?_, q_MW_t (z2 := (q_u2 z.1 128 3 0, z.2)) 1 (by decide) (q_MW_t (z2 := z) 0 (by decide) (q_MW_rfl z)), rfl⟩)
    · show F_X9_squares z (q_i n) = _
      unfold F_X9_squares
      by_cases d : n < 0
      · rw [if_pos (kn.mpr d)]
        rfl
      · rw [if_neg (fun q => d (kn.mp q)), if_neg (fun q => by have := kp.mp q; omega)]
        rfl
    · show F_X10_squares z (q_i n) = _
      unfold F_X10_squares
      rw [hin, Option.bind_some, if_neg c]
      rfl
