theorem q_m_small {a m x : Int} (ha : 0 < a) (h : 2 * a * m = x) (h1 : -(2 * a) ≤ x) (h2 : x ≤ 2 * a) : m = -1 ∨ m = 0 ∨ m = 1 := by
  rcases Int.lt_or_le 1 m with q | q
  · have : (2 * a) * 2 ≤ (2 * a) * m := Int.mul_le_mul_of_nonneg_left (by omega) (by omega)
    omega
  · rcases Int.lt_or_le m (-1) with q2 | q2
    · have : (2 * a) * m ≤ (2 * a) * (-2) := Int.mul_le_mul_of_nonneg_left (by omega) (by omega)
      omega
    · omega
theorem q_c_of {a c c2 x : Int} (ha : 0 < a) (h1 : x = 4 * a * c) (h2 : x = 4 * a * c2) : c2 = c := by
  have h3 : (4 * a) * c2 = (4 * a) * c := by omega
  exact Int.eq_of_mul_eq_mul_left (by omega) h3
/-- D below 0: LEAST forms of one CLASS are one -/
theorem q_uniq {d R : Int} (hn : d < 0) {f g : q_f3} (hf : q_F3 d f) (hg : q_F3 d g) (lf : q_L3 d R f = true) (lg : q_L3 d R g = true) (h : q_led f g) : f = g := by
  have hle := h
  obtain ⟨a, b, c⟩ := f
  obtain ⟨a2, b2, c2⟩ := g
  have hf : q_fm d a b c := hf
  have hg : q_fm d a2 b2 c2 := hg
  obtain ⟨f1, f2, f3⟩ := q_lst_n hn lf
  obtain ⟨g1, g2, g3⟩ := q_lst_n hn lg
  simp only at f1 f2 f3 g1 g2 g3
  have ha := (hf.2.2.2 hn).1
  have ha2 := (hg.2.2.2 hn).1
  have e0 : a2 = a := by
    have x1 := q_a_le (f := (a, b, c)) (g := (a2, b2, c2)) ha f1 f2 h
    have x2 := q_a_le (f := (a2, b2, c2)) (g := (a, b, c)) ha2 g1 g2 (q_led_symm h)
    simp only at x1 x2
    omega
  subst e0
  have df := hf.1
  have dg := hg.1
  have hb : b2 = b := by
    obtain ⟨p, q, r, s, e1, e2, e3, e4⟩ := h
    simp only at e2 e3 e4
    rcases q_min (x := p) (y := r) ha f1 f2 with ⟨h1, h2⟩ | ⟨h1, h2⟩ | h2
    · subst h1
      have hps : p * s = 1 := by omega
      have e5 : b2 = b + 2 * a2 * (p * q) := by rw [e3, Int.mul_zero, Int.add_zero, hps]; simp; omega
      rcases q_m_small ha (m := p * q) rfl (by omega) (by omega) with m | m | m <;> rw [m] at e5 <;> omega
    · subst h1
      have hr : r ≠ 0 := by intro e; subst e; omega
      have hrr := q_pos_sq hr
      have h3 : c * 1 ≤ c * (r * r) := Int.mul_le_mul_of_nonneg_left hrr (by omega)
      have hca : c = a2 := by omega
      have hqr : q * r = -1 := by omega
      have e5 : b2 = -b + 2 * a2 * (r * s) := by rw [e3, hqr, hca]; simp
      rcases q_m_small ha (m := r * s) (x := b2 + b) (by omega) (by omega) (by omega) with m | m | m
      · rw [m] at e5; omega
      · rw [m] at e5
        have e6 : b2 = -b := by omega
        have e7 : c2 = c := by
          refine q_c_of (x := b * b - d) ha (by omega) ?_
          rw [e6] at dg
          have : -b * -b = b * b := by grind
          omega
        omega
      · rw [m] at e5; omega
    · have e5 : (b.natAbs : Int) = a2 := by omega
      have e6 : c = a2 := by omega
      have e7 : b = a2 := by omega
      subst e6
      subst e7
      have h3 := q_sq_le (x := b2) (M := b) ⟨by omega, by omega⟩
      have h4 : 4 * b * c2 ≤ 4 * b * b := by
        have : 4 * b * b = 4 * (b * b) := by grind
        omega
      have h5 : c2 ≤ b := Int.le_of_mul_le_mul_left h4 (by omega)
      have h6 : c2 = b := by omega
      subst h6
      have h7 : b2 * b2 = c2 * c2 := by
        have : 4 * c2 * c2 = 4 * (c2 * c2) := by grind
        omega
      have h8 : (b2.natAbs : Int) = c2 := by
        rcases Int.lt_or_le (b2.natAbs : Int) c2 with q | q
        · exfalso
          have h9 : b2 * b2 = (b2.natAbs : Int) * b2.natAbs := by rw [← Int.natCast_mul]; exact (Int.natAbs_mul_self).symm
          have h10 : (b2.natAbs : Int) * b2.natAbs ≤ (c2 - 1) * (c2 - 1) := Int.mul_le_mul (by omega) (by omega) (by omega) (by omega)
          have h11 : (c2 - 1) * (c2 - 1) = c2 * c2 - 2 * c2 + 1 := by grind
          omega
        · omega
      omega
  subst hb
  have hc : c2 = c := q_c_of (x := b2 * b2 - d) ha (by omega) (by omega)
  rw [hc]
/-- D below 0: forms of one CLASS are led to one LEAST form -/
theorem q_uniq_its {d R : Int} (hd : q_dc d R) (hn : d < 0) {f g : q_f3} {m n : Nat} (hf : q_F3 d f) (hg : q_F3 d g) (h : q_led f g) (lf : q_L3 d R (q_its d R m f) = true) (lg : q_L3 d R (q_its d R n g) = true) : q_its d R m f = q_its d R n g :=
  q_uniq hn (q_F3_its hd m f hf) (q_F3_its hd n g hg) lf lg (q_led_trans (q_led_symm (q_led_its hd m f hf)) (q_led_trans h (q_led_its hd n g hg)))
/-- a translate is of the same CLASS -/
theorem q_led_T {a b c k : Int} : q_led (a, b, c) (a, b + 2 * a * k, a * (k * k) + b * k + c) := ⟨1, k, 0, 1, by omega, by simp, by simp; grind, by simp⟩
