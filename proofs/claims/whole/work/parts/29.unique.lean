/-! D below 0: two LEAST forms of which a substitution leads one to the other are one form -/
/-- a substitution of worth one leads f to g -/
def q_led (f g : q_f3) : Prop := ∃ p q r s : Int, p * s - q * r = 1 ∧ g.1 = f.1 * (p * p) + f.2.1 * (p * r) + f.2.2 * (r * r) ∧ g.2.1 = 2 * f.1 * (p * q) + f.2.1 * (p * s + q * r) + 2 * f.2.2 * (r * s) ∧ g.2.2 = f.1 * (q * q) + f.2.1 * (q * s) + f.2.2 * (s * s)
theorem q_led_rfl (f : q_f3) : q_led f f := ⟨1, 0, 0, 1, by decide, by simp, by simp, by simp⟩
theorem q_led_trans {f g h : q_f3} (h1 : q_led f g) (h2 : q_led g h) : q_led f h := by
  obtain ⟨a, b, c⟩ := f
  obtain ⟨a2, b2, c2⟩ := g
  obtain ⟨a3, b3, c3⟩ := h
  obtain ⟨p, q, r, s, e1, e2, e3, e4⟩ := h1
  obtain ⟨p2, q2, r2, s2, g1, g2, g3, g4⟩ := h2
  simp only at e2 e3 e4 g2 g3 g4
  subst e2 e3 e4 g2 g3 g4
  refine ⟨p * p2 + q * r2, p * q2 + q * s2, r * p2 + s * r2, r * q2 + s * s2, ?_, ?_, ?_, ?_⟩
  · have : (p * p2 + q * r2) * (r * q2 + s * s2) - (p * q2 + q * s2) * (r * p2 + s * r2) = (p * s - q * r) * (p2 * s2 - q2 * r2) := by grind
    rw [this, e1, g1]
    decide
  · simp only
    grind
  · simp only
    grind
  · simp only
    grind
theorem q_led_symm {f g : q_f3} (h1 : q_led f g) : q_led g f := by
  obtain ⟨a, b, c⟩ := f
  obtain ⟨a2, b2, c2⟩ := g
  obtain ⟨p, q, r, s, e1, e2, e3, e4⟩ := h1
  simp only at e2 e3 e4
  subst e2 e3 e4
  refine ⟨s, -q, -r, p, by grind, ?_, ?_, ?_⟩
  · simp only
    have : a = a * ((p * s - q * r) * (p * s - q * r)) := by rw [e1]; omega
    grind
  · simp only
    have : b = b * ((p * s - q * r) * (p * s - q * r)) := by rw [e1]; omega
    grind
  · simp only
    have : c = c * ((p * s - q * r) * (p * s - q * r)) := by rw [e1]; omega
    grind
theorem q_led_st {d R : Int} {f : q_f3} (h : q_F3 d f) : q_led f (q_st d R f) := by
  obtain ⟨a, b, c⟩ := f
  have h : q_fm d a b c := h
  have h1 := q_nb_t (d := d) (R := R) (b := b) h.2.2.1
  have h2 := q_nc_eq (R := R) h.2.2.1 h.1
  refine ⟨0, -1, 1, q_tt2 d R b c, by omega, ?_, ?_, ?_⟩
  · show c = _
    simp
  · show q_nb d R b c = _
    simp only
    generalize q_tt2 d R b c = t at h1 ⊢
    grind
  · show q_nc d R b c = _
    rw [h2]
    simp only
    generalize q_tt2 d R b c = t
    grind
theorem q_led_its {d R : Int} (hd : q_dc d R) : ∀ (n : Nat) (f : q_f3), q_F3 d f → q_led f (q_its d R n f)
  | 0, f, _ => q_led_rfl f
  | n + 1, f, h => q_led_trans (q_led_st h) (q_led_its hd n (q_st d R f) (q_F3_st hd h))
/-- what a LEAST form is at least -/
theorem q_min {a b c x y : Int} (ha : 0 < a) (hB : (b.natAbs : Int) ≤ a) (hc : a ≤ c) : (y = 0 ∧ a * (x * x) + b * (x * y) + c * (y * y) = a * (x * x)) ∨ (x = 0 ∧ a * (x * x) + b * (x * y) + c * (y * y) = c * (y * y)) ∨ c - (b.natAbs : Int) + a ≤ a * (x * x) + b * (x * y) + c * (y * y) := by
  by_cases hy : y = 0
  · left; subst hy; simp
  · by_cases hx : x = 0
    · right; left; subst hx; simp
    · right; right
      have hb1 : -((b.natAbs * (x.natAbs * y.natAbs) : Nat) : Int) ≤ b * (x * y) := by
        have : (b * (x * y)).natAbs = b.natAbs * (x.natAbs * y.natAbs) := by rw [Int.natAbs_mul, Int.natAbs_mul]
        omega
      have hxx : x * x = ((x.natAbs * x.natAbs : Nat) : Int) := (Int.natAbs_mul_self).symm
      have hyy : y * y = ((y.natAbs * y.natAbs : Nat) : Int) := (Int.natAbs_mul_self).symm
      have hX : 1 ≤ (x.natAbs : Int) := by omega
      have hY : 1 ≤ (y.natAbs : Int) := by omega
      rw [hxx, hyy]
      simp only [Int.natCast_mul] at hb1 ⊢
      generalize (x.natAbs : Int) = X at hb1 hX ⊢
      generalize (y.natAbs : Int) = Y at hb1 hY ⊢
      have hBn : 0 ≤ (b.natAbs : Int) := by omega
      generalize (b.natAbs : Int) = B at hb1 hB hBn ⊢
      rcases Int.le_total Y X with hq | hq
      · have h1 : X * ((a - B) * Y) ≤ X * (a * X - B * Y) := Int.mul_le_mul_of_nonneg_left (by
          have : a * Y ≤ a * X := Int.mul_le_mul_of_nonneg_left hq (by omega)
          rw [Int.sub_mul]; omega) (by omega)
        have h2 : (a - B) * 1 ≤ (a - B) * (X * Y) := Int.mul_le_mul_of_nonneg_left (by
          have : 1 * 1 ≤ X * Y := Int.mul_le_mul hX hY (by omega) (by omega)
          omega) (by omega)
        have h3 : c * 1 ≤ c * (Y * Y) := Int.mul_le_mul_of_nonneg_left (by
          have : 1 * 1 ≤ Y * Y := Int.mul_le_mul hY hY (by omega) (by omega)
          omega) (by omega)
        have h4 : X * (a * X - B * Y) = a * (X * X) - B * (X * Y) := by grind
        have h5 : X * ((a - B) * Y) = (a - B) * (X * Y) := by grind
        omega
      · have h1 : Y * ((c - B) * X) ≤ Y * (c * Y - B * X) := Int.mul_le_mul_of_nonneg_left (by
          have : c * X ≤ c * Y := Int.mul_le_mul_of_nonneg_left hq (by omega)
          rw [Int.sub_mul]; omega) (by omega)
        have h2 : (c - B) * 1 ≤ (c - B) * (X * Y) := Int.mul_le_mul_of_nonneg_left (by
          have : 1 * 1 ≤ X * Y := Int.mul_le_mul hX hY (by omega) (by omega)
          omega) (by omega)
        have h3 : a * 1 ≤ a * (X * X) := Int.mul_le_mul_of_nonneg_left (by
          have : 1 * 1 ≤ X * X := Int.mul_le_mul hX hX (by omega) (by omega)
          omega) (by omega)
        have h4 : Y * (c * Y - B * X) = c * (Y * Y) - B * (X * Y) := by grind
        have h5 : Y * ((c - B) * X) = (c - B) * (X * Y) := by grind
        omega
theorem q_lst_n {d R a b c : Int} (hn : d < 0) (h : q_lst d R a b c = true) : (b.natAbs : Int) ≤ a ∧ a ≤ c ∧ (0 ≤ b ∨ ((b.natAbs : Int) < a ∧ a < c)) := by
  unfold q_lst at h
  rw [if_pos hn] at h
  simp only [Bool.and_eq_true, Bool.or_eq_true, decide_eq_true_eq] at h
  exact ⟨h.1, h.2.1, h.2.2⟩
theorem q_pos_sq {x : Int} (h : x ≠ 0) : 1 ≤ x * x := by
  have h1 : x * x = ((x.natAbs * x.natAbs : Nat) : Int) := (Int.natAbs_mul_self).symm
  have h2 : 1 * 1 ≤ x.natAbs * x.natAbs := Nat.mul_le_mul (by omega) (by omega)
  omega
theorem q_a_le {f g : q_f3} (ha : 0 < f.1) (hB : (f.2.1.natAbs : Int) ≤ f.1) (hc : f.1 ≤ f.2.2) (h : q_led f g) : f.1 ≤ g.1 := by
  obtain ⟨a, b, c⟩ := f
  obtain ⟨p, q, r, s, e1, e2, e3, e4⟩ := h
  simp only at ha hB hc e2 ⊢
  rcases q_min (x := p) (y := r) ha hB hc with ⟨h1, h2⟩ | ⟨h1, h2⟩ | h2
  · rw [e2, h2]
    have hp : p ≠ 0 := by intro e; subst e; subst h1; omega
    have : a * 1 ≤ a * (p * p) := Int.mul_le_mul_of_nonneg_left (q_pos_sq hp) (by omega)
    omega
  · rw [e2, h2]
    have hr : r ≠ 0 := by intro e; subst e; subst h1; omega
    have : c * 1 ≤ c * (r * r) := Int.mul_le_mul_of_nonneg_left (q_pos_sq hr) (by omega)
    omega
  · omega
