/-! D above 0: the signs of a substitution between LEAST forms; classes of forms that lead to each other -/
theorem q_mono1 {a b c X X2 Y : Int} (ha : 0 ≤ a) (hb : 0 ≤ b) (hX : 0 ≤ X) (h : X ≤ X2) (hY : 0 ≤ Y) : a * (X * X) + b * (X * Y) + c * (Y * Y) ≤ a * (X2 * X2) + b * (X2 * Y) + c * (Y * Y) := by
  have h1 : X * X ≤ X2 * X2 := Int.mul_le_mul h h hX (by omega)
  have h2 : X * Y ≤ X2 * Y := Int.mul_le_mul_of_nonneg_right h hY
  have h3 := Int.mul_le_mul_of_nonneg_left h1 ha
  have h4 := Int.mul_le_mul_of_nonneg_left h2 hb
  omega
theorem q_mono2 {a b c X X2 Y : Int} (ha : 0 < a) (hc : c < 0) (hX : 0 < X) (h : X ≤ X2) (hv : 0 < a * (X * X) - b * (X * Y) + c * (Y * Y)) : 0 < a * (X2 * X2) - b * (X2 * Y) + c * (Y * Y) := by
  have h0 := q_sq_nn Y
  have h1 : c * (Y * Y) ≤ 0 := Int.mul_nonpos_of_nonpos_of_nonneg (by omega) h0
  have h2 : a * (X * X) - b * (X * Y) = X * (a * X - b * Y) := by grind
  have h3 : a * (X2 * X2) - b * (X2 * Y) = X2 * (a * X2 - b * Y) := by grind
  have h4 : 0 < a * X - b * Y := by
    rcases Int.lt_or_le 0 (a * X - b * Y) with q | q
    · exact q
    · have := Int.mul_nonpos_of_nonneg_of_nonpos (show 0 ≤ X by omega) q
      omega
  have h5 : a * X ≤ a * X2 := Int.mul_le_mul_of_nonneg_left h (by omega)
  have h6 : X * (a * X - b * Y) ≤ X2 * (a * X2 - b * Y) := Int.mul_le_mul h (by omega) (by omega) (by omega)
  omega
theorem q_signs {f : q_f3} {p q r s : Int} (ha : 0 < f.1) (hb : 0 < f.2.1) (hc : f.2.2 < 0) (hdet : p * s - q * r = 1) (hs : 0 < s) (h1 : 0 < (q_act f p q r s).1) (h2 : (q_act f p q r s).2.2 < 0) : 0 < p := by
  obtain ⟨a, b, c⟩ := f
  have ha : 0 < a := ha
  have hb : 0 < b := hb
  have hc : c < 0 := hc
  have h1 : 0 < a * (p * p) + b * (p * r) + c * (r * r) := h1
  have h2 : a * (q * q) + b * (q * s) + c * (s * s) < 0 := h2
  rcases Int.lt_or_le 0 p with g | g
  · exact g
  · exfalso
    have hp0 : p ≠ 0 := by
      intro e
      have h3 : c * (r * r) ≤ 0 := Int.mul_nonpos_of_nonpos_of_nonneg (by omega) (q_sq_nn r)
      rw [e] at h1
      simp only [Int.zero_mul, Int.mul_zero, Int.zero_add] at h1
      omega
    have hps : p * s < 0 := Int.mul_neg_of_neg_of_pos (by omega) hs
    have hqr : q * r < 0 := by omega
    have s1 : 0 < s * s * (a * (p * p) + b * (p * r) + c * (r * r)) := Int.mul_pos (Int.mul_pos hs hs) h1
    rcases Int.lt_or_le 0 r with g2 | g2
    · have hq : q < 0 := by
        rcases Int.lt_or_le q 0 with x | x
        · exact x
        · have := Int.mul_nonneg x (show 0 ≤ r by omega)
          omega
      have e1 : s * s * (a * (p * p) + b * (p * r) + c * (r * r)) = a * ((-p * s) * (-p * s)) - b * ((-p * s) * (r * s)) + c * ((r * s) * (r * s)) := by grind
      have e2 : r * r * (a * (q * q) + b * (q * s) + c * (s * s)) = a * ((-q * r) * (-q * r)) - b * ((-q * r) * (r * s)) + c * ((r * s) * (r * s)) := by grind
      have e3 : -p * s = -(p * s) := Int.neg_mul p s
      have e4 : -q * r = -(q * r) := Int.neg_mul q r
      have m := q_mono2 (a := a) (b := b) (c := c) (X := -p * s) (X2 := -q * r) (Y := r * s) ha hc (by omega) (by omega) (by omega)
      have n : r * r * (a * (q * q) + b * (q * s) + c * (s * s)) < 0 := Int.mul_neg_of_pos_of_neg (Int.mul_pos g2 g2) h2
      omega
    · have hr : r < 0 := by
        rcases Int.lt_or_le r 0 with x | x
        · exact x
        · have : r = 0 := by omega
          rw [this, Int.mul_zero] at hqr
          omega
      have e1 : s * s * (a * (p * p) + b * (p * r) + c * (r * r)) = a * ((-p * s) * (-p * s)) + b * ((-p * s) * (-r * s)) + c * ((-r * s) * (-r * s)) := by grind
      have e2 : r * r * (a * (q * q) + b * (q * s) + c * (s * s)) = a * ((-q * r) * (-q * r)) + b * ((-q * r) * (-r * s)) + c * ((-r * s) * (-r * s)) := by grind
      have e3 : -p * s = -(p * s) := Int.neg_mul p s
      have e4 : -q * r = -(q * r) := Int.neg_mul q r
      have e5 : 0 < -r * s := Int.mul_pos (by omega) hs
      have m := q_mono1 (a := a) (b := b) (c := c) (X := -p * s) (X2 := -q * r) (Y := -r * s) (by omega) (by omega) (by omega) (by omega) (by omega)
      have n : r * r * (a * (q * q) + b * (q * s) + c * (s * s)) < 0 := Int.mul_neg_of_pos_of_neg (Int.mul_pos_of_neg_of_neg hr hr) h2
      omega
theorem q_act_inv {f : q_f3} {p q r s : Int} (e1 : p * s - q * r = 1) : f = q_act (q_act f p q r s) s (-q) (-r) p := by
  obtain ⟨a, b, c⟩ := f
  refine Prod.ext ?_ (Prod.ext ?_ ?_)
  · show a = (a * (p * p) + b * (p * r) + c * (r * r)) * (s * s) + (2 * a * (p * q) + b * (p * s + q * r) + 2 * c * (r * s)) * (s * -r) + (a * (q * q) + b * (q * s) + c * (s * s)) * (-r * -r)
    have : a = a * ((p * s - q * r) * (p * s - q * r)) := by rw [e1]; omega
    grind
  · show b = 2 * (a * (p * p) + b * (p * r) + c * (r * r)) * (s * -q) + (2 * a * (p * q) + b * (p * s + q * r) + 2 * c * (r * s)) * (s * p + -q * -r) + 2 * (a * (q * q) + b * (q * s) + c * (s * s)) * (-r * p)
    have : b = b * ((p * s - q * r) * (p * s - q * r)) := by rw [e1]; omega
    grind
  · show c = (a * (p * p) + b * (p * r) + c * (r * r)) * (-q * -q) + (2 * a * (p * q) + b * (p * s + q * r) + 2 * c * (r * s)) * (-q * p) + (a * (q * q) + b * (q * s) + c * (s * s)) * (p * p)
    have : c = c * ((p * s - q * r) * (p * s - q * r)) := by rw [e1]; omega
    grind
theorem q_act_neg (f : q_f3) (p q r s : Int) : q_act f (-p) (-q) (-r) (-s) = q_act f p q r s := by
  unfold q_act
  simp only [Int.neg_mul_neg]
theorem q_uniq_p1 {d R : Int} {f : q_f3} {p q r s : Int} (hd : q_dc d R) (hp : 0 < d) (hf : q_F3 d f) (lf : q_L3 d R f = true) (ha : 0 < f.1) (hg : q_F3 d (q_act f p q r s)) (lg : q_L3 d R (q_act f p q r s) = true) (hga : 0 < (q_act f p q r s).1) (hdet : p * s - q * r = 1) (hs : 0 < s) : (∃ m, q_its d R m f = q_act f p q r s) ∨ ∃ m, q_its d R m (q_act f p q r s) = f := by
  have rf := q_lst_rv hd hp hf lf ha
  have rg := q_lst_rv hd hp hg lg hga
  have hp0 := q_signs rf.1 rf.2.2.1 rf.2.1 hdet hs rg.1 rg.2.1
  have hps : 0 < p * s := Int.mul_pos hp0 hs
  have hqr : 0 ≤ q * r := by omega
  have cs : (0 ≤ q ∧ 0 ≤ r) ∨ (q ≤ 0 ∧ r ≤ 0) := by
    rcases Int.lt_trichotomy q 0 with g | g | g
    · rcases Int.lt_or_le 0 r with x | x
      · have := Int.mul_neg_of_neg_of_pos g x
        omega
      · exact Or.inr ⟨by omega, x⟩
    · rcases Int.le_total 0 r with x | x
      · exact Or.inl ⟨by omega, x⟩
      · exact Or.inr ⟨by omega, x⟩
    · rcases Int.lt_or_le r 0 with x | x
      · have := Int.mul_neg_of_pos_of_neg g x
        omega
      · exact Or.inl ⟨by omega, x⟩
  rcases cs with ⟨q0, r0⟩ | ⟨q0, r0⟩
  · left
    obtain ⟨n, hn⟩ := q_path hd (p + q + r + s).toNat f p q r s (by omega) q0 r0 (by omega) hdet (by omega) hf.1 rf.1 rf.2.1 rg.1 rg.2.1
    obtain ⟨m, hm⟩ := q_path_its hd hp n n f (Nat.le_refl _) hf lf ha (by rw [hn]; exact rg)
    exact ⟨m, hm.trans hn⟩
  · right
    have e : f = q_act (q_act f p q r s) s (-q) (-r) p := q_act_inv hdet
    generalize q_act f p q r s = g at *
    have k1 : 0 < (q_act g s (-q) (-r) p).1 := by rw [← e]; exact rf.1
    have k2 : (q_act g s (-q) (-r) p).2.2 < 0 := by rw [← e]; exact rf.2.1
    obtain ⟨n, hn⟩ := q_path hd (p + -q + -r + s).toNat g s (-q) (-r) p (by omega) (by omega) (by omega) (by omega) (by rw [← hdet]; grind) (by omega) hg.1 rg.1 rg.2.1 k1 k2
    rw [← e] at hn
    obtain ⟨m, hm⟩ := q_path_its hd hp n n g (Nat.le_refl _) hg lg hga (by rw [hn]; exact rf)
    exact ⟨m, hm.trans hn⟩
theorem q_uniq_p {d R : Int} {f g : q_f3} (hd : q_dc d R) (hp : 0 < d) (hf : q_F3 d f) (hg : q_F3 d g) (lf : q_L3 d R f = true) (lg : q_L3 d R g = true) (ha : 0 < f.1) (hb : 0 < g.1) (h : q_led f g) : (∃ m, q_its d R m f = g) ∨ ∃ m, q_its d R m g = f := by
  obtain ⟨p, q, r, s, e1, e2, e3, e4⟩ := h
  have e : g = q_act f p q r s := Prod.ext e2 (Prod.ext e3 e4)
  have rg := q_lst_rv hd hp hg lg hb
  subst e
  rcases Int.lt_trichotomy s 0 with x | x | x
  · rw [← q_act_neg f p q r s] at hg lg hb ⊢
    exact q_uniq_p1 hd hp hf lf ha hg lg hb (by rw [Int.neg_mul_neg, Int.neg_mul_neg]; exact e1) (by omega)
  · exfalso
    have h1 : f.1 * (q * q) + f.2.1 * (q * s) + f.2.2 * (s * s) < 0 := rg.2.1
    rw [x, Int.mul_zero, Int.mul_zero, Int.mul_zero, Int.mul_zero] at h1
    have := Int.mul_nonneg (show 0 ≤ f.1 by omega) (q_sq_nn q)
    omega
  · exact q_uniq_p1 hd hp hf lf ha hg lg hb e1 x
/-- forms that lead to each other are of one class -/
theorem q_kls_led {d R : Int} {f g : q_f3} (hdc : q_dc d R) (h4 : q_d4 d) (hf : q_LF d R f) (hg : q_LF d R g) (h : q_led f g) : q_kls d R f = q_kls d R g := by
  rcases Int.lt_or_le d 0 with hn | hn
  · rw [q_uniq hn hf.1 hg.1 hf.2.2 hg.2.2 h]
  · have hp : 0 < d := by rcases hdc with q | q <;> omega
    have up : ∀ f, q_LF d R f → ∃ f2, q_LF d R f2 ∧ 0 < f2.1 ∧ q_led f f2 ∧ q_kls d R f2 = q_kls d R f := by
      intro f hf
      rcases Int.lt_or_le 0 f.1 with q | q
      · exact ⟨f, hf, q, q_led_rfl f, rfl⟩
      · refine ⟨q_st d R f, q_LF_its hdc hp hf 1, ?_, q_led_st hf.1, q_kls_rg hdc h4 hf (Or.inr ⟨hp, 1, rfl⟩)⟩
        have h1 := (q_st_lst hdc hp hf.1 hf.2.2).2
        have h2 := (q_F3_st (R := R) hdc hf.1).2.1
        omega
    obtain ⟨f2, f3, f4, f5, f6⟩ := up f hf
    obtain ⟨g2, g3, g4, g5, g6⟩ := up g hg
    have l2 : q_led f2 g2 := q_led_trans (q_led_symm f5) (q_led_trans h g5)
    rw [← f6, ← g6]
    rcases q_uniq_p hdc hp f3.1 g3.1 f3.2.2 g3.2.2 f4 g4 l2 with ⟨m, hm⟩ | ⟨m, hm⟩
    · exact (q_kls_rg hdc h4 f3 (Or.inr ⟨hp, m, hm⟩)).symm
    · exact q_kls_rg hdc h4 g3 (Or.inr ⟨hp, m, hm⟩)
theorem q_kls_red {d R : Int} {f g : q_f3} (hdc : q_dc d R) (h4 : q_d4 d) (hf : q_G d f) (hg : q_G d g) (h : q_led f g) : q_kls d R (q_red d R f) = q_kls d R (q_red d R g) :=
  q_kls_led hdc h4 (q_red_LF hdc hf) (q_red_LF hdc hg) (q_led_trans (q_led_symm (q_led_its hdc _ f hf.1)) (q_led_trans h (q_led_its hdc _ g hg.1)))
