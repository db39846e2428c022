/-! JOIN: two heads -/
def q_je (f g : q_f3) : Int := (Int.gcd (Int.gcd f.1 g.1) ((f.2.1 + g.2.1) / 2) : Int)
def q_jA (f g : q_f3) : Int := f.1 / q_je f g
def q_jB (f g : q_f3) : Int := g.1 / q_je f g
def q_jS (f g : q_f3) : Int := (f.2.1 + g.2.1) / 2 / q_je f g
def q_jn (f g : q_f3) : Int := (f.2.1 - g.2.1) / 2
theorem q_j_all {d R : Int} {f g : q_f3} (hdc : q_dc d R) (hf : q_LF d R f) (hg : q_LF d R g) (ha : 0 < f.1) (hb : 0 < g.1) : 0 < q_je f g ∧ q_je f g ≤ 63 ∧ f.1 = q_je f g * q_jA f g ∧ g.1 = q_je f g * q_jB f g ∧ (f.2.1 + g.2.1) / 2 = q_je f g * q_jS f g ∧ f.2.1 = q_je f g * q_jS f g + q_jn f g ∧ g.2.1 = q_je f g * q_jS f g - q_jn f g ∧ 0 < q_jA f g ∧ q_jA f g ≤ 63 ∧ 0 < q_jB f g ∧ q_jB f g ≤ 63 ∧ q_jS f g * q_jn f g = q_jA f g * f.2.2 - q_jB f g * g.2.2 := by
  have bf := q_LF_b hdc hf
  have bg := q_LF_b hdc hg
  have ef := q_even_b hf.1.1
  have eg := q_even_b hg.1.1
  have d1 : q_je f g ∣ f.1 := Int.dvd_trans (Int.gcd_dvd_left ..) (Int.gcd_dvd_left ..)
  have d2 : q_je f g ∣ g.1 := Int.dvd_trans (Int.gcd_dvd_left ..) (Int.gcd_dvd_right ..)
  have d3 : q_je f g ∣ (f.2.1 + g.2.1) / 2 := Int.gcd_dvd_right ..
  have e0 : 0 ≤ q_je f g := Int.natCast_nonneg _
  have e1 : f.1 = q_je f g * q_jA f g := (Int.mul_ediv_cancel' d1).symm
  have e2 : g.1 = q_je f g * q_jB f g := (Int.mul_ediv_cancel' d2).symm
  have e3 : (f.2.1 + g.2.1) / 2 = q_je f g * q_jS f g := (Int.mul_ediv_cancel' d3).symm
  have ep : 0 < q_je f g := by
    rcases Int.lt_or_le 0 (q_je f g) with q | q
    · exact q
    · have : q_je f g = 0 := by omega
      rw [this, Int.zero_mul] at e1
      omega
  have pos : ∀ x y : Int, 0 < x → x ≤ 63 → x = q_je f g * y → 0 < y ∧ y ≤ 63 ∧ q_je f g ≤ 63 := by
    intro x y hx hx2 hxy
    have y0 : 0 < y := by
      rcases Int.lt_or_le 0 y with q | q
      · exact q
      · have := Int.mul_nonpos_of_nonneg_of_nonpos (show 0 ≤ q_je f g by omega) q
        omega
    have h1 : 1 * y ≤ q_je f g * y := Int.mul_le_mul_of_nonneg_right (by omega) (by omega)
    have h2 : q_je f g * 1 ≤ q_je f g * y := Int.mul_le_mul_of_nonneg_left (by omega) (by omega)
    omega
  have p1 := pos f.1 _ ha (by omega) e1
  have p2 := pos g.1 _ hb (by omega) e2
  have e4 : f.2.1 = q_je f g * q_jS f g + q_jn f g := by rw [← e3]; unfold q_jn; omega
  have e5 : g.2.1 = q_je f g * q_jS f g - q_jn f g := by rw [← e3]; unfold q_jn; omega
  refine ⟨ep, p1.2.2, e1, e2, e3, e4, e5, p1.1, p1.2.1, p2.1, p2.2.1, ?_⟩
  have h1 := hf.1.1
  have h2 := hg.1.1
  rw [e1, e4] at h1
  rw [e2, e5] at h2
  refine Int.eq_of_mul_eq_mul_left (show 4 * q_je f g ≠ 0 by omega) ?_
  generalize q_je f g = e at *
  generalize q_jA f g = A at *
  generalize q_jB f g = B at *
  generalize q_jS f g = S at *
  generalize q_jn f g = n at *
  have h3 : (e * S + n) * (e * S + n) - 4 * (e * A) * f.2.2 = (e * S - n) * (e * S - n) - 4 * (e * B) * g.2.2 := by rw [h1, h2]
  grind
/-- the composition with a k that fits -/
def q_j3 (d : Int) (f g : q_f3) (k : Int) : q_f3 := (q_jA f g * q_jB f g, g.2.1 + 2 * q_jB f g * k, ((g.2.1 + 2 * q_jB f g * k) * (g.2.1 + 2 * q_jB f g * k) - d) / (4 * (q_jA f g * q_jB f g)))
theorem q_j3_G {d R k : Int} {f g : q_f3} (hdc : q_dc d R) (hf : q_LF d R f) (hg : q_LF d R g) (ha : 0 < f.1) (hb : 0 < g.1) (hk : q_fits (q_jA f g) (q_jB f g) (q_jS f g) (q_jn f g) g.2.2 k) (hkb : -q_jA f g < k ∧ k < q_jA f g) : q_isf d (q_j3 d f g k).1 (q_j3 d f g k).2.1 (q_j3 d f g k).2.2 ∧ Int.gcd (Int.gcd (q_j3 d f g k).1 (q_j3 d f g k).2.1) (q_j3 d f g k).2.2 = 1 ∧ q_G d (q_j3 d f g k) ∧ (q_j3 d f g k).1 ≤ 4000 ∧ -10000 ≤ (q_j3 d f g k).2.1 ∧ (q_j3 d f g k).2.1 ≤ 10000 := by
  obtain ⟨j1, j2, j3, j4, j5, j6, j7, j8, j9, j10, j11, j12⟩ := q_j_all hdc hf hg ha hb
  have bg := q_LF_b hdc hg
  have hdb : -4000 ≤ d ∧ d ≤ 4000 := by rcases hdc with q | q <;> omega
  obtain ⟨⟨r, hr⟩, ⟨t, ht⟩⟩ := hk
  have f1 : f = q_cf1 (q_je f g) (q_jA f g) (q_jB f g) (q_jS f g) k r t := by
    refine Prod.ext j3 (Prod.ext ?_ ?_)
    · show f.2.1 = q_je f g * q_jS f g + (q_jB f g * k + q_jA f g * r)
      omega
    · show f.2.2 = q_jS f g * r + q_jB f g * t
      refine Int.eq_of_mul_eq_mul_left (show q_jA f g ≠ 0 by omega) ?_
      have h1 : q_jA f g * (q_jS f g * r + q_jB f g * t) = q_jS f g * (q_jA f g * r) + q_jB f g * (q_jA f g * t) := by grind
      rw [h1, ← hr, ← ht]
      have h2 : q_jS f g * (q_jn f g - q_jB f g * k) + q_jB f g * (g.2.2 + q_jS f g * k) = q_jS f g * q_jn f g + q_jB f g * g.2.2 := by grind
      omega
  have f2 : g = q_cf2 (q_je f g) (q_jA f g) (q_jB f g) (q_jS f g) k r t := by
    refine Prod.ext j4 (Prod.ext ?_ ?_)
    · show g.2.1 = q_je f g * q_jS f g - (q_jB f g * k + q_jA f g * r)
      omega
    · show g.2.2 = q_jA f g * t - q_jS f g * k
      omega
  have hpr := q_cf_prim (e := q_je f g) (α := q_jA f g) (β := q_jB f g) (σ := q_jS f g) (k := k) (r := r) (t := t) (by rw [← f1]; exact hf.2.1) (by rw [← f2]; exact hg.2.1)
  have hds := q_cf_disc (q_je f g) (q_jA f g) (q_jB f g) (q_jS f g) k r t
  rw [← f2] at hds
  have hgd := hg.1.1
  rw [hgd] at hds
  have hab : 0 < q_jA f g * q_jB f g := Int.mul_pos j8 j10
  have eB : (q_cf3 (q_je f g) (q_jA f g) (q_jB f g) (q_jS f g) k r t).2.1 = g.2.1 + 2 * q_jB f g * k := by
    show q_je f g * q_jS f g + q_jB f g * k - q_jA f g * r = g.2.1 + 2 * q_jB f g * k
    have h1 : 2 * q_jB f g * k = 2 * (q_jB f g * k) := Int.mul_assoc _ _ _
    omega
  have f3 : q_cf3 (q_je f g) (q_jA f g) (q_jB f g) (q_jS f g) k r t = q_j3 d f g k := by
    refine Prod.ext rfl (Prod.ext eB ?_)
    show _ = ((g.2.1 + 2 * q_jB f g * k) * (g.2.1 + 2 * q_jB f g * k) - d) / (4 * (q_jA f g * q_jB f g))
    rw [← eB, ← hds]
    have h1 : ∀ x y c : Int, 0 < y → (x * x - (x * x - 4 * y * c)) / (4 * y) = c := by
      intro x y c hy
      rw [show x * x - (x * x - 4 * y * c) = 4 * y * c by omega]
      exact Int.mul_ediv_cancel_left _ (by omega)
    exact (h1 _ _ _ hab).symm
  rw [f3] at hpr hds
  have ha4 : q_jA f g * q_jB f g ≤ 63 * 63 := Int.mul_le_mul j9 j11 (by omega) (by omega)
  have hBk : -3969 ≤ q_jB f g * k ∧ q_jB f g * k ≤ 3969 := by
    have := q_mul_le (x := q_jB f g) (y := k) (M := 63) (N := 63) ⟨by omega, by omega⟩ ⟨by omega, by omega⟩ (by omega) (by omega)
    omega
  have h2B : 2 * q_jB f g * k = 2 * (q_jB f g * k) := Int.mul_assoc _ _ _
  have hisf : q_isf d (q_j3 d f g k).1 (q_j3 d f g k).2.1 (q_j3 d f g k).2.2 := ⟨by show q_jA f g * q_jB f g ≠ 0; omega, fun q => by have q2 : q_jA f g * q_jB f g < 0 := q.2; omega, by omega⟩
  have bb : -10000 ≤ (q_j3 d f g k).2.1 ∧ (q_j3 d f g k).2.1 ≤ 10000 := by
    show -10000 ≤ g.2.1 + 2 * q_jB f g * k ∧ g.2.1 + 2 * q_jB f g * k ≤ 10000
    omega
  have hc6 : q_m6 (q_j3 d f g k).2.2 := by
    have h5 := hisf.2.2
    have h8 : (1 : Int) ≤ (q_j3 d f g k).1 := by show 1 ≤ q_jA f g * q_jB f g; omega
    have h9 : (q_j3 d f g k).1 ≤ 3969 := by show q_jA f g * q_jB f g ≤ 3969; omega
    have hB2 : -(63 + 2 * (q_j3 d f g k).1) ≤ (q_j3 d f g k).2.1 ∧ (q_j3 d f g k).2.1 ≤ 63 + 2 * (q_j3 d f g k).1 := by
      show -(63 + 2 * (q_jA f g * q_jB f g)) ≤ g.2.1 + 2 * q_jB f g * k ∧ g.2.1 + 2 * q_jB f g * k ≤ 63 + 2 * (q_jA f g * q_jB f g)
      have h1 : q_jB f g * k ≤ q_jB f g * q_jA f g := Int.mul_le_mul_of_nonneg_left (by omega) (by omega)
      have h2 : q_jB f g * -k ≤ q_jB f g * q_jA f g := Int.mul_le_mul_of_nonneg_left (by omega) (by omega)
      rw [Int.mul_neg] at h2
      have h3 : q_jB f g * q_jA f g = q_jA f g * q_jB f g := Int.mul_comm _ _
      omega
    have h6 := q_sq_le (x := (q_j3 d f g k).2.1) (M := 63 + 2 * (q_j3 d f g k).1) hB2
    have h7 := q_sq_nn (q_j3 d f g k).2.1
    generalize (q_j3 d f g k).2.2 = C at h5 ⊢
    generalize (q_j3 d f g k).1 = Q at h5 h6 h8 h9
    generalize (q_j3 d f g k).2.1 = B at h5 h6 h7
    have q1 : Q * Q ≤ 3969 * Q := Int.mul_le_mul_of_nonneg_right h9 (by omega)
    have q2 : (63 + 2 * Q) * (63 + 2 * Q) = 3969 + 252 * Q + 4 * (Q * Q) := by grind
    have q3 : 4 * Q * C = 4 * (Q * C) := Int.mul_assoc _ _ _
    constructor
    · rcases Int.lt_or_le C (-10000) with q | q
      · have : Q * C ≤ Q * (-10001) := Int.mul_le_mul_of_nonneg_left (by omega) (by omega)
        omega
      · omega
    · rcases Int.lt_or_le 10000 C with q | q
      · have : Q * 10001 ≤ Q * C := Int.mul_le_mul_of_nonneg_left (by omega) (by omega)
        omega
      · omega
  exact ⟨hisf, hpr, q_isf_G hdc hisf ⟨by show -1000000 ≤ q_jA f g * q_jB f g; omega, by show q_jA f g * q_jB f g ≤ 1000000; omega⟩ ⟨by omega, by omega⟩ hc6 hpr, by show q_jA f g * q_jB f g ≤ 4000; omega, bb⟩
/-- the same k but for a multiple of A: a translate -/
theorem q_j3_T {d : Int} {f g : q_f3} {k x : Int} (hd1 : (q_j3 d f g k).2.1 * (q_j3 d f g k).2.1 - 4 * (q_j3 d f g k).1 * (q_j3 d f g k).2.2 = d) (hd2 : (q_j3 d f g (k + q_jA f g * x)).2.1 * (q_j3 d f g (k + q_jA f g * x)).2.1 - 4 * (q_j3 d f g (k + q_jA f g * x)).1 * (q_j3 d f g (k + q_jA f g * x)).2.2 = d) (hp : 0 < q_jA f g * q_jB f g) : q_led (q_j3 d f g k) (q_j3 d f g (k + q_jA f g * x)) := by
  have h := q_led_T (a := (q_j3 d f g k).1) (b := (q_j3 d f g k).2.1) (c := (q_j3 d f g k).2.2) (k := x)
  have e1 : (q_j3 d f g (k + q_jA f g * x)).2.1 = (q_j3 d f g k).2.1 + 2 * (q_j3 d f g k).1 * x := by
    show g.2.1 + 2 * q_jB f g * (k + q_jA f g * x) = g.2.1 + 2 * q_jB f g * k + 2 * (q_jA f g * q_jB f g) * x
    grind
  have e0 : (q_j3 d f g (k + q_jA f g * x)).1 = (q_j3 d f g k).1 := rfl
  have e2 : (q_j3 d f g (k + q_jA f g * x)).2.2 = (q_j3 d f g k).1 * (x * x) + (q_j3 d f g k).2.1 * x + (q_j3 d f g k).2.2 := by
    have hp1 : 0 < (q_j3 d f g k).1 := hp
    rw [e1, e0] at hd2
    generalize (q_j3 d f g (k + q_jA f g * x)).2.2 = C2 at hd2 ⊢
    generalize (q_j3 d f g k).2.2 = C at hd1 ⊢
    generalize (q_j3 d f g k).2.1 = B at hd1 hd2 ⊢
    generalize (q_j3 d f g k).1 = Q at hd1 hd2 hp1 ⊢
    refine Int.eq_of_mul_eq_mul_left (show 4 * Q ≠ 0 by omega) ?_
    grind
  have e : q_j3 d f g (k + q_jA f g * x) = ((q_j3 d f g k).1, (q_j3 d f g k).2.1 + 2 * (q_j3 d f g k).1 * x, (q_j3 d f g k).1 * (x * x) + (q_j3 d f g k).2.1 * x + (q_j3 d f g k).2.2) := Prod.ext e0 (Prod.ext e1 e2)
  rw [e]
  exact h
