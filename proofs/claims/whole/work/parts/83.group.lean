/-! classes with JOIN are a group -/
theorem q_hd_led {d R : Int} {f : q_f3} (hdc : q_dc d R) (h4 : q_d4 d) (hf : q_LF d R f) : q_led (q_hd d R (q_kls d R f)) f := by
  have hT := q_TT_T hdc h4
  have hs := q_hpl_spec (q_kls_lt hdc h4 hf)
  have h1 := q_hx_spec hdc hT hf
  have h2 := q_hx_hx hdc hT hf
  have h3 : q_hpl d R (q_kls d R f) = q_hx d R (q_TT d R).2 f := q_hn_inj hs.2.1 h2 hs.2.2
  have h5 : q_rg d R (q_hd d R (q_kls d R f)) f := by
    unfold q_hd
    rw [h3]
    exact h1.2.1
  have h6 := (q_hd_LF hdc h4 (q_kls_lt hdc h4 hf)).1
  rcases h5 with ⟨_, e⟩ | ⟨_, n, e⟩
  · rw [e]
    exact q_led_rfl f
  · have h7 := q_led_its (R := R) hdc n _ h6.1
    rw [e] at h7
    exact h7
theorem q_La_kls {d R : Int} {f : q_f3} (hdc : q_dc d R) (h4 : q_d4 d) (hf : q_G d f) (ha : 0 < f.1) : q_eqv d (q_La (q_hd d R (q_kls d R (q_red d R f)))) (q_La f) := by
  have hr := q_red_LF hdc hf
  have h1 := q_hd_led hdc h4 hr
  have h2 : q_led f (q_red d R f) := q_led_its hdc _ f hf.1
  exact q_La_led hf.1.1 ha (q_hd_LF hdc h4 (q_kls_lt hdc h4 hr)).2 (q_led_trans h2 (q_led_symm h1))
theorem q_hd_inj {d R : Int} {i j : Nat} (hdc : q_dc d R) (h4 : q_d4 d) (hi : i < q_nc2 d R) (hj : j < q_nc2 d R) (h : q_eqv d (q_La (q_hd d R i)) (q_La (q_hd d R j))) : i = j := by
  obtain ⟨hf, ha⟩ := q_hd_LF hdc h4 hi
  obtain ⟨hg, hb⟩ := q_hd_LF hdc h4 hj
  have h1 := q_kls_led hdc h4 hg hf (q_led_eqv hf.1.1 hg.1.1 ha hb h)
  rw [q_kls_hd hi, q_kls_hd hj] at h1
  exact h1.symm
theorem q_j3_cf {d R k : Int} {f g : q_f3} (hdc : q_dc d R) (hf : q_LF d R f) (hg : q_LF d R g) (ha : 0 < f.1) (hb : 0 < g.1) (hk : q_fits (q_jA f g) (q_jB f g) (q_jS f g) (q_jn f g) g.2.2 k) : ∃ r t, f = q_cf1 (q_je f g) (q_jA f g) (q_jB f g) (q_jS f g) k r t ∧ g = q_cf2 (q_je f g) (q_jA f g) (q_jB f g) (q_jS f g) k r t ∧ q_j3 d f g k = q_cf3 (q_je f g) (q_jA f g) (q_jB f g) (q_jS f g) k r t := by
  obtain ⟨j1, j2, j3, j4, j5, j6, j7, j8, j9, j10, j11, j12⟩ := q_j_all hdc hf hg ha hb
  obtain ⟨⟨r, hr⟩, ⟨t, ht⟩⟩ := hk
  have f1 : f = q_cf1 (q_je f g) (q_jA f g) (q_jB f g) (q_jS f g) k r t := by
    refine Prod.ext j3 (Prod.ext ?_ ?_)
    · show f.2.1 = q_je f g * q_jS f g + (q_jB f g * k + q_jA f g * r)
      omega
    · show f.2.2 = q_jS f g * r + q_jB f g * t
      refine Int.eq_of_mul_eq_mul_left (show q_jA f g ≠ 0 by omega) ?_
      have h1 : q_jA f g * (q_jS f g * r + q_jB f g * t) = q_jS f g * (q_jA f g * r) + q_jB f g * (q_jA f g * t) := by grind
      rw [h1, ← hr, ← ht]
      have h2 : q_jS f g * (q_jn f g - q_jB f g * k) + q_jB f g * (g.2.2 + q_jS f g * k) = q_jS f g * q_jn f g + q_jB f g * g.2.2 := by grind
      omega
  have f2 : g = q_cf2 (q_je f g) (q_jA f g) (q_jB f g) (q_jS f g) k r t := by
    refine Prod.ext j4 (Prod.ext ?_ ?_)
    · show g.2.1 = q_je f g * q_jS f g - (q_jB f g * k + q_jA f g * r)
      omega
    · show g.2.2 = q_jA f g * t - q_jS f g * k
      omega
  refine ⟨r, t, f1, f2, ?_⟩
  have hds := q_cf_disc (q_je f g) (q_jA f g) (q_jB f g) (q_jS f g) k r t
  rw [← f2] at hds
  have hgd := hg.1.1
  rw [hgd] at hds
  have hab : 0 < q_jA f g * q_jB f g := Int.mul_pos j8 j10
  have eB : (q_cf3 (q_je f g) (q_jA f g) (q_jB f g) (q_jS f g) k r t).2.1 = g.2.1 + 2 * q_jB f g * k := by
    show q_je f g * q_jS f g + q_jB f g * k - q_jA f g * r = g.2.1 + 2 * q_jB f g * k
    have h1 : 2 * q_jB f g * k = 2 * (q_jB f g * k) := Int.mul_assoc _ _ _
    omega
  refine (Prod.ext rfl (Prod.ext eB ?_) : q_cf3 (q_je f g) (q_jA f g) (q_jB f g) (q_jS f g) k r t = q_j3 d f g k).symm
  show _ = ((g.2.1 + 2 * q_jB f g * k) * (g.2.1 + 2 * q_jB f g * k) - d) / (4 * (q_jA f g * q_jB f g))
  rw [← eB, ← hds]
  have h1 : ∀ x y c : Int, 0 < y → (x * x - (x * x - 4 * y * c)) / (4 * y) = c := by
    intro x y c hy
    rw [show x * x - (x * x - 4 * y * c) = 4 * y * c by omega]
    exact Int.mul_ediv_cancel_left _ (by omega)
  exact (h1 _ _ _ hab).symm
theorem q_eqv_sk {d e : Int} (he : 0 < e) (P : q_zS) : q_eqv d P (q_sk d (2 * e, 0) P) := by
  refine ⟨(2 * e, 0), (1, 0), ?_, by show (0 : Int) < 1 * 1 - d * (0 * 0); simp, ?_⟩
  · show 0 < 2 * e * (2 * e) - d * (0 * 0)
    have := Int.mul_pos (show 0 < 2 * e by omega) (show 0 < 2 * e by omega)
    omega
  · rw [q_sk_sk]
    have e1 : q_zm d (1, 0) (2 * e, 0) = (2 * e, 0) := by
      refine Prod.ext ?_ ?_
      · show 1 * (2 * e) + d * (0 * 0) = 2 * e
        omega
      · show 1 * 0 + 0 * (2 * e) = 0
        omega
    rw [e1]
theorem q_J_eqv {d R : Int} {i j : Nat} (hdc : q_dc d R) (h4 : q_d4 d) (hi : i < q_nc2 d R) (hj : j < q_nc2 d R) : q_eqv d (q_La (q_hd d R (q_J d R i j))) (q_sp d (q_La (q_hd d R i)) (q_La (q_hd d R j))) := by
  obtain ⟨hf, ha⟩ := q_hd_LF hdc h4 hi
  obtain ⟨hg, hb⟩ := q_hd_LF hdc h4 hj
  obtain ⟨k1, k2, k3⟩ := q_jk_spec hdc h4 hi hj
  have hG := q_J_G hdc h4 hi hj
  obtain ⟨j1, j2, j3, j4, j5, j6, j7, j8, j9, j10, j11, j12⟩ := q_j_all hdc hf hg ha hb
  obtain ⟨r, t, e1, e2, e3⟩ := q_j3_cf hdc hf hg ha hb k3
  have h1 := q_La_kls hdc h4 hG (Int.mul_pos j8 j10)
  refine q_eqv_trans h1 ?_
  have h2 := q_La_mul (d := d) (e := q_je (q_hd d R i) (q_hd d R j)) (α := q_jA (q_hd d R i) (q_hd d R j)) (β := q_jB (q_hd d R i) (q_hd d R j)) (σ := q_jS (q_hd d R i) (q_hd d R j)) (k := q_jk (q_hd d R i) (q_hd d R j)) (r := r) (t := t) (by rw [← e2]; exact hg.1.1) (by rw [← e1]; exact hf.2.1)
  rw [← e1, ← e2, ← e3] at h2
  rw [h2]
  exact q_eqv_sk j1 _
theorem q_J_comm {d R : Int} {i j : Nat} (hdc : q_dc d R) (h4 : q_d4 d) (hi : i < q_nc2 d R) (hj : j < q_nc2 d R) : q_J d R i j = q_J d R j i := by
  refine q_hd_inj hdc h4 (q_J_lt hdc h4 hi hj) (q_J_lt hdc h4 hj hi) (q_eqv_trans (q_J_eqv hdc h4 hi hj) ?_)
  rw [q_sp_comm]
  exact q_eqv_symm (q_J_eqv hdc h4 hj hi)
theorem q_J_assoc {d R : Int} {i j k : Nat} (hdc : q_dc d R) (h4 : q_d4 d) (hi : i < q_nc2 d R) (hj : j < q_nc2 d R) (hk : k < q_nc2 d R) : q_J d R (q_J d R i j) k = q_J d R i (q_J d R j k) := by
  have a := q_J_lt hdc h4 hi hj
  have b := q_J_lt hdc h4 hj hk
  refine q_hd_inj hdc h4 (q_J_lt hdc h4 a hk) (q_J_lt hdc h4 hi b) (q_eqv_trans (q_J_eqv hdc h4 a hk) ?_)
  refine q_eqv_trans (q_eqv_sp _ (q_J_eqv hdc h4 hi hj)) ?_
  rw [q_sp_assoc]
  exact q_eqv_trans (q_eqv_sp2 _ (q_eqv_symm (q_J_eqv hdc h4 hj hk))) (q_eqv_symm (q_J_eqv hdc h4 hi b))
theorem q_nc2_pos {d R : Int} (hdc : q_dc d R) (h4 : q_d4 d) : 0 < q_nc2 d R := by
  have h := q_one_G hdc h4
  have h1 := q_kls_lt hdc h4 (q_red_LF hdc h.1)
  omega
/-- the form with a 1 -/
theorem q_La_one {d R : Int} (hdc : q_dc d R) (h4 : q_d4 d) : q_eqv d (q_La (q_hd d R 0)) (q_La (1, d % 2, (d % 2 - d) / 4)) := by
  have h := q_one_G hdc h4
  have h1 := q_La_kls hdc h4 h.1 (by show (0 : Int) < 1; decide)
  rw [h.2] at h1
  exact h1
theorem q_J_one {d R : Int} {i : Nat} (hdc : q_dc d R) (h4 : q_d4 d) (hi : i < q_nc2 d R) : q_J d R 0 i = i := by
  have h0 := q_nc2_pos hdc h4
  obtain ⟨hf, ha⟩ := q_hd_LF hdc h4 hi
  refine q_hd_inj hdc h4 (q_J_lt hdc h4 h0 hi) hi (q_eqv_trans (q_J_eqv hdc h4 h0 hi) (q_eqv_trans (q_eqv_sp _ (q_La_one hdc h4)) ?_))
  obtain ⟨hG, -⟩ := q_one_G hdc h4
  have hev := q_even_b hf.1.1
  generalize q_hd d R i = f at *
  obtain ⟨a, b, c⟩ := f
  have hev : (b - d) % 2 = 0 := hev
  have hD : b * b - 4 * a * c = d := hf.1.1
  have hD2 : d % 2 * (d % 2) - 4 * 1 * ((d % 2 - d) / 4) = d := hG.1.1
  have e1 : (1, d % 2, (d % 2 - d) / 4) = q_cf1 1 1 a ((d % 2 + b) / 2) 0 ((d % 2 - b) / 2) c := by
    refine Prod.ext rfl (Prod.ext ?_ ?_)
    · show d % 2 = 1 * ((d % 2 + b) / 2) + (a * 0 + 1 * ((d % 2 - b) / 2))
      omega
    · show (d % 2 - d) / 4 = (d % 2 + b) / 2 * ((d % 2 - b) / 2) + a * c
      obtain ⟨x, hx⟩ : ∃ x, x = (d % 2 + b) / 2 := ⟨_, rfl⟩
      obtain ⟨y, hy⟩ : ∃ y, y = (d % 2 - b) / 2 := ⟨_, rfl⟩
      rw [← hx, ← hy]
      have x1 : d % 2 = x + y := by omega
      have x2 : b = x - y := by omega
      refine Int.eq_of_mul_eq_mul_left (show (4 : Int) ≠ 0 by decide) ?_
      have h5 : 4 * (x * y + a * c) = (x + y) * (x + y) - ((x - y) * (x - y) - 4 * a * c) := by grind
      rw [h5, ← x1, ← x2, hD]
      omega
  have e2 : (a, b, c) = q_cf2 1 1 a ((d % 2 + b) / 2) 0 ((d % 2 - b) / 2) c := by
    refine Prod.ext ?_ (Prod.ext ?_ ?_)
    · show a = 1 * a
      omega
    · show b = 1 * ((d % 2 + b) / 2) - (a * 0 + 1 * ((d % 2 - b) / 2))
      omega
    · show c = 1 * c - (d % 2 + b) / 2 * 0
      omega
  have e3 : (a, b, c) = q_cf3 1 1 a ((d % 2 + b) / 2) 0 ((d % 2 - b) / 2) c := by
    refine Prod.ext ?_ (Prod.ext ?_ ?_)
    · show a = 1 * a
      omega
    · show b = 1 * ((d % 2 + b) / 2) + a * 0 - 1 * ((d % 2 - b) / 2)
      omega
    · show c = 1 * c - 0 * ((d % 2 - b) / 2)
      omega
  have h2 := q_La_mul (d := d) (e := 1) (α := 1) (β := a) (σ := (d % 2 + b) / 2) (k := 0) (r := (d % 2 - b) / 2) (t := c) (by rw [← e2]; exact hD) (by rw [← e1]; exact hG.2.1)
  rw [← e1, ← e3, ← e2] at h2
  rw [h2]
  exact q_eqv_symm (q_eqv_sk (by decide) _)
theorem q_J_inv {d R : Int} {i : Nat} (hdc : q_dc d R) (h4 : q_d4 d) (hi : i < q_nc2 d R) : ∃ j, j < q_nc2 d R ∧ q_J d R i j = 0 := by
  have h0 := q_nc2_pos hdc h4
  obtain ⟨hf, ha⟩ := q_hd_LF hdc h4 hi
  have hB := q_G_back (q_LF_G hdc hf)
  have hr := q_red_LF hdc hB
  have hj := q_kls_lt hdc h4 hr
  refine ⟨q_kls d R (q_red d R ((q_hd d R i).1, -(q_hd d R i).2.1, (q_hd d R i).2.2)), hj, ?_⟩
  refine q_hd_inj hdc h4 (q_J_lt hdc h4 hi hj) h0 (q_eqv_trans (q_J_eqv hdc h4 hi hj) (q_eqv_trans (q_eqv_sp2 _ (q_La_kls hdc h4 hB ha)) ?_))
  refine q_eqv_trans ?_ (q_eqv_symm (q_La_one hdc h4))
  obtain ⟨hG, -⟩ := q_one_G hdc h4
  have hev := q_even_b hf.1.1
  generalize q_hd d R i = f at *
  obtain ⟨a, b, c⟩ := f
  have ha : 0 < a := ha
  have hev : (b - d) % 2 = 0 := hev
  have hD : b * b - 4 * a * c = d := hf.1.1
  have hD2 : d % 2 * (d % 2) - 4 * 1 * ((d % 2 - d) / 4) = d := hG.1.1
  have e1 : (a, b, c) = q_cf1 a 1 1 0 0 b c := by
    refine Prod.ext ?_ (Prod.ext ?_ ?_)
    · show a = a * 1
      omega
    · show b = a * 0 + (1 * 0 + 1 * b)
      omega
    · show c = 0 * b + 1 * c
      omega
  have e2 : (a, -b, c) = q_cf2 a 1 1 0 0 b c := by
    refine Prod.ext ?_ (Prod.ext ?_ ?_)
    · show a = a * 1
      omega
    · show -b = a * 0 - (1 * 0 + 1 * b)
      omega
    · show c = 1 * c - 0 * 0
      omega
  have h2 := q_La_mul (d := d) (e := a) (α := 1) (β := 1) (σ := 0) (k := 0) (r := b) (t := c) (by rw [← e2]; show -b * -b - 4 * a * c = d; rw [Int.neg_mul_neg]; exact hD) (by rw [← e1]; exact hf.2.1)
  rw [← e1, ← e2] at h2
  show q_eqv d (q_sp d (q_La (a, b, c)) (q_La (a, -b, c))) _
  rw [h2]
  refine q_eqv_trans (q_eqv_symm (q_eqv_sk ha _)) ?_
  -- (1, -b, a c) is a translate of the form with a 1
  have e3 : (q_cf3 a 1 1 0 0 b c) = (1, d % 2 + 2 * 1 * ((-b - d % 2) / 2), 1 * ((-b - d % 2) / 2 * ((-b - d % 2) / 2)) + d % 2 * ((-b - d % 2) / 2) + (d % 2 - d) / 4) := by
    refine Prod.ext rfl (Prod.ext ?_ ?_)
    · show a * 0 + 1 * 0 - 1 * b = d % 2 + 2 * 1 * ((-b - d % 2) / 2)
      omega
    · show a * c - 0 * b = 1 * ((-b - d % 2) / 2 * ((-b - d % 2) / 2)) + d % 2 * ((-b - d % 2) / 2) + (d % 2 - d) / 4
      obtain ⟨x, hx⟩ : ∃ x, x = (-b - d % 2) / 2 := ⟨_, rfl⟩
      rw [← hx]
      have x1 : b = -(d % 2 + 2 * x) := by omega
      obtain ⟨m, hm⟩ : ∃ m, m = d % 2 := ⟨_, rfl⟩
      rw [← hm] at x1 hD2 ⊢
      have h5 : b * b = m * m + 4 * (x * x) + 4 * (m * x) := by rw [x1]; grind
      have h6 : 4 * a * c = 4 * (a * c) := Int.mul_assoc _ _ _
      generalize a * c = AC at *
      generalize x * x = XX at *
      generalize m * x = MX at *
      omega
  rw [e3]
  exact q_La_led hG.1.1 (by show (0 : Int) < 1; decide) (by show (0 : Int) < 1; decide) q_led_T
