/-! both joined() give one class: D below 0 -/
theorem q_red_led {d R : Int} {f g : q_f3} (hdc : q_dc d R) (hn : d < 0) (hf : q_G d f) (hg : q_G d g) (h : q_led f g) : q_red d R f = q_red d R g :=
  q_uniq_its hdc hn hf.1 hg.1 h (q_fn_spec hdc hf).2.1 (q_fn_spec hdc hg).2.1
/-- two k that fit: the compositions lead to one LEAST form -/
theorem q_j3_neg {d R k l : Int} {f g : q_f3} (hdc : q_dc d R) (hn : d < 0) (hf : q_LF d R f) (hg : q_LF d R g) (ha : 0 < f.1) (hb : 0 < g.1) (hk : q_fits (q_jA f g) (q_jB f g) (q_jS f g) (q_jn f g) g.2.2 k) (hl : q_fits (q_jA f g) (q_jB f g) (q_jS f g) (q_jn f g) g.2.2 l) (kb : -q_jA f g < k ∧ k < q_jA f g) (lb : -q_jA f g < l ∧ l < q_jA f g) (hd : q_jA f g ∣ l - k) : q_red d R (q_j3 d f g k) = q_red d R (q_j3 d f g l) := by
  obtain ⟨j1, j2, j3, j4, j5, j6, j7, j8, j9, j10, j11, j12⟩ := q_j_all hdc hf hg ha hb
  obtain ⟨o1, o2, o3, o4, o5⟩ := q_j3_G hdc hf hg ha hb hk kb
  obtain ⟨p1, p2, p3, p4, p5⟩ := q_j3_G hdc hf hg ha hb hl lb
  obtain ⟨x, hx⟩ := hd
  have e : l = k + q_jA f g * x := by omega
  subst e
  exact q_red_led hdc hn o3 p3 (q_j3_T o3.1.1 p3.1.1 (Int.mul_pos j8 j10))
theorem q_j_vw {d R : Int} {f g : q_f3} (hdc : q_dc d R) (hf : q_LF d R f) (hg : q_LF d R g) (ha : 0 < f.1) (hb : 0 < g.1) : ∃ v w, q_jA f g ∣ v * q_jB f g + w * q_jS f g - 1 := by
  obtain ⟨j1, j2, j3, j4, j5, j6, j7, j8, j9, j10, j11, j12⟩ := q_j_all hdc hf hg ha hb
  have bf := q_LF_b hdc hf
  have bg := q_LF_b hdc hg
  obtain ⟨s, hs⟩ : ∃ s, s = (f.2.1 + g.2.1) / 2 := ⟨_, rfl⟩
  obtain ⟨c0, hc0⟩ : ∃ c0 : Nat, c0 = Int.gcd f.1 g.1 := ⟨_, rfl⟩
  have he : q_je f g = (Int.gcd (c0 : Int) s : Int) := by rw [hc0, hs]; rfl
  have hc0p : 0 < (c0 : Int) ∧ (c0 : Int) ≤ 63 := by
    have h1 : c0 ∣ f.1.natAbs := by rw [hc0]; exact Nat.gcd_dvd_left _ _
    have h2 := Nat.le_of_dvd (by omega) h1
    have h3 := Nat.pos_of_dvd_of_pos h1 (by omega)
    omega
  rw [← hs] at j5
  obtain ⟨u, v, -, a2, -, -⟩ := p_X10_common (z := (fun _ _ => 0, fun _ _ => 0)) (a := f.1) (b := g.1) ⟨ha, by omega⟩ ⟨by omega, by omega⟩
  rw [← hc0] at a2
  obtain ⟨gu, gv, -, b2, -, -⟩ := p_X10_common (z := (fun _ _ => 0, fun _ _ => 0)) (a := (c0 : Int)) (b := s) hc0p ⟨by omega, by omega⟩
  rw [← he] at b2
  refine ⟨v * gu, gv, -(gu * u), ?_⟩
  refine Int.eq_of_mul_eq_mul_left (show q_je f g ≠ 0 by omega) ?_
  have h1 : q_je f g * (v * gu * q_jB f g + gv * q_jS f g - 1) = gu * (v * (q_je f g * q_jB f g)) + gv * (q_je f g * q_jS f g) - q_je f g := by grind
  have h2 : q_je f g * (q_jA f g * -(gu * u)) = -(gu * (u * (q_je f g * q_jA f g))) := by grind
  rw [h1, h2, ← j4, ← j5, ← j3]
  have h3 : gu * (u * f.1 + v * g.1) = gu * (c0 : Int) := by rw [a2]
  have h4 : gu * (u * f.1 + v * g.1) = gu * (u * f.1) + gu * (v * g.1) := by grind
  omega
/-- D below 0: both answer the same class -/
theorem q_join_neg {d R : Int} {i j : Nat} (hdc : q_dc d R) (h4 : q_d4 d) (hn : d < 0) (hi : i < q_nc2 d R) (hj : j < q_nc2 d R) : ∃ c : Nat, c < q_nc2 d R ∧ (∀ z, q_Cg d R z → q_TC d R z → ∃ L2, F_X0_joined z (q_i i) (q_i j) = some (q_i c, (z.1, L2)) ∧ ∀ m, m ≠ 10 → m ≠ 11 → m ≠ 12 → L2 m = z.2 m) ∧ (∀ z, q_Mg d R z → q_Mtab d R z → ∃ L2, F_X10_joined z (q_i i) (q_i j) = some (q_i c, (z.1, L2)) ∧ ∀ m, m ≠ 128 → L2 m = z.2 m) := by
  obtain ⟨hf, ha⟩ := q_hd_LF hdc h4 hi
  obtain ⟨hg, hb⟩ := q_hd_LF hdc h4 hj
  obtain ⟨v, w, hvw⟩ := q_j_vw hdc hf hg ha hb
  obtain ⟨zm, -, z0, z1, zt, -, -⟩ := p_becomes hdc h4 (fun _ _ => 0, fun _ _ => 0)
  obtain ⟨k, L, k1, k2, k3, -, -⟩ := p_X10_joined hdc h4 ⟨z0, z1⟩ zt hi hj
  obtain ⟨o1, o2, o3, o4, o5⟩ := q_j3_G hdc hf hg ha hb k3 ⟨k1, k2⟩
  refine ⟨q_kls d R (q_red d R (q_j3 d (q_hd d R i) (q_hd d R j) k)), q_kls_lt hdc h4 (q_red_LF hdc o3), fun z hC hT => ?_, fun z hM hT => ?_⟩
  · obtain ⟨l, L2, l1, l2, l3, l4, l5⟩ := p_X0_joined hdc h4 hC hT hi hj
    refine ⟨L2, ?_, l5⟩
    rw [l4, q_j3_neg hdc hn hf hg ha hb k3 l3 ⟨k1, k2⟩ ⟨by omega, l2⟩ (q_fits_uni hvw l3 k3)]
  · obtain ⟨l, L2, l1, l2, l3, l4, l5⟩ := p_X10_joined hdc h4 hM hT hi hj
    refine ⟨L2, ?_, l5⟩
    rw [l4, q_j3_neg hdc hn hf hg ha hb k3 l3 ⟨k1, k2⟩ ⟨l1, l2⟩ (q_fits_uni hvw l3 k3)]
