/-! takes: the way in whole numbers; the class -/
abbrev q_z4 : Type := Int × Int × Int × Int
def q_wz (t : Int) (w : q_z4) : q_z4 := (w.2.1, -w.1 + w.2.1 * t, w.2.2.2, -w.2.2.1 + w.2.2.2 * t)
def q_iwz (d R : Int) : Nat → q_f3 → q_z4 → q_z4
  | 0, _, w => w
  | n + 1, f, w => q_iwz d R n (q_st d R f) (q_wz (q_tt2 d R f.2.1 f.2.2) w)
def q_lw (w : q_z4) : q_W4 := (q_l w.1, q_l w.2.1, q_l w.2.2.1, q_l w.2.2.2)
theorem q_itw_z (d R : Int) : ∀ (n : Nat) (f : q_f3) (w : q_z4), q_itw d R n f (q_lw w) = q_lw (q_iwz d R n f w)
  | 0, _, _ => rfl
  | n + 1, f, w => by
    have e : q_wst (q_tt2 d R f.2.1 f.2.2) (q_lw w) = q_lw (q_wz (q_tt2 d R f.2.1 f.2.2) w) := by
      unfold q_wst q_lw q_wz
      simp only [q_l_neg, q_l_mul, q_l_add]
    show q_itw d R n (q_st d R f) (q_wst (q_tt2 d R f.2.1 f.2.2) (q_lw w)) = _
    rw [e]
    exact q_itw_z d R n (q_st d R f) _
/-- a form seen through a substitution -/
def q_ev (f : q_f3) (p : Int × Int) : Int := f.1 * (p.1 * p.1) + f.2.1 * (p.1 * p.2) + f.2.2 * (p.2 * p.2)
def q_ph (w : q_z4) (p : Int × Int) : Int × Int := (w.1 * p.1 + w.2.1 * p.2, w.2.2.1 * p.1 + w.2.2.2 * p.2)
def q_det (w : q_z4) : Int := w.1 * w.2.2.2 - w.2.1 * w.2.2.1
theorem q_det_wz (t : Int) (w : q_z4) : q_det (q_wz t w) = q_det w := by
  unfold q_det q_wz
  simp only
  grind
theorem q_det_it (d R : Int) : ∀ (n : Nat) (f : q_f3) (w : q_z4), q_det (q_iwz d R n f w) = q_det w
  | 0, _, _ => rfl
  | n + 1, f, w => by
    show q_det (q_iwz d R n (q_st d R f) (q_wz (q_tt2 d R f.2.1 f.2.2) w)) = q_det w
    rw [q_det_it d R n, q_det_wz]
theorem q_ev_st {d R : Int} {g : q_f3} (hg : q_F3 d g) (f : q_f3) (w : q_z4) (h : ∀ p, q_ev f (q_ph w p) = q_ev g p) (p : Int × Int) : q_ev f (q_ph (q_wz (q_tt2 d R g.2.1 g.2.2) w) p) = q_ev (q_st d R g) p := by
  obtain ⟨a, b, c⟩ := g
  have hg : q_fm d a b c := hg
  have e1 := q_nb_t (d := d) (R := R) (b := b) hg.2.2.1
  have e2 := q_nc_eq (d := d) (R := R) hg.2.2.1 hg.1
  have e3 : q_ph (q_wz (q_tt2 d R b c) w) p = q_ph w (-p.2, p.1 + q_tt2 d R b c * p.2) := by
    unfold q_ph q_wz
    simp only
    refine Prod.ext ?_ ?_
    · show w.2.1 * p.1 + (-w.1 + w.2.1 * q_tt2 d R b c) * p.2 = w.1 * -p.2 + w.2.1 * (p.1 + q_tt2 d R b c * p.2)
      grind
    · show w.2.2.2 * p.1 + (-w.2.2.1 + w.2.2.2 * q_tt2 d R b c) * p.2 = w.2.2.1 * -p.2 + w.2.2.2 * (p.1 + q_tt2 d R b c * p.2)
      grind
  show q_ev f (q_ph (q_wz (q_tt2 d R b c) w) p) = q_ev (c, q_nb d R b c, q_nc d R b c) p
  rw [e3, h, e2, show q_nb d R b c = 2 * c * q_tt2 d R b c - b by omega]
  unfold q_ev
  simp only
  grind
theorem q_ev_it {d R : Int} (hdc : q_dc d R) (f : q_f3) : ∀ (n : Nat) (g : q_f3) (w : q_z4), q_F3 d g → (∀ p, q_ev f (q_ph w p) = q_ev g p) → ∀ p, q_ev f (q_ph (q_iwz d R n g w) p) = q_ev (q_its d R n g) p
  | 0, _, _, _, h, p => h p
  | n + 1, g, w, hg, h, p => q_ev_it hdc f n (q_st d R g) _ (q_F3_st hdc hg) (q_ev_st hg f w h) p
theorem q_ph_inj {w : q_z4} (hd : q_det w = 1) {p q : Int × Int} (h : q_ph w p = q_ph w q) : p = q := by
  obtain ⟨a, b, c, e⟩ := w
  obtain ⟨x, y⟩ := p
  obtain ⟨u, v⟩ := q
  have h1 : a * x + b * y = a * u + b * v := congrArg Prod.fst h
  have h2 : c * x + e * y = c * u + e * v := congrArg Prod.snd h
  have hd : a * e - b * c = 1 := hd
  have ex : x = u := by
    have e1 : (a * e - b * c) * x = e * (a * x + b * y) - b * (c * x + e * y) := by grind
    have e2 : (a * e - b * c) * u = e * (a * u + b * v) - b * (c * u + e * v) := by grind
    rw [hd, h1, h2] at e1
    rw [hd] at e2
    omega
  have ey : y = v := by
    have e1 : (a * e - b * c) * y = a * (c * x + e * y) - c * (a * x + b * y) := by grind
    have e2 : (a * e - b * c) * v = a * (c * u + e * v) - c * (a * u + b * v) := by grind
    rw [hd, h1, h2] at e1
    rw [hd] at e2
    omega
  rw [ex, ey]
theorem q_ph_sur {w : q_z4} (hd : q_det w = 1) (p : Int × Int) : ∃ q, q_ph w q = p := by
  obtain ⟨a, b, c, e⟩ := w
  obtain ⟨x, y⟩ := p
  have hd : a * e - b * c = 1 := hd
  refine ⟨(e * x - b * y, a * y - c * x), Prod.ext ?_ ?_⟩
  · show a * (e * x - b * y) + b * (a * y - c * x) = x
    have : a * (e * x - b * y) + b * (a * y - c * x) = (a * e - b * c) * x := by grind
    rw [this, hd]
    omega
  · show c * (e * x - b * y) + e * (a * y - c * x) = y
    have : c * (e * x - b * y) + e * (a * y - c * x) = (a * e - b * c) * y := by grind
    rw [this, hd]
    omega
theorem q_ph_neg (w : q_z4) (p : Int × Int) : q_ph w (-p.1, -p.2) = (-(q_ph w p).1, -(q_ph w p).2) := by
  unfold q_ph
  simp only
  refine Prod.ext ?_ ?_
  · show w.1 * -p.1 + w.2.1 * -p.2 = -(w.1 * p.1 + w.2.1 * p.2)
    grind
  · show w.2.2.1 * -p.1 + w.2.2.2 * -p.2 = -(w.2.2.1 * p.1 + w.2.2.2 * p.2)
    grind
/-- solutions, by the square that is completed -/
theorem q_ev_sq {d : Int} {f : q_f3} (hf : f.2.1 * f.2.1 - 4 * f.1 * f.2.2 = d) (p : Int × Int) : 4 * f.1 * q_ev f p = (2 * f.1 * p.1 + f.2.1 * p.2) * (2 * f.1 * p.1 + f.2.1 * p.2) - d * (p.2 * p.2) := by
  unfold q_ev
  rw [← hf]
  grind
theorem q_ev_sq2 {d : Int} {f : q_f3} (hf : f.2.1 * f.2.1 - 4 * f.1 * f.2.2 = d) (p : Int × Int) : 4 * f.2.2 * q_ev f p = (2 * f.2.2 * p.2 + f.2.1 * p.1) * (2 * f.2.2 * p.2 + f.2.1 * p.1) - d * (p.1 * p.1) := by
  unfold q_ev
  rw [← hf]
  grind
theorem q_ev_neg (f : q_f3) (p : Int × Int) : q_ev f (-p.1, -p.2) = q_ev f p := by
  unfold q_ev
  simp only
  grind
def q_tkS (f : q_f3) (n : Int) (p : Int × Int) : Prop := q_ev f p = n
theorem q_tk_b {d n : Int} {f : q_f3} {p : Int × Int} (hn : d < 0) (hG : q_G d f) (h1 : 1 ≤ n) (h2 : n ≤ 100000) (h : q_tkS f n p) : -1000000 < p.1 ∧ p.1 < 1000000 ∧ -1000000 < p.2 ∧ p.2 < 1000000 := by
  have hF := hG.1
  have hp := hF.2.2.2 hn
  have e1 := q_ev_sq hF.1 p
  have e2 := q_ev_sq2 hF.1 p
  have h : q_ev f p = n := h
  rw [h] at e1 e2
  have ha := hG.2.2.1.2
  have hc := hG.2.2.2.2.2
  have s1 := q_sq_nn (2 * f.1 * p.1 + f.2.1 * p.2)
  have s2 := q_sq_nn (2 * f.2.2 * p.2 + f.2.1 * p.1)
  have b1 : 4 * f.1 * n ≤ 4000000 * 100000 := Int.mul_le_mul (by omega) h2 (by omega) (by omega)
  have b2 : 4 * f.2.2 * n ≤ 4000000 * 100000 := Int.mul_le_mul (by omega) h2 (by omega) (by omega)
  have key : ∀ x : Int, -d * (x * x) ≤ 4000000 * 100000 → -1000000 < x ∧ x < 1000000 := by
    intro x hx
    have h3 : 1 * (x * x) ≤ -d * (x * x) := Int.mul_le_mul_of_nonneg_right (by omega) (q_sq_nn x)
    have h4 : x.natAbs < 1000000 := by
      rcases Nat.lt_or_ge x.natAbs 1000000 with q | q
      · exact q
      · have h5 : 1000000 * 1000000 ≤ x.natAbs * x.natAbs := Nat.mul_le_mul q q
        have h6 : ((x.natAbs * x.natAbs : Nat) : Int) = x * x := by rw [Int.natAbs_mul_self]
        omega
    omega
  have k2 := key p.2 (by rw [Int.neg_mul]; omega)
  have k1 := key p.1 (by rw [Int.neg_mul]; omega)
  exact ⟨k1.1, k1.2, k2.1, k2.2⟩
