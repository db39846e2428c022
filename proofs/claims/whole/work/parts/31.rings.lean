/-! D above 0: STEPS of LEAST forms: they stay LEAST, change the sign, are told apart, and come again -/
theorem q_lst_p {d R a b c : Int} (hp : 0 < d) : q_lst d R a b c = true ↔ (0 < b ∧ b ≤ R ∧ R - b < 2 * a.natAbs ∧ 2 * (a.natAbs : Int) ≤ R + b) := by
  unfold q_lst
  rw [if_neg (by omega)]
  simp only [Bool.and_eq_true, decide_eq_true_eq]
theorem q_lst_sign {d R a b c : Int} (hd : q_dc d R) (hp : 0 < d) (h : q_fm d a b c) (hl : q_lst d R a b c = true) : 4 * ((a.natAbs * c.natAbs : Nat) : Int) = d - b * b ∧ (0 < a ↔ c < 0) := by
  obtain ⟨l1, l2, l3, l4⟩ := (q_lst_p hp).mp hl
  rcases hd with hd | ⟨g1, g2, g3, g4, g5⟩
  · omega
  · have h1 := q_sq_le (x := b) (M := R) ⟨by omega, by omega⟩
    have h2 := h.1
    have h3 : 4 * a * c < 0 := by omega
    have h4 : (4 * a * c).natAbs = 4 * (a.natAbs * c.natAbs) := by rw [Int.natAbs_mul, Int.natAbs_mul, Nat.mul_assoc]; rfl
    refine ⟨by omega, ?_⟩
    constructor
    · intro q
      rcases Int.lt_or_le c 0 with q2 | q2
      · exact q2
      · have := Int.mul_nonneg (show 0 ≤ 4 * a by omega) q2
        omega
    · intro q
      rcases Int.lt_or_le 0 a with q2 | q2
      · exact q2
      · have := Int.mul_nonneg_of_nonpos_of_nonpos (show 4 * a ≤ 0 by omega) (show c ≤ 0 by omega)
        omega
/-- seen from its other end it is LEAST too -/
theorem q_lst_rev {d R a b c : Int} (hd : q_dc d R) (hp : 0 < d) (h : q_fm d a b c) (hl : q_lst d R a b c = true) : R - b < 2 * (c.natAbs : Int) ∧ 2 * (c.natAbs : Int) ≤ R + b := by
  obtain ⟨h1, -⟩ := q_lst_sign hd hp h hl
  obtain ⟨l1, l2, l3, l4⟩ := (q_lst_p hp).mp hl
  have hc : 1 ≤ (c.natAbs : Int) := by have := h.2.2.1; omega
  rw [Int.natCast_mul] at h1
  generalize (a.natAbs : Int) = A at h1 l3 l4
  generalize (c.natAbs : Int) = C at h1 hc ⊢
  rcases hd with hd | ⟨g1, g2, g3, g4, g5⟩
  · omega
  · constructor
    · rcases Int.lt_or_le (R - b) (2 * C) with q | q
      · exact q
      · exfalso
        have h2 : (2 * A) * (2 * C) ≤ (R + b) * (R - b) := Int.mul_le_mul l4 q (by omega) (by omega)
        have h3 : (2 * A) * (2 * C) = 4 * (A * C) := by grind
        have h4 : (R + b) * (R - b) = R * R - b * b := by grind
        omega
    · rcases Int.lt_or_le (R + b) (2 * C) with q | q
      · exfalso
        have h2 : (R - b + 1) * (R + b + 1) ≤ (2 * A) * (2 * C) := Int.mul_le_mul (by omega) (by omega) (by omega) (by omega)
        have h3 : (2 * A) * (2 * C) = 4 * (A * C) := by grind
        have h4 : (R - b + 1) * (R + b + 1) = (R + 1) * (R + 1) - b * b := by grind
        omega
      · exact q
theorem q_nb_p {d R a b c : Int} (hd : q_dc d R) (hp : 0 < d) (h : q_fm d a b c) (hl : q_lst d R a b c = true) : q_nb d R b c = R - (R + b) % (2 * c.natAbs) := by
  obtain ⟨r1, r2⟩ := q_lst_rev hd hp h hl
  obtain ⟨l1, l2, l3, l4⟩ := (q_lst_p hp).mp hl
  unfold q_nb q_hi
  rw [if_neg (by omega)]
theorem q_st_lst {d R : Int} {f : q_f3} (hd : q_dc d R) (hp : 0 < d) (h : q_F3 d f) (hl : q_L3 d R f = true) : q_L3 d R (q_st d R f) = true ∧ (0 < f.1 ↔ (q_st d R f).1 < 0) := by
  obtain ⟨a, b, c⟩ := f
  have h : q_fm d a b c := h
  have hl : q_lst d R a b c = true := hl
  obtain ⟨r1, r2⟩ := q_lst_rev hd hp h hl
  obtain ⟨l1, l2, l3, l4⟩ := (q_lst_p hp).mp hl
  refine ⟨?_, (q_lst_sign hd hp h hl).2⟩
  show q_lst d R c (q_nb d R b c) (q_nc d R b c) = true
  rw [q_lst_p hp]
  have hc : c ≠ 0 := h.2.2.1
  have h1 := q_nb_range (d := d) (R := R) (b := b) hc
  unfold q_hi at h1
  rw [if_neg (by omega)] at h1
  -- what comes has the rest of - b, so it is at least 2 |c| - b
  have h2 : 2 * (c.natAbs : Int) - b ≤ q_nb d R b c := by
    have e := q_nb_p hd hp h hl
    have e2 := Int.mul_ediv_add_emod (R + b) (2 * (c.natAbs : Int))
    have e3 : q_nb d R b c + b = 2 * (c.natAbs : Int) * ((R + b) / (2 * (c.natAbs : Int))) := by omega
    have e4 : 1 ≤ (R + b) / (2 * (c.natAbs : Int)) := Int.le_ediv_of_mul_le (by omega) (by omega)
    have e5 : 2 * (c.natAbs : Int) * 1 ≤ 2 * (c.natAbs : Int) * ((R + b) / (2 * (c.natAbs : Int))) := Int.mul_le_mul_of_nonneg_left (by omega) (by omega)
    omega
  omega
theorem q_st_inj {d R : Int} {f g : q_f3} (hd : q_dc d R) (hp : 0 < d) (hf : q_F3 d f) (hg : q_F3 d g) (lf : q_L3 d R f = true) (lg : q_L3 d R g = true) (h : q_st d R f = q_st d R g) : f = g := by
  obtain ⟨a, b, c⟩ := f
  obtain ⟨a2, b2, c2⟩ := g
  have hf : q_fm d a b c := hf
  have hg : q_fm d a2 b2 c2 := hg
  have lf : q_lst d R a b c = true := lf
  have lg : q_lst d R a2 b2 c2 = true := lg
  have e1 : c = c2 := congrArg (fun x => x.1) h
  subst e1
  have e2 : q_nb d R b c = q_nb d R b2 c := congrArg (fun x => x.2.1) h
  rw [q_nb_p hd hp hf lf, q_nb_p hd hp hg lg] at e2
  obtain ⟨r1, r2⟩ := q_lst_rev hd hp hf lf
  obtain ⟨s1, s2⟩ := q_lst_rev hd hp hg lg
  obtain ⟨l1, l2, l3, l4⟩ := (q_lst_p hp).mp lf
  obtain ⟨m1, m2, m3, m4⟩ := (q_lst_p hp).mp lg
  have hb : b = b2 := by
    have e3 : (R + b) % (2 * (c.natAbs : Int)) = (R + b2) % (2 * (c.natAbs : Int)) := by omega
    have e4 := Int.mul_ediv_add_emod (R + b) (2 * (c.natAbs : Int))
    have e5 := Int.mul_ediv_add_emod (R + b2) (2 * (c.natAbs : Int))
    have hc : 1 ≤ (c.natAbs : Int) := by have := hf.2.2.1; omega
    generalize (R + b) / (2 * (c.natAbs : Int)) = x at e4
    generalize (R + b2) / (2 * (c.natAbs : Int)) = y at e5
    generalize (c.natAbs : Int) = C at e3 e4 e5 r1 r2 s1 s2 hc
    have e6 : b - b2 = 2 * C * (x - y) := by rw [Int.mul_sub]; omega
    rcases Int.lt_trichotomy x y with q | q | q
    · have : 2 * C * (x - y) ≤ 2 * C * (-1) := Int.mul_le_mul_of_nonneg_left (by omega) (by omega)
      omega
    · subst q
      omega
    · have : 2 * C * 1 ≤ 2 * C * (x - y) := Int.mul_le_mul_of_nonneg_left (by omega) (by omega)
      omega
  subst hb
  have ha : a = a2 := by
    have h1 := hf.1
    have h2 := hg.1
    have hc := hf.2.2.1
    have h3 : (4 * c) * a = (4 * c) * a2 := by
      have : 4 * a * c = (4 * c) * a := by grind
      have : 4 * a2 * c = (4 * c) * a2 := by grind
      omega
    exact Int.eq_of_mul_eq_mul_left (by omega) h3
  rw [ha]
theorem q_pigeon : ∀ (N : Nat) (g : Nat → Nat), (∀ i, i ≤ N → g i < N) → ∃ i j, i < j ∧ j ≤ N ∧ g i = g j := by
  intro N
  induction N with
  | zero => intro g h; exact absurd (h 0 (Nat.le_refl 0)) (by omega)
  | succ N ih =>
    intro g h
    by_cases hx : ∃ i, i ≤ N ∧ g i = g (N + 1)
    · obtain ⟨i, h1, h2⟩ := hx
      exact ⟨i, N + 1, by omega, by omega, h2⟩
    · have hne : ∀ i, i ≤ N → g i ≠ g (N + 1) := fun i hi e => hx ⟨i, hi, e⟩
      obtain ⟨i, j, h1, h2, h3⟩ := ih (fun i => if g (N + 1) < g i then g i - 1 else g i) (fun i hi => by
        have h4 := h i (by omega)
        have h5 := h (N + 1) (by omega)
        have h6 := hne i hi
        split <;> omega)
      refine ⟨i, j, h1, by omega, ?_⟩
      have h6 := hne i (by omega)
      have h7 := hne j (by omega)
      split at h3 <;> split at h3 <;> omega
theorem q_its_lst {d R : Int} (hd : q_dc d R) (hp : 0 < d) : ∀ (n : Nat) (f : q_f3), q_F3 d f → q_L3 d R f = true → q_L3 d R (q_its d R n f) = true
  | 0, _, _, h => h
  | n + 1, f, hF, h => q_its_lst hd hp n (q_st d R f) (q_F3_st hd hF) (q_st_lst hd hp hF h).1
theorem q_its_succ (d R : Int) (n : Nat) (f : q_f3) : q_its d R (n + 1) f = q_st d R (q_its d R n f) := q_its_add d R n 1 f
theorem q_its_inj {d R : Int} (hd : q_dc d R) (hp : 0 < d) : ∀ (n : Nat) (f g : q_f3), q_F3 d f → q_F3 d g → q_L3 d R f = true → q_L3 d R g = true → q_its d R n f = q_its d R n g → f = g
  | 0, _, _, _, _, _, _, h => h
  | n + 1, f, g, hf, hg, lf, lg, h => q_st_inj hd hp hf hg lf lg (q_its_inj hd hp n _ _ (q_F3_st hd hf) (q_F3_st hd hg) (q_st_lst hd hp hf lf).1 (q_st_lst hd hp hg lg).1 h)
/-- a LEAST form by a number below 16384 -/
def q_code (f : q_f3) : Nat := (f.1 + 64).toNat * 64 + f.2.1.toNat
theorem q_code_lt {d R : Int} {f : q_f3} (hd : q_dc d R) (hp : 0 < d) (hl : q_L3 d R f = true) : q_code f < 8192 := by
  have hR := q_dc_R hd
  obtain ⟨a, b, c⟩ := f
  have hl : q_lst d R a b c = true := hl
  obtain ⟨l1, l2, l3, l4⟩ := (q_lst_p hp).mp hl
  simp only [q_code]
  omega
theorem q_code_inj {d R : Int} {f g : q_f3} (hd : q_dc d R) (hp : 0 < d) (hf : q_F3 d f) (hg : q_F3 d g) (lf : q_L3 d R f = true) (lg : q_L3 d R g = true) (h : q_code f = q_code g) : f = g := by
  have hR := q_dc_R hd
  obtain ⟨a, b, c⟩ := f
  obtain ⟨a2, b2, c2⟩ := g
  have hf : q_fm d a b c := hf
  have hg : q_fm d a2 b2 c2 := hg
  have lf : q_lst d R a b c = true := lf
  have lg : q_lst d R a2 b2 c2 = true := lg
  obtain ⟨l1, l2, l3, l4⟩ := (q_lst_p hp).mp lf
  obtain ⟨m1, m2, m3, m4⟩ := (q_lst_p hp).mp lg
  simp only [q_code] at h
  have e1 : a = a2 := by omega
  have e2 : b = b2 := by omega
  subst e1
  subst e2
  have h1 := hf.1
  have h2 := hg.1
  have ha := hf.2.1
  have h3 : (4 * a) * c = (4 * a) * c2 := by omega
  rw [Int.eq_of_mul_eq_mul_left (by omega) h3]
/-- a RING comes again -/
theorem q_ring {d R : Int} {f : q_f3} (hd : q_dc d R) (hp : 0 < d) (hf : q_F3 d f) (lf : q_L3 d R f = true) : ∃ n, 0 < n ∧ n ≤ 8192 ∧ q_its d R n f = f ∧ ∀ m, 0 < m → m < n → q_its d R m f ≠ f := by
  obtain ⟨i, j, h1, h2, h3⟩ := q_pigeon 8192 (fun n => q_code (q_its d R n f)) (fun n _ => q_code_lt hd hp (q_its_lst hd hp n f hf lf))
  have h4 := q_code_inj hd hp (q_F3_its hd i f hf) (q_F3_its hd j f hf) (q_its_lst hd hp i f hf lf) (q_its_lst hd hp j f hf lf) h3
  have h5 : q_its d R i f = q_its d R i (q_its d R (j - i) f) := by
    rw [← q_its_add, show j - i + i = j by omega]
    exact h4
  have h6 := q_its_inj hd hp i _ _ hf (q_F3_its hd (j - i) f hf) lf (q_its_lst hd hp (j - i) f hf lf) h5
  obtain ⟨k, g1, g2⟩ := pk_least (fun n => 0 < n ∧ q_its d R n f = f) ⟨j - i, by omega, h6.symm⟩
  refine ⟨k, g1.1, ?_, g1.2, fun m hm hk e => g2 m hk ⟨hm, e⟩⟩
  rcases Nat.lt_or_ge (j - i) k with q | q
  · exact absurd ⟨by omega, h6.symm⟩ (g2 (j - i) q)
  · omega
