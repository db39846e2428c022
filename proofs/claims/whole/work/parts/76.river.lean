/-! D above 0: LEAST forms of which a substitution leads one to the other lie in one RING -/
/-- what the signs of a LEAST form with a above 0 say -/
def q_rv (f : q_f3) : Prop := 0 < f.1 ∧ f.2.2 < 0 ∧ 0 < f.2.1 ∧ 0 < f.1 + f.2.1 + f.2.2 ∧ f.1 - f.2.1 + f.2.2 < 0
theorem q_lst_rv {d R : Int} {f : q_f3} (hd : q_dc d R) (hp : 0 < d) (h : q_F3 d f) (hl : q_L3 d R f = true) (ha : 0 < f.1) : q_rv f := by
  obtain ⟨a, b, c⟩ := f
  have ha : 0 < a := ha
  have hl : q_lst d R a b c = true := hl
  have h : q_fm d a b c := h
  have h1 := (q_lst_p hp).mp hl
  have h2 := q_lst_rev hd hp h hl
  have h3 := (q_lst_sign hd hp h hl).2.mp ha
  show 0 < a ∧ c < 0 ∧ 0 < b ∧ 0 < a + b + c ∧ a - b + c < 0
  omega
def q_act (f : q_f3) (p q r s : Int) : q_f3 := (f.1 * (p * p) + f.2.1 * (p * r) + f.2.2 * (r * r), 2 * f.1 * (p * q) + f.2.1 * (p * s + q * r) + 2 * f.2.2 * (r * s), f.1 * (q * q) + f.2.1 * (q * s) + f.2.2 * (s * s))
def q_rL (f : q_f3) : q_f3 := (f.1 + f.2.1 + f.2.2, f.2.1 + 2 * f.2.2, f.2.2)
def q_rU (f : q_f3) : q_f3 := (f.1, f.2.1 + 2 * f.1, f.1 + f.2.1 + f.2.2)
def q_rho (f : q_f3) : q_f3 := if 0 < f.1 + f.2.1 + f.2.2 then q_rL f else q_rU f
def q_rhs : Nat → q_f3 → q_f3
  | 0, f => f
  | n + 1, f => q_rhs n (q_rho f)
theorem q_rhs_add : ∀ (m n : Nat) (f : q_f3), q_rhs (m + n) f = q_rhs n (q_rhs m f)
  | 0, n, f => by rw [Nat.zero_add]; rfl
  | m + 1, n, f => by rw [show m + 1 + n = (m + n) + 1 by omega]; exact q_rhs_add m n (q_rho f)
theorem q_rhs_succ (n : Nat) (f : q_f3) : q_rhs (n + 1) f = q_rho (q_rhs n f) := q_rhs_add n 1 f
theorem q_act_L (f : q_f3) (p q r s : Int) : q_act f p q r s = q_act (q_rL f) p q (r - p) (s - q) := by
  obtain ⟨a, b, c⟩ := f
  refine Prod.ext ?_ (Prod.ext ?_ ?_)
  · show a * (p * p) + b * (p * r) + c * (r * r) = (a + b + c) * (p * p) + (b + 2 * c) * (p * (r - p)) + c * ((r - p) * (r - p))
    grind
  · show 2 * a * (p * q) + b * (p * s + q * r) + 2 * c * (r * s) = 2 * (a + b + c) * (p * q) + (b + 2 * c) * (p * (s - q) + q * (r - p)) + 2 * c * ((r - p) * (s - q))
    grind
  · show a * (q * q) + b * (q * s) + c * (s * s) = (a + b + c) * (q * q) + (b + 2 * c) * (q * (s - q)) + c * ((s - q) * (s - q))
    grind
theorem q_act_U (f : q_f3) (p q r s : Int) : q_act f p q r s = q_act (q_rU f) (p - r) (q - s) r s := by
  obtain ⟨a, b, c⟩ := f
  refine Prod.ext ?_ (Prod.ext ?_ ?_)
  · show a * (p * p) + b * (p * r) + c * (r * r) = a * ((p - r) * (p - r)) + (b + 2 * a) * ((p - r) * r) + (a + b + c) * (r * r)
    grind
  · show 2 * a * (p * q) + b * (p * s + q * r) + 2 * c * (r * s) = 2 * a * ((p - r) * (q - s)) + (b + 2 * a) * ((p - r) * s + (q - s) * r) + 2 * (a + b + c) * (r * s)
    grind
  · show a * (q * q) + b * (q * s) + c * (s * s) = a * ((q - s) * (q - s)) + (b + 2 * a) * ((q - s) * s) + (a + b + c) * (s * s)
    grind
theorem q_rows {p q r s : Int} (hp : 0 ≤ p) (hq : 0 ≤ q) (hr : 0 ≤ r) (hs : 0 ≤ s) (hdet : p * s - q * r = 1) (hI : ¬ (p = 1 ∧ q = 0 ∧ r = 0 ∧ s = 1)) : (p ≤ r ∧ q ≤ s) ∨ (r ≤ p ∧ s ≤ q) := by
  rcases Int.lt_or_le r p with a1 | a1
  · rcases Int.lt_or_le q s with a2 | a2
    · exfalso
      have h3 : (r + 1) * (q + 1) ≤ p * s := Int.mul_le_mul (by omega) (by omega) (by omega) (by omega)
      have h4 : (r + 1) * (q + 1) = q * r + r + q + 1 := by grind
      have h5 : r = 0 := by omega
      have h6 : q = 0 := by omega
      have h7 : q * r = 0 := by rw [h5, Int.mul_zero]
      have h8 : p * 1 ≤ p * s := Int.mul_le_mul_of_nonneg_left (by omega) (by omega)
      have h9 : 1 * s ≤ p * s := Int.mul_le_mul_of_nonneg_right (by omega) (by omega)
      exact hI ⟨by omega, h6, h5, by omega⟩
    · exact Or.inr ⟨by omega, by omega⟩
  · rcases Int.lt_or_le s q with a2 | a2
    · rcases Int.lt_or_le p r with a3 | a3
      · exfalso
        have h3 : (s + 1) * (p + 1) ≤ q * r := Int.mul_le_mul (by omega) (by omega) (by omega) (by omega)
        have h4 : (s + 1) * (p + 1) = p * s + s + p + 1 := by grind
        omega
      · exact Or.inr ⟨by omega, by omega⟩
    · exact Or.inl ⟨a1, a2⟩
theorem q_det0 {p q r s : Int} (hp : 0 ≤ p) (hq : 0 ≤ q) (hdet : p * s - q * r = 1) : 0 < p + q := by
  rcases Int.lt_or_le 0 (p + q) with h | h
  · exact h
  · have h1 : p = 0 := by omega
    have h2 : q = 0 := by omega
    rw [h1, h2, Int.zero_mul, Int.zero_mul] at hdet
    omega
theorem q_path {d R : Int} (hd : q_dc d R) : ∀ (n : Nat) (f : q_f3) (p q r s : Int), 0 ≤ p → 0 ≤ q → 0 ≤ r → 0 ≤ s → p * s - q * r = 1 → p + q + r + s ≤ n → f.2.1 * f.2.1 - 4 * f.1 * f.2.2 = d → 0 < f.1 → f.2.2 < 0 → 0 < (q_act f p q r s).1 → (q_act f p q r s).2.2 < 0 → ∃ m, q_rhs m f = q_act f p q r s := by
  intro n
  induction n with
  | zero =>
    intro f p q r s hp hq hr hs hdet hn
    have := q_det0 hp hq hdet
    omega
  | succ n ih =>
    intro f p q r s hp hq hr hs hdet hn hD ha hc h1 h2
    have hne : f.1 + f.2.1 + f.2.2 ≠ 0 := by
      intro e
      have e2 : f.2.1 = -(f.1 + f.2.2) := by omega
      refine q_sq_ne hd (x := f.1 - f.2.2) ?_
      rw [← hD, e2]
      grind
    by_cases hI : p = 1 ∧ q = 0 ∧ r = 0 ∧ s = 1
    · obtain ⟨rfl, rfl, rfl, rfl⟩ := hI
      refine ⟨0, ?_⟩
      unfold q_act
      simp only [q_rhs]
      simp
    · have rows := q_rows hp hq hr hs hdet hI
      have hpq := q_det0 hp hq hdet
      have hrs : 0 < r + s := by
        have := q_det0 (p := s) (q := r) (r := q) (s := p) hs hr (by rw [Int.mul_comm s p, Int.mul_comm r q]; exact hdet)
        omega
      rcases Int.lt_or_le 0 (f.1 + f.2.1 + f.2.2) with hv | hv
      · have hrho : q_rho f = q_rL f := if_pos hv
        rcases rows with ⟨a1, a2⟩ | ⟨a1, a2⟩
        · rw [q_act_L f p q r s] at h1 h2 ⊢
          obtain ⟨m, hm⟩ := ih (q_rL f) p q (r - p) (s - q) hp hq (by omega) (by omega) (by rw [← hdet]; grind) (by omega) (by rw [← hD]; show (f.2.1 + 2 * f.2.2) * (f.2.1 + 2 * f.2.2) - 4 * (f.1 + f.2.1 + f.2.2) * f.2.2 = _; grind) hv hc h1 h2
          exact ⟨m + 1, by show q_rhs m (q_rho f) = _; rw [hrho]; exact hm⟩
        · exfalso
          rw [q_act_U f p q r s] at h2
          have h3 : (q_act (q_rU f) (p - r) (q - s) r s).2.2 = f.1 * ((q - s) * (q - s)) + (f.2.1 + 2 * f.1) * ((q - s) * s) + (f.1 + f.2.1 + f.2.2) * (s * s) := rfl
          have h4 : 0 ≤ f.1 * ((q - s) * (q - s)) := Int.mul_nonneg (by omega) (Int.mul_nonneg (by omega) (by omega))
          have h5 : 0 ≤ (f.2.1 + 2 * f.1) * ((q - s) * s) := Int.mul_nonneg (by omega) (Int.mul_nonneg (by omega) (by omega))
          have h6 : 0 ≤ (f.1 + f.2.1 + f.2.2) * (s * s) := Int.mul_nonneg (by omega) (Int.mul_nonneg (by omega) (by omega))
          omega
      · have hrho : q_rho f = q_rU f := if_neg (by omega)
        have hv2 : f.1 + f.2.1 + f.2.2 < 0 := by omega
        rcases rows with ⟨a1, a2⟩ | ⟨a1, a2⟩
        · exfalso
          rw [q_act_L f p q r s] at h1
          have h3 : (q_act (q_rL f) p q (r - p) (s - q)).1 = (f.1 + f.2.1 + f.2.2) * (p * p) + (f.2.1 + 2 * f.2.2) * (p * (r - p)) + f.2.2 * ((r - p) * (r - p)) := rfl
          have h4 : (f.1 + f.2.1 + f.2.2) * (p * p) ≤ 0 := Int.mul_nonpos_of_nonpos_of_nonneg (by omega) (Int.mul_nonneg (by omega) (by omega))
          have h5 : (f.2.1 + 2 * f.2.2) * (p * (r - p)) ≤ 0 := Int.mul_nonpos_of_nonpos_of_nonneg (by omega) (Int.mul_nonneg (by omega) (by omega))
          have h6 : f.2.2 * ((r - p) * (r - p)) ≤ 0 := Int.mul_nonpos_of_nonpos_of_nonneg (by omega) (Int.mul_nonneg (by omega) (by omega))
          omega
        · rw [q_act_U f p q r s] at h1 h2 ⊢
          obtain ⟨m, hm⟩ := ih (q_rU f) (p - r) (q - s) r s (by omega) (by omega) hr hs (by rw [← hdet]; grind) (by omega) (by rw [← hD]; show (f.2.1 + 2 * f.1) * (f.2.1 + 2 * f.1) - 4 * f.1 * (f.1 + f.2.1 + f.2.2) = _; grind) ha hv2 h1 h2
          exact ⟨m + 1, by show q_rhs m (q_rho f) = _; rw [hrho]; exact hm⟩
/-- runs of one letter -/
theorem q_runL (f : q_f3) (k : Nat) (h : ∀ i : Nat, i ≤ k → 0 < f.1 + f.2.1 * i + f.2.2 * (i * i)) : ∀ i : Nat, i ≤ k → q_rhs i f = (f.1 + f.2.1 * i + f.2.2 * (i * i), f.2.1 + 2 * f.2.2 * i, f.2.2) := by
  intro i
  induction i with
  | zero =>
    intro _
    simp [q_rhs]
  | succ i ih =>
    intro hi
    rw [q_rhs_succ, ih (by omega)]
    have h1 := h (i + 1) hi
    rw [show ((i + 1 : Nat) : Int) = (i : Int) + 1 from rfl] at h1 ⊢
    generalize (i : Int) = x at h1 ⊢
    obtain ⟨a, b, c⟩ := f
    have h1 : 0 < a + b * (x + 1) + c * ((x + 1) * (x + 1)) := h1
    have e : a + b * x + c * (x * x) + (b + 2 * c * x) + c = a + b * (x + 1) + c * ((x + 1) * (x + 1)) := by grind
    have hc : 0 < a + b * x + c * (x * x) + (b + 2 * c * x) + c := by omega
    refine (if_pos hc).trans ?_
    refine Prod.ext e (Prod.ext ?_ rfl)
    show b + 2 * c * x + 2 * c = b + 2 * c * (x + 1)
    grind
theorem q_runU (f : q_f3) (l : Nat) (h : ∀ i : Nat, i ≤ l → f.1 * (i * i) + f.2.1 * i + f.2.2 < 0) : ∀ i : Nat, i ≤ l → q_rhs i f = (f.1, f.2.1 + 2 * f.1 * i, f.1 * (i * i) + f.2.1 * i + f.2.2) := by
  intro i
  induction i with
  | zero =>
    intro _
    simp [q_rhs]
  | succ i ih =>
    intro hi
    rw [q_rhs_succ, ih (by omega)]
    have h1 := h (i + 1) hi
    rw [show ((i + 1 : Nat) : Int) = (i : Int) + 1 from rfl] at h1 ⊢
    generalize (i : Int) = x at h1 ⊢
    obtain ⟨a, b, c⟩ := f
    have h1 : a * ((x + 1) * (x + 1)) + b * (x + 1) + c < 0 := h1
    have e : a + (b + 2 * a * x) + (a * (x * x) + b * x + c) = a * ((x + 1) * (x + 1)) + b * (x + 1) + c := by grind
    have hc : ¬ 0 < a + (b + 2 * a * x) + (a * (x * x) + b * x + c) := by omega
    refine (if_neg hc).trans ?_
    refine Prod.ext rfl (Prod.ext ?_ e)
    show b + 2 * a * x + 2 * a = b + 2 * a * (x + 1)
    grind
theorem q_cv {a b c i k : Int} (ha : 0 < a) (hc : c < 0) (hi : 0 ≤ i) (hik : i ≤ k) (hk : 0 < a + b * k + c * (k * k)) : 0 < a + b * i + c * (i * i) := by
  rcases Int.lt_or_le i k with h | h
  · rcases Int.lt_or_le 0 (a + b * i + c * (i * i)) with q | q
    · exact q
    · have h1 : k * (a + b * i + c * (i * i)) ≤ 0 := Int.mul_nonpos_of_nonneg_of_nonpos (by omega) q
      have h2 : k * (a + b * i + c * (i * i)) = (k - i) * a + i * (a + b * k + c * (k * k)) + (-c) * (i * (k * (k - i))) := by grind
      have h3 : 0 < (k - i) * a := Int.mul_pos (by omega) ha
      have h4 : 0 ≤ i * (a + b * k + c * (k * k)) := Int.mul_nonneg hi (by omega)
      have h5 : 0 ≤ (-c) * (i * (k * (k - i))) := Int.mul_nonneg (by omega) (Int.mul_nonneg hi (Int.mul_nonneg (by omega) (by omega)))
      omega
  · rw [show i = k by omega]
    exact hk
/-- two STEPS are a run of L and one of U, and between them nothing is LEAST -/
theorem q_two {d R : Int} {f : q_f3} (hd : q_dc d R) (hp : 0 < d) (h : q_F3 d f) (hl : q_L3 d R f = true) (ha : 0 < f.1) : ∃ K : Nat, 0 < K ∧ q_rhs K f = q_st d R (q_st d R f) ∧ ∀ i, 0 < i → i < K → ¬ q_rv (q_rhs i f) := by
  have r0 := q_lst_rv hd hp h hl ha
  have F1 := q_F3_st (R := R) hd h
  have F2 := q_F3_st (R := R) hd F1
  have L1 := q_st_lst hd hp h hl
  have L2 := q_st_lst hd hp F1 L1.1
  have p2 : 0 < (q_st d R (q_st d R f)).1 := by
    have := L1.2.mp ha
    have := F2.2.1
    omega
  have r2 := q_lst_rv hd hp F2 L2.1 p2
  obtain ⟨a, b, c⟩ := f
  have h : q_fm d a b c := h
  have ha : 0 < a := ha
  have r0 : 0 < a ∧ c < 0 ∧ 0 < b ∧ 0 < a + b + c ∧ a - b + c < 0 := r0
  have F1 : q_fm d c (q_nb d R b c) (q_nc d R b c) := F1
  have l1 := (q_lst_p hp).mp (show q_lst d R c (q_nb d R b c) (q_nc d R b c) = true from L1.1)
  have e1 := q_nb_t (d := d) (R := R) (b := b) h.2.2.1
  have e2 := q_nc_eq (R := R) h.2.2.1 h.1
  have e3 := q_nb_t (d := d) (R := R) (b := q_nb d R b c) F1.2.2.1
  have e4 := q_nc_eq (R := R) F1.2.2.1 F1.1
  have eS : q_st d R (q_st d R (a, b, c)) = (q_nc d R b c, q_nb d R (q_nb d R b c) (q_nc d R b c), q_nc d R (q_nb d R b c) (q_nc d R b c)) := rfl
  rw [eS] at r2 p2 ⊢
  have r2 : 0 < q_nc d R b c ∧ q_nc d R (q_nb d R b c) (q_nc d R b c) < 0 ∧ 0 < q_nb d R (q_nb d R b c) (q_nc d R b c) ∧ _ ∧ _ := r2
  obtain ⟨s1, s2, s3, -, -⟩ := r2
  have l1 := l1.1
  generalize q_tt2 d R b c = t at e1 e2
  generalize q_tt2 d R (q_nb d R b c) (q_nc d R b c) = u at e3 e4
  generalize q_nb d R (q_nb d R b c) (q_nc d R b c) = b2 at e3 s3 ⊢
  generalize q_nc d R (q_nb d R b c) (q_nc d R b c) = c2 at e4 s2 ⊢
  generalize q_nb d R b c = b1 at e1 e3 e4 l1 ⊢
  generalize q_nc d R b c = c1 at e2 e3 e4 s1 ⊢
  have ht : t < 0 := by
    rcases Int.lt_or_le t 0 with q | q
    · exact q
    · have h1 : c * t ≤ 0 := Int.mul_nonpos_of_nonpos_of_nonneg (by omega) q
      have h2 : 2 * c * t = 2 * (c * t) := Int.mul_assoc _ _ _
      omega
  have hu : 0 < u := by
    rcases Int.lt_or_le 0 u with q | q
    · exact q
    · have h1 : c1 * u ≤ 0 := Int.mul_nonpos_of_nonneg_of_nonpos (by omega) q
      have h2 : 2 * c1 * u = 2 * (c1 * u) := Int.mul_assoc _ _ _
      omega
  obtain ⟨k, hk⟩ : ∃ k : Nat, (k : Int) = -t := ⟨(-t).toNat, by omega⟩
  obtain ⟨l, hl2⟩ : ∃ l : Nat, (l : Int) = u := ⟨u.toNat, by omega⟩
  have vk : a + b * (k : Int) + c * ((k : Int) * (k : Int)) = c1 := by rw [hk, e2]; grind
  have vL : ∀ i : Nat, i ≤ k → 0 < a + b * (i : Int) + c * ((i : Int) * (i : Int)) := fun i hi => q_cv ha (by omega) (by omega) (show (i : Int) ≤ (k : Int) by omega) (by omega)
  have vl : c1 * ((l : Int) * (l : Int)) + -b1 * (l : Int) + c = c2 := by rw [hl2, e4]; grind
  have vU : ∀ i : Nat, i ≤ l → c1 * ((i : Int) * (i : Int)) + -b1 * (i : Int) + c < 0 := by
    intro i hi
    have h1 := q_cv (a := -c) (b := b1) (c := -c1) (i := (i : Int)) (k := (l : Int)) (by omega) (by omega) (by omega) (by omega) (by
      have : -c + b1 * (l : Int) + -c1 * ((l : Int) * (l : Int)) = -c2 := by rw [← vl]; grind
      omega)
    have h2 : -c + b1 * (i : Int) + -c1 * ((i : Int) * (i : Int)) = -(c1 * ((i : Int) * (i : Int)) + -b1 * (i : Int) + c) := by grind
    omega
  have RL := q_runL (a, b, c) k vL
  have RU := q_runU (c1, -b1, c) l vU
  have eK : q_rhs k (a, b, c) = (c1, -b1, c) := by
    rw [RL k (Nat.le_refl _)]
    refine Prod.ext vk (Prod.ext ?_ rfl)
    show b + 2 * c * (k : Int) = -b1
    rw [hk, Int.mul_neg]
    omega
  refine ⟨k + l, by omega, ?_, ?_⟩
  · rw [q_rhs_add, eK, RU l (Nat.le_refl _)]
    refine Prod.ext rfl (Prod.ext ?_ vl)
    show -b1 + 2 * c1 * (l : Int) = b2
    rw [hl2]
    omega
  · intro i i0 iK hr
    rcases Nat.lt_or_ge k i with q | q
    · obtain ⟨j, rfl⟩ : ∃ j, i = k + j := ⟨i - k, by omega⟩
      rw [q_rhs_add, eK, RU j (by omega)] at hr
      have h4 : 0 < c1 + (-b1 + 2 * c1 * (j : Int)) + (c1 * ((j : Int) * (j : Int)) + -b1 * (j : Int) + c) := hr.2.2.2.1
      have h5 := vU (j + 1) (by omega)
      rw [show ((j + 1 : Nat) : Int) = (j : Int) + 1 from rfl] at h5
      have h6 : c1 + (-b1 + 2 * c1 * (j : Int)) + (c1 * ((j : Int) * (j : Int)) + -b1 * (j : Int) + c) = c1 * (((j : Int) + 1) * ((j : Int) + 1)) + -b1 * ((j : Int) + 1) + c := by grind
      omega
    · obtain ⟨j, rfl⟩ : ∃ j, i = j + 1 := ⟨i - 1, by omega⟩
      rw [RL (j + 1) q, show ((j + 1 : Nat) : Int) = (j : Int) + 1 from rfl] at hr
      have h4 : a + b * ((j : Int) + 1) + c * (((j : Int) + 1) * ((j : Int) + 1)) - (b + 2 * c * ((j : Int) + 1)) + c < 0 := hr.2.2.2.2
      have h5 := vL j (by omega)
      have h6 : a + b * ((j : Int) + 1) + c * (((j : Int) + 1) * ((j : Int) + 1)) - (b + 2 * c * ((j : Int) + 1)) + c = a + b * (j : Int) + c * ((j : Int) * (j : Int)) := by grind
      omega
theorem q_path_its {d R : Int} (hd : q_dc d R) (hp : 0 < d) : ∀ (N n : Nat) (f : q_f3), n ≤ N → q_F3 d f → q_L3 d R f = true → 0 < f.1 → q_rv (q_rhs n f) → ∃ m, q_its d R m f = q_rhs n f := by
  intro N
  induction N with
  | zero =>
    intro n f hn _ _ _ _
    have : n = 0 := by omega
    subst this
    exact ⟨0, rfl⟩
  | succ N ih =>
    intro n f hn h hl ha hr
    rcases Nat.eq_zero_or_pos n with q | q
    · subst q
      exact ⟨0, rfl⟩
    · obtain ⟨K, K0, K1, K2⟩ := q_two hd hp h hl ha
      rcases Nat.lt_or_ge n K with q2 | q2
      · exact absurd hr (K2 n q q2)
      · obtain ⟨j, rfl⟩ : ∃ j, n = K + j := ⟨n - K, by omega⟩
        rw [q_rhs_add, K1] at hr ⊢
        have F1 := q_F3_st (R := R) hd h
        have L1 := q_st_lst hd hp h hl
        have L2 := q_st_lst hd hp F1 L1.1
        have F2 := q_F3_st (R := R) hd F1
        obtain ⟨m, hm⟩ := ih j (q_st d R (q_st d R f)) (by omega) F2 L2.1 (by have := L1.2.mp ha; have := F2.2.1; omega) hr
        exact ⟨m + 2, hm⟩
