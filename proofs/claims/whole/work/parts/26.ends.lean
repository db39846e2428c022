/-! STEPS lead each form to a LEAST one, soon -/
/-- D and R -/
def q_dc (d R : Int) : Prop := (-4000 ≤ d ∧ d < 0 ∧ R = 0) ∨ (0 < d ∧ d ≤ 4000 ∧ 0 < R ∧ R * R < d ∧ d < (R + 1) * (R + 1))
/-- a form of D, whatever its divisors -/
def q_fm (d a b c : Int) : Prop := b * b - 4 * a * c = d ∧ a ≠ 0 ∧ c ≠ 0 ∧ (d < 0 → 0 < a ∧ 0 < c)
theorem q_sq_nn (x : Int) : 0 ≤ x * x := by
  rcases Int.le_total 0 x with h | h
  · exact Int.mul_nonneg h h
  · exact Int.mul_nonneg_of_nonpos_of_nonpos h h
theorem q_sq_le {x M : Int} (h : -M ≤ x ∧ x ≤ M) : x * x ≤ M * M := (q_mul_le h h (by omega) (by omega)).2
theorem q_sq_ne {d R x : Int} (h : q_dc d R) : x * x ≠ d := by
  intro e
  rcases h with ⟨h1, h2, h3⟩ | ⟨h1, h2, h3, h4, h5⟩
  · have := q_sq_nn x
    omega
  · by_cases c : x.natAbs ≤ R.natAbs
    · have := q_sq_le (x := x) (M := R) ⟨by omega, by omega⟩
      omega
    · have h6 : (R + 1) * (R + 1) ≤ (x.natAbs : Int) * x.natAbs := Int.mul_le_mul (by omega) (by omega) (by omega) (by omega)
      rw [← Int.natCast_mul, Int.natAbs_mul_self] at h6
      omega
theorem q_dc_R {d R : Int} (h : q_dc d R) : 0 ≤ R ∧ R ≤ 63 := by
  rcases h with ⟨h1, h2, h3⟩ | ⟨h1, h2, h3, h4, h5⟩
  · omega
  · refine ⟨by omega, ?_⟩
    rcases Int.lt_or_le 63 R with c | c
    · have : (64 : Int) * 64 ≤ R * R := Int.mul_le_mul (by omega) (by omega) (by omega) (by omega)
      omega
    · exact c
theorem q_fm_step {d R a b c : Int} (hd : q_dc d R) (h : q_fm d a b c) : q_fm d c (q_nb d R b c) (q_nc d R b c) := by
  obtain ⟨h1, h2, h3, h4⟩ := h
  have h5 := q_step_F (R := R) h3 h1
  refine ⟨h5, h3, ?_, ?_⟩
  · intro e
    rw [e, Int.mul_zero, Int.sub_zero] at h5
    exact q_sq_ne hd h5
  · intro hn
    have hc := (h4 hn).2
    refine ⟨hc, ?_⟩
    have h6 := q_sq_nn (q_nb d R b c)
    rcases Int.lt_or_le 0 (q_nc d R b c) with q | q
    · exact q
    · have h7 : 4 * c * q_nc d R b c ≤ 0 := Int.mul_nonpos_of_nonneg_of_nonpos (by omega) q
      omega
theorem q_nc_abs {d R a b c : Int} (h : q_fm d a b c) : 4 * (c.natAbs * (q_nc d R b c).natAbs) = (q_nb d R b c * q_nb d R b c - d).natAbs := by
  have h5 := q_step_F (R := R) h.2.2.1 h.1
  have h6 : q_nb d R b c * q_nb d R b c - d = 4 * c * q_nc d R b c := by omega
  rw [h6, Int.natAbs_mul, Int.natAbs_mul, Nat.mul_assoc]
  rfl
/-- of what size what comes is -/
theorem q_nb_abs {d R a b c : Int} (hd : q_dc d R) (h : q_fm d a b c) : (q_nb d R b c).natAbs ≤ c.natAbs ∨ ((q_nb d R b c).natAbs ≤ R.natAbs ∧ 0 < d ∧ c.natAbs ≤ R.natAbs) := by
  have h1 := q_nb_range (d := d) (R := R) (b := b) h.2.2.1
  have h2 := q_dc_R hd
  have h3 := h.2.2.1
  unfold q_hi at h1
  by_cases c1 : d < 0 ∨ R < c.natAbs
  · rw [if_pos c1] at h1
    left
    omega
  · rw [if_neg c1] at h1
    right
    have h4 : d ≠ 0 := by
      rcases hd with hd | hd <;> omega
    omega
theorem q_nc_le {d R a b c : Int} (hd : q_dc d R) (h : q_fm d a b c) : 4 * (q_nc d R b c).natAbs ≤ c.natAbs + 4000 := by
  have h1 := q_nc_abs (R := R) h
  have h2 := q_nb_abs hd h
  have hR := q_dc_R hd
  have h3 : 1 ≤ c.natAbs := by have := h.2.2.1; omega
  generalize hN : (q_nc d R b c).natAbs = N at h1 ⊢
  generalize hC : c.natAbs = C at h1 h2 h3 ⊢
  generalize q_nb d R b c = n at h1 h2
  have hd4 : -4000 ≤ d ∧ d ≤ 4000 := by rcases hd with hd | hd <;> omega
  rcases Nat.lt_or_ge (C + 4000) (4 * N) with q | q
  · exfalso
    have h4 : C * (C + 4001) ≤ C * (4 * N) := Nat.mul_le_mul_left C q
    have h5 : C * (4 * N) = 4 * (C * N) := by rw [Nat.mul_left_comm]
    have h6 : C * (C + 4001) = C * C + C * 4001 := Nat.mul_add C C 4001
    have h7 : C * 1 ≤ C * C := Nat.mul_le_mul_left C h3
    have hs := q_sq_nn n
    rcases h2 with h2 | h2
    · have h8 := q_sq_le (x := n) (M := (C : Int)) ⟨by omega, by omega⟩
      rw [← Int.natCast_mul] at h8
      omega
    · have h8 : n * n ≤ d := by
        rcases hd with hd | hd
        · omega
        · have := q_sq_le (x := n) (M := R) ⟨by omega, by omega⟩
          omega
      omega
  · exact q
def q_st (d R : Int) (f : Int × Int × Int) : Int × Int × Int := (f.2.2, q_nb d R f.2.1 f.2.2, q_nc d R f.2.1 f.2.2)
def q_its (d R : Int) : Nat → Int × Int × Int → Int × Int × Int
  | 0, f => f
  | n + 1, f => q_its d R n (q_st d R f)
def q_L3 (d R : Int) (f : Int × Int × Int) : Bool := q_lst d R f.1 f.2.1 f.2.2
def q_F3 (d : Int) (f : Int × Int × Int) : Prop := q_fm d f.1 f.2.1 f.2.2
theorem q_F3_st {d R : Int} {f : Int × Int × Int} (hd : q_dc d R) (h : q_F3 d f) : q_F3 d (q_st d R f) := q_fm_step hd h
theorem q_F3_its {d R : Int} (hd : q_dc d R) : ∀ (n : Nat) (f : Int × Int × Int), q_F3 d f → q_F3 d (q_its d R n f)
  | 0, _, h => h
  | n + 1, f, h => q_F3_its hd n (q_st d R f) (q_F3_st hd h)
/-- D above 0: two STEPS behind a small last number -/
theorem q_end_p1 {d R : Int} (hd : q_dc d R) (hp : 0 < d) {f : Int × Int × Int} (h : q_F3 d f) (hs : 2 * (f.2.2.natAbs : Int) ≤ R) : q_L3 d R (q_st d R f) = true := by
  obtain ⟨a, b, c⟩ := f
  have h : q_fm d a b c := h
  have h1 := q_nb_range (d := d) (R := R) (b := b) h.2.2.1
  have h3 := h.2.2.1
  simp only at hs
  have hR := q_dc_R hd
  unfold q_hi at h1
  rw [if_neg (by omega)] at h1
  show q_lst d R c (q_nb d R b c) (q_nc d R b c) = true
  unfold q_lst
  rw [if_neg (by omega)]
  simp only [Bool.and_eq_true, decide_eq_true_eq]
  omega
theorem q_end_p2 {d R : Int} (hd : q_dc d R) (hp : 0 < d) {f : Int × Int × Int} (h : q_F3 d f) (hs : (f.2.2.natAbs : Int) ≤ R) : q_L3 d R (q_st d R f) = true ∨ q_L3 d R (q_st d R (q_st d R f)) = true := by
  by_cases c2 : 2 * (f.2.2.natAbs : Int) ≤ R
  · exact Or.inl (q_end_p1 hd hp h c2)
  · right
    refine q_end_p1 hd hp (q_F3_st hd h) ?_
    obtain ⟨a, b, c⟩ := f
    have h : q_fm d a b c := h
    simp only at hs c2
    show 2 * ((q_nc d R b c).natAbs : Int) ≤ R
    have h1 := q_nb_range (d := d) (R := R) (b := b) h.2.2.1
    have h2 := q_nc_abs (R := R) h
    have hR := q_dc_R hd
    unfold q_hi at h1
    rw [if_neg (by omega)] at h1
    generalize (q_nc d R b c).natAbs = N at h2 ⊢
    generalize q_nb d R b c = n at h1 h2
    generalize c.natAbs = C at h1 h2 c2 hs
    rcases hd with hd | ⟨g1, g2, g3, g4, g5⟩
    · omega
    · have h5 := q_sq_le (x := n) (M := R) ⟨by omega, by omega⟩
      have h6 := q_sq_nn n
      rcases Int.lt_or_le R (2 * (N : Int)) with q | q
      · exfalso
        have h7 : (R + 1) * (R + 1) ≤ (2 * (C : Int)) * (2 * N) := Int.mul_le_mul (by omega) (by omega) (by omega) (by omega)
        have h8 : (2 * (C : Int)) * (2 * N) = 4 * ((C * N : Nat) : Int) := by rw [Int.natCast_mul]; grind
        omega
      · exact q
theorem q_its_add (d R : Int) : ∀ (m n : Nat) (f : Int × Int × Int), q_its d R (m + n) f = q_its d R n (q_its d R m f)
  | 0, n, f => by rw [Nat.zero_add]; rfl
  | m + 1, n, f => by
    rw [show m + 1 + n = (m + n) + 1 by omega]
    exact q_its_add d R m n (q_st d R f)
theorem q_end_p3 {d R : Int} (hd : q_dc d R) (hp : 0 < d) {f : Int × Int × Int} (h : q_F3 d f) (hs : R < (f.2.2.natAbs : Int)) : 4 * (q_st d R f).2.2.natAbs ≤ f.2.2.natAbs := by
  obtain ⟨a, b, c⟩ := f
  have h : q_fm d a b c := h
  simp only at hs
  show 4 * (q_nc d R b c).natAbs ≤ c.natAbs
  have h1 := q_nb_range (d := d) (R := R) (b := b) h.2.2.1
  have h2 := q_nc_abs (R := R) h
  have hR := q_dc_R hd
  unfold q_hi at h1
  rw [if_pos (by omega)] at h1
  generalize (q_nc d R b c).natAbs = N at h2 ⊢
  generalize q_nb d R b c = n at h1 h2
  generalize c.natAbs = C at h1 h2 hs ⊢
  rcases hd with hd | ⟨g1, g2, g3, g4, g5⟩
  · omega
  · have h5 := q_sq_le (x := n) (M := (C : Int)) ⟨by omega, by omega⟩
    have h6 := q_sq_nn n
    have h7 : (R + 1) * (R + 1) ≤ (C : Int) * C := Int.mul_le_mul (by omega) (by omega) (by omega) (by omega)
    rw [← Int.natCast_mul] at h5 h7
    rcases Nat.lt_or_ge C (4 * N) with q | q
    · exfalso
      have h8 : C * (C + 1) ≤ C * (4 * N) := Nat.mul_le_mul_left C q
      have h9 : C * (4 * N) = 4 * (C * N) := by rw [Nat.mul_left_comm]
      have h10 : C * (C + 1) = C * C + C := Nat.mul_succ C C
      omega
    · exact q
theorem q_end_p {d R : Int} (hd : q_dc d R) (hp : 0 < d) : ∀ (k : Nat) (f : Int × Int × Int), q_F3 d f → f.2.2.natAbs < 2 ^ k → ∃ n, n ≤ k + 2 ∧ q_L3 d R (q_its d R n f) = true := by
  intro k
  induction k with
  | zero =>
    intro f h hk
    have := h.2.2.1
    simp at hk
    omega
  | succ k ih =>
    intro f h hk
    by_cases c1 : (f.2.2.natAbs : Int) ≤ R
    · rcases q_end_p2 hd hp h c1 with q | q
      · exact ⟨1, by omega, q⟩
      · exact ⟨2, by omega, q⟩
    · have h1 := q_end_p3 hd hp h (by omega)
      obtain ⟨n, hn, g⟩ := ih (q_st d R f) (q_F3_st hd h) (by rw [Nat.pow_succ] at hk; omega)
      exact ⟨n + 1, by omega, g⟩
/-- D below 0 -/
def q_nrm (f : Int × Int × Int) : Prop := -f.1 < f.2.1 ∧ f.2.1 ≤ f.1
theorem q_nrm_st {d R : Int} (hn : d < 0) {f : Int × Int × Int} (h : q_F3 d f) : q_nrm (q_st d R f) := by
  obtain ⟨a, b, c⟩ := f
  have h : q_fm d a b c := h
  have h1 := q_nb_range (d := d) (R := R) (b := b) h.2.2.1
  have h2 := (h.2.2.2 hn).2
  unfold q_hi at h1
  rw [if_pos (Or.inl hn)] at h1
  show -c < q_nb d R b c ∧ q_nb d R b c ≤ c
  omega
theorem q_end_n1 {d R : Int} (hn : d < 0) {f : Int × Int × Int} (h : q_F3 d f) (hm : q_nrm f) (hs : f.1 ≤ f.2.2) : q_L3 d R f = true ∨ q_L3 d R (q_st d R f) = true := by
  obtain ⟨a, b, c⟩ := f
  have h : q_fm d a b c := h
  have h2 := h.2.2.2 hn
  have hm : -a < b ∧ b ≤ a := hm
  have hs : a ≤ c := hs
  by_cases c1 : 0 ≤ b ∨ a < c
  · left
    show q_lst d R a b c = true
    unfold q_lst
    rw [if_pos hn]
    simp only [Bool.and_eq_true, Bool.or_eq_true, decide_eq_true_eq]
    omega
  · right
    have e : c = a := by omega
    have hnb : q_nb d R b c = -b := by
      unfold q_nb q_hi
      rw [if_pos (Or.inl hn), Int.emod_eq_of_lt (by omega) (by omega)]
      omega
    have hnc : q_nc d R b c = a := by
      unfold q_nc
      rw [hnb]
      have h3 := h.1
      have h4 : -b * -b - d = 4 * c * a := by grind
      rw [h4]
      exact Int.mul_ediv_cancel_left _ (by omega)
    show q_lst d R c (q_nb d R b c) (q_nc d R b c) = true
    rw [hnb, hnc]
    unfold q_lst
    rw [if_pos hn]
    simp only [Bool.and_eq_true, Bool.or_eq_true, decide_eq_true_eq]
    omega
theorem q_end_nS {d R : Int} (hd : q_dc d R) (hn : d < 0) : ∀ (m : Nat) (f : Int × Int × Int), q_F3 d f → q_nrm f → f.1 ≤ m → ∃ n, n ≤ m + 1 ∧ q_L3 d R (q_its d R n f) = true := by
  intro m
  induction m with
  | zero =>
    intro f h _ hm
    have := (h.2.2.2 hn).1
    omega
  | succ m ih =>
    intro f h hq hm
    by_cases c1 : f.1 ≤ f.2.2
    · rcases q_end_n1 (R := R) hn h hq c1 with q | q
      · exact ⟨0, by omega, q⟩
      · exact ⟨1, by omega, q⟩
    · obtain ⟨n, g1, g2⟩ := ih (q_st d R f) (q_F3_st hd h) (q_nrm_st hn h) (by show f.2.2 ≤ m; omega)
      exact ⟨n + 1, by omega, g2⟩
theorem q_end_nT {d R : Int} (hd : q_dc d R) (hn : d < 0) : ∀ (k : Nat) (f : Int × Int × Int), q_F3 d f → q_nrm f → f.1 < 64 * 2 ^ k → ∃ n, n ≤ k + 65 ∧ q_L3 d R (q_its d R n f) = true := by
  intro k
  induction k with
  | zero =>
    intro f h hq hk
    obtain ⟨n, g1, g2⟩ := q_end_nS hd hn 63 f h hq (by simp at hk; omega)
    exact ⟨n, by omega, g2⟩
  | succ k ih =>
    intro f h hq hk
    by_cases c0 : f.1 < 64
    · obtain ⟨n, g1, g2⟩ := q_end_nS hd hn 63 f h hq (by omega)
      exact ⟨n, by omega, g2⟩
    · by_cases c1 : f.1 ≤ f.2.2
      · rcases q_end_n1 (R := R) hn h hq c1 with q | q
        · exact ⟨0, by omega, q⟩
        · exact ⟨1, by omega, q⟩
      · have h1 : 2 * f.2.2 < f.1 := by
          obtain ⟨a, b, c⟩ := f
          have h : q_fm d a b c := h
          have hq : -a < b ∧ b ≤ a := hq
          simp only at c0 c1 ⊢
          have h2 := h.1
          have h3 := q_sq_le (x := b) (M := a) ⟨by omega, by omega⟩
          have h4 : (64 : Int) * 64 ≤ a * a := Int.mul_le_mul (by omega) (by omega) (by omega) (by omega)
          have h5 : -4000 ≤ d := by rcases hd with hd | hd <;> omega
          rcases Int.lt_or_le (2 * c) a with q | q
          · exact q
          · exfalso
            have h6 : (2 * a) * a ≤ (2 * a) * (2 * c) := Int.mul_le_mul_of_nonneg_left q (by omega)
            have h7 : (2 * a) * (2 * c) = 4 * a * c := by grind
            have h8 : (2 * a) * a = 2 * (a * a) := by grind
            omega
        obtain ⟨n, g1, g2⟩ := ih (q_st d R f) (q_F3_st hd h) (q_nrm_st hn h) (by show f.2.2 < 64 * 2 ^ k; rw [Int.pow_succ] at hk; omega)
        exact ⟨n + 1, by omega, g2⟩
/-- STEPS lead each form to a LEAST one: at most 100 -/
theorem q_ends {d R : Int} (hd : q_dc d R) {f : Int × Int × Int} (h : q_F3 d f) (hs : f.2.2.natAbs ≤ 1073741824) : ∃ n, n ≤ 100 ∧ q_L3 d R (q_its d R n f) = true := by
  by_cases hn : d < 0
  · obtain ⟨n, g1, g2⟩ := q_end_nT (R := R) hd hn 30 (q_st d R f) (q_F3_st hd h) (q_nrm_st hn h) (by show f.2.2 < 64 * 2 ^ 30; omega)
    exact ⟨n + 1, by omega, g2⟩
  · have hp : 0 < d := by rcases hd with hd | hd <;> omega
    obtain ⟨n, g1, g2⟩ := q_end_p hd hp 31 f h (by omega)
    exact ⟨n, by omega, g2⟩
/-- and the first such -/
theorem q_first {d R : Int} (hd : q_dc d R) {f : Int × Int × Int} (h : q_F3 d f) (hs : f.2.2.natAbs ≤ 1073741824) : ∃ n, n ≤ 100 ∧ q_L3 d R (q_its d R n f) = true ∧ ∀ m, m < n → q_L3 d R (q_its d R m f) = false := by
  obtain ⟨n, h1, h2⟩ := q_ends hd h hs
  obtain ⟨k, h3, h4⟩ := pk_least (fun n => q_L3 d R (q_its d R n f) = true) ⟨n, h2⟩
  refine ⟨k, ?_, h3, fun m hm => by have := h4 m hm; simpa using this⟩
  rcases Nat.lt_or_ge n k with q | q
  · exact absurd h2 (h4 n q)
  · omega
