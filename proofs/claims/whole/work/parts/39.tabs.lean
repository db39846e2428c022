/-! the tables of both: what they hold -/
def q_d4 (d : Int) : Prop := d % 4 ≤ 1
/-- the LEAST forms without a common divisor -/
def q_LF (d R : Int) (f : q_f3) : Prop := q_F3 d f ∧ Int.gcd (Int.gcd f.1 f.2.1) f.2.2 = 1 ∧ q_L3 d R f = true
def q_lt (f g : q_f3) : Prop := f.1 < g.1 ∨ (f.1 = g.1 ∧ f.2.1 < g.2.1)
def q_isT (d R : Int) (n : Nat) (T : Nat → q_f3) : Prop := (∀ i j, i < j → j < n → q_lt (T i) (T j)) ∧ (∀ i, i < n → q_LF d R (T i) ∧ 0 < (T i).1) ∧ ∀ f, q_LF d R f → 0 < f.1 → ∃ i, i < n ∧ T i = f
/-- rings; the first of a ring; how many first ones; the list of a discriminant; classes -/
def q_rg (d R : Int) (f g : q_f3) : Prop := (d < 0 ∧ f = g) ∨ (0 < d ∧ ∃ n, q_its d R n f = g)
noncomputable def q_hx (d R : Int) (T : Nat → q_f3) (f : q_f3) : Nat := Classical.epsilon (fun j => q_rg d R (T j) f ∧ ∀ i, i < j → ¬ q_rg d R (T i) f)
noncomputable def q_hn (d R : Int) (T : Nat → q_f3) : Nat → Nat
  | 0 => 0
  | i + 1 => q_hn d R T i + if q_hx d R T (T i) = i then 1 else 0
noncomputable def q_TT (d R : Int) : Nat × (Nat → q_f3) := Classical.epsilon (fun x : Nat × (Nat → q_f3) => q_isT d R x.1 x.2)
noncomputable def q_kls (d R : Int) (f : q_f3) : Nat := q_hn d R (q_TT d R).2 (q_hx d R (q_TT d R).2 f)
noncomputable def q_nc2 (d R : Int) : Nat := q_hn d R (q_TT d R).2 (q_TT d R).1
noncomputable def q_hpl (d R : Int) (c : Nat) : Nat := Classical.epsilon (fun i => i < (q_TT d R).1 ∧ q_hx d R (q_TT d R).2 ((q_TT d R).2 i) = i ∧ q_hn d R (q_TT d R).2 i = c)
noncomputable def q_hd (d R : Int) (c : Nat) : q_f3 := (q_TT d R).2 (q_hpl d R c)
def q_CA (n : Nat) (T : Nat → q_f3) (z : q_Z) : Prop := z.1 3 9 = q_i n ∧ ∀ i, i < n → z.1 5 i = q_i (T i).1 ∧ z.1 6 i = q_i (T i).2.1 ∧ z.1 7 i = q_i (T i).2.2
def q_TC (d R : Int) (z : q_Z) : Prop := q_CA (q_TT d R).1 (q_TT d R).2 z ∧ z.1 3 10 = q_i (q_nc2 d R) ∧ (∀ j, j < (q_TT d R).1 → z.1 8 j = q_i (q_kls d R ((q_TT d R).2 j))) ∧ ∀ c, c < q_nc2 d R → z.1 9 c = q_i (q_hpl d R c)
def q_Mtab (d R : Int) (z : q_Z) : Prop := ∃ (N : Nat) (M : Nat → q_f3), N + (q_TT d R).1 ≤ 256 ∧ z.1 128 22 = q_i ((N + (q_TT d R).1 : Nat) : Int) ∧ (∀ i, i < N → (M i).1 < 0) ∧ (∀ i, i < (q_TT d R).1 → M (N + i) = (q_TT d R).2 i) ∧ (∀ i j, i < j → j < N + (q_TT d R).1 → q_lt (M i) (M j)) ∧ (∀ i, i < N + (q_TT d R).1 → q_LF d R (M i)) ∧ (∀ f, q_LF d R f → ∃ i, i < N + (q_TT d R).1 ∧ M i = f) ∧ (∀ i, i < N + (q_TT d R).1 → z.1 134 i = q_i (M i).1 ∧ z.1 135 i = q_i (M i).2.1 ∧ z.1 136 i = q_i (q_kls d R (M i))) ∧ z.1 128 23 = q_i (q_nc2 d R) ∧ ∀ c, c < q_nc2 d R → z.1 137 c = q_i (q_hd d R c).1 ∧ z.1 138 c = q_i (q_hd d R c).2.1
/-- orders, rings and genera of the class are what the reference answers -/
def q_GC (d R : Int) (z : q_Z) : Prop := ∀ y : q_Z, y.1 128 0 = q_i d → y.1 128 1 = q_i R → q_Mtab d R y → (∀ i : Nat, i < q_nc2 d R → ∃ y2, F_X10_orderOf y (q_i i) = some (z.1 13 i, y2)) ∧ (∃ y2, F_X10_findRings y = some ((), y2) ∧ y2.1 128 31 = z.1 2 5 ∧ ∀ k, k < (y2.1 128 31).toNatClampNeg → y2.1 139 k = z.1 16 k) ∧ ∃ y2, F_X10_findGenera y = some (z.1 2 6, y2) ∧ ∀ i, i < q_nc2 d R → y2.1 141 i = z.1 14 i
theorem q_GC_fr0 {d R : Int} {z z2 : q_Z} (h : q_GC d R z) (e2 : z2.1 2 = z.1 2) (e13 : z2.1 13 = z.1 13) (e14 : z2.1 14 = z.1 14) (e16 : z2.1 16 = z.1 16) : q_GC d R z2 := by
  unfold q_GC at h ⊢
  rw [e2, e13, e14, e16]
  exact h
def q_Ctab (z : q_Z) : Prop := (z.1 3 11 = 0 ∨ ∃ d R, q_dc d R ∧ q_d4 d ∧ z.1 3 11 = q_i d ∧ q_TC d R z) ∧ (z.1 2 7 = 0 ∨ ∃ d R, q_dc d R ∧ q_d4 d ∧ z.1 2 7 = q_i d ∧ q_GC d R z)
theorem q_TC_fr {d R : Int} {z z2 : q_Z} (h : q_TC d R z) (e : ∀ n, n < 17 → n ≠ 1 → n ≠ 4 → z2.1 n = z.1 n) : q_TC d R z2 := by
  obtain ⟨⟨h1, h2⟩, h3, h4, h5⟩ := h
  refine ⟨⟨?_, ?_⟩, ?_, ?_, ?_⟩
  · rw [e 3 (by decide) (by decide) (by decide)]; exact h1
  · rw [e 5 (by decide) (by decide) (by decide), e 6 (by decide) (by decide) (by decide), e 7 (by decide) (by decide) (by decide)]; exact h2
  · rw [e 3 (by decide) (by decide) (by decide)]; exact h3
  · rw [e 8 (by decide) (by decide) (by decide)]; exact h4
  · rw [e 9 (by decide) (by decide) (by decide)]; exact h5
theorem q_GC_fr {d R : Int} {z z2 : q_Z} (h : q_GC d R z) (e : ∀ n, n < 17 → n ≠ 1 → n ≠ 4 → z2.1 n = z.1 n) : q_GC d R z2 := q_GC_fr0 h (e 2 (by decide) (by decide) (by decide)) (e 13 (by decide) (by decide) (by decide)) (e 14 (by decide) (by decide) (by decide)) (e 16 (by decide) (by decide) (by decide))
theorem q_Ctab_fr {z z2 : q_Z} (h : q_Ctab z) (e : ∀ n, n < 17 → n ≠ 1 → n ≠ 4 → z2.1 n = z.1 n) : q_Ctab z2 := by
  obtain ⟨h1, h2⟩ := h
  refine ⟨?_, ?_⟩
  · rcases h1 with h1 | ⟨d, R, a, b, c, f⟩
    · exact Or.inl (by rw [e 3 (by decide) (by decide) (by decide)]; exact h1)
    · exact Or.inr ⟨d, R, a, b, by rw [e 3 (by decide) (by decide) (by decide)]; exact c, q_TC_fr f e⟩
  · rcases h2 with h2 | ⟨d, R, a, b, c, f⟩
    · exact Or.inl (by rw [e 2 (by decide) (by decide) (by decide)]; exact h2)
    · exact Or.inr ⟨d, R, a, b, by rw [e 2 (by decide) (by decide) (by decide)]; exact c, q_GC_fr f e⟩
theorem q_Mtab_fr {d R : Int} {z z2 : q_Z} (h : q_Mtab d R z) (e1 : z2.1 128 22 = z.1 128 22) (e2 : z2.1 128 23 = z.1 128 23) (e3 : ∀ n, 134 ≤ n → n ≤ 138 → z2.1 n = z.1 n) : q_Mtab d R z2 := by
  obtain ⟨N, M, h0, h1, h2, h3, h4, h5, h6, h7, h8, h9⟩ := h
  refine ⟨N, M, h0, e1.trans h1, h2, h3, h4, h5, h6, ?_, e2.trans h8, ?_⟩
  · rw [e3 134 (by decide) (by decide), e3 135 (by decide) (by decide), e3 136 (by decide) (by decide)]; exact h7
  · rw [e3 137 (by decide) (by decide), e3 138 (by decide) (by decide)]; exact h9
theorem q_Ctab_0 {z : q_Z} (h1 : z.1 3 11 = 0) (h2 : z.1 2 7 = 0) : q_Ctab z := ⟨Or.inl h1, Or.inl h2⟩
