/-! lists of LEAST forms as they grow -/
theorem q_LF_neg {d R : Int} {f : q_f3} (hp : 0 < d) (h : q_LF d R f) : q_LF d R (-f.1, f.2.1, -f.2.2) := by
  obtain ⟨a, b, c⟩ := f
  obtain ⟨h1, h2, h3⟩ := h
  have h1 : q_fm d a b c := h1
  have h2 : Int.gcd (Int.gcd a b) c = 1 := h2
  have h3 : q_lst d R a b c = true := h3
  refine ⟨⟨?_, ?_, ?_, fun q => by omega⟩, ?_, ?_⟩
  · show b * b - 4 * (-a) * (-c) = d
    rw [← h1.1]
    grind
  · show -a ≠ 0
    have := h1.2.1
    omega
  · show -c ≠ 0
    have := h1.2.2.1
    omega
  · show Int.gcd (Int.gcd (-a) b) (-c) = 1
    rw [Int.neg_gcd, Int.gcd_neg]
    exact h2
  · show q_lst d R (-a) b (-c) = true
    rw [q_lst_p hp] at h3 ⊢
    omega
theorem q_nT {d R : Int} (hdc : q_dc d R) (h4 : q_d4 d) {n : Nat} {T : Nat → q_f3} (inc : ∀ i j, i < j → j < n → q_lt (T i) (T j)) (hL : ∀ i, i < n → q_LF d R (T i) ∧ 0 < (T i).1) : n ≤ 128 := by
  have hR := q_dc_R hdc
  by_cases hp : 0 < d
  · have hb : ∀ i, i < n → 0 < (T i).2.1 := by
      intro i hi
      exact ((q_lst_p hp).mp (hL i hi).1.2.2).1
    have h1 := q_pg n (fun i => ((T i).1.toNat, (T i).2.1.toNat)) _ (fun i j hij hj e => ?_) (fun i hi => q_LF_p hdc hp (hL i hi).1 (hL i hi).2)
    · rw [q_El2_len] at h1
      have h2 : q_c2 d.toNat R.toNat ((R.toNat + d.toNat % 2) / 2) ≤ 128 := by
        rcases hdc with q | ⟨g1, g2, g3, g4, g5⟩
        · omega
        · refine q_kR R.toNat (by omega) (by omega) d.toNat ?_ ?_ (by omega) (by unfold q_d4 at h4; omega)
          · have : ((R.toNat * R.toNat : Nat) : Int) < d := by rw [Int.natCast_mul, Int.toNat_of_nonneg (by omega)]; exact g4
            omega
          · have : d < (((R.toNat + 1) * (R.toNat + 1) : Nat) : Int) := by rw [Int.natCast_mul, Int.natCast_add, Int.toNat_of_nonneg (by omega)]; exact g5
            omega
      omega
    · have e1 := congrArg Prod.fst e
      have e2 := congrArg Prod.snd e
      simp only at e1 e2
      have := inc i j hij hj
      have := (hL i (by omega)).2
      have := (hL j hj).2
      have := hb i (by omega)
      have := hb j hj
      unfold q_lt at *
      omega
  · have hn : d < 0 := by rcases hdc with q | q <;> omega
    have h1 := q_pg n (fun i => ((T i).1.toNat, (T i).2.1.natAbs, decide ((T i).2.1 < 0))) _ (fun i j hij hj e => ?_) (fun i hi => q_LF_n hdc hn (hL i hi).1)
    · rw [q_Fl2_len] at h1
      have := q_km (-d).toNat (by rcases hdc with q | q <;> omega)
      omega
    · have e1 := congrArg Prod.fst e
      have e2 := congrArg (fun x => x.2.1) e
      have e3 := congrArg (fun x => x.2.2) e
      simp only at e1 e2 e3
      have e3 : ((T i).2.1 < 0) ↔ ((T j).2.1 < 0) := decide_eq_decide.mp e3
      have := inc i j hij hj
      have := (hL i (by omega)).2
      have := (hL j hj).2
      unfold q_lt at *
      omega
/-- of both signs -/
theorem q_nT2 {d R : Int} (hdc : q_dc d R) (h4 : q_d4 d) {n : Nat} {T : Nat → q_f3} (inc : ∀ i j, i < j → j < n → q_lt (T i) (T j)) (hL : ∀ i, i < n → q_LF d R (T i)) : n ≤ 256 := by
  -- where the positive ones begin
  obtain ⟨k, k1, k2⟩ := pk_least (fun k => n ≤ k ∨ 0 < (T k).1) ⟨n, Or.inl (Nat.le_refl n)⟩
  have hk : k ≤ n := by
    rcases Nat.lt_or_ge n k with c | c
    · exact absurd (Or.inl (Nat.le_refl n)) (k2 n c)
    · exact c
  have hpos : ∀ i, k ≤ i → i < n → 0 < (T i).1 := by
    intro i hi hn
    rcases k1 with c | c
    · omega
    · by_cases e : k = i
      · rw [← e]; exact c
      · have := inc k i (by omega) hn
        unfold q_lt at this
        omega
  have h1 : n - k ≤ 128 := q_nT hdc h4 (T := fun i => T (k + i)) (fun i j hij hj => inc (k + i) (k + j) (by omega) (by omega)) (fun i hi => ⟨hL (k + i) (by omega), hpos (k + i) (by omega) (by omega)⟩)
  have hne : ∀ i, i < k → (T i).1 < 0 := by
    intro i hi
    have h2 : ¬ (n ≤ i ∨ 0 < (T i).1) := k2 i hi
    have h3 := (hL i (by omega)).1.2.1
    omega
  have h5 : k ≤ 128 := by
    by_cases hp : 0 < d
    · -- turned round: -a rises as i falls; b rises with i
      have hk2 := q_pg k (fun i => ((-(T i).1).toNat, (T i).2.1.toNat)) (q_El2 d.toNat R.toNat ((R.toNat + d.toNat % 2) / 2)) (fun i j hij hj e => ?_) (fun i hi => q_LF_p hdc hp (q_LF_neg hp (hL i (by omega))) (by have := hne i hi; show 0 < -(T i).1; omega))
      · rw [q_El2_len] at hk2
        have hR := q_dc_R hdc
        have h2 : q_c2 d.toNat R.toNat ((R.toNat + d.toNat % 2) / 2) ≤ 128 := by
          rcases hdc with q | ⟨g1, g2, g3, g4, g5⟩
          · omega
          · refine q_kR R.toNat (by omega) (by omega) d.toNat ?_ ?_ (by omega) (by unfold q_d4 at h4; omega)
            · have : ((R.toNat * R.toNat : Nat) : Int) < d := by rw [Int.natCast_mul, Int.toNat_of_nonneg (by omega)]; exact g4
              omega
            · have : d < (((R.toNat + 1) * (R.toNat + 1) : Nat) : Int) := by rw [Int.natCast_mul, Int.natCast_add, Int.toNat_of_nonneg (by omega)]; exact g5
              omega
        omega
      · have e1 := congrArg Prod.fst e
        have e2 := congrArg Prod.snd e
        simp only at e1 e2
        have := inc i j hij (by omega)
        have := hne i (by omega)
        have := hne j hj
        have := ((q_lst_p hp).mp (hL i (by omega)).2.2).1
        have := ((q_lst_p hp).mp (hL j (by omega)).2.2).1
        unfold q_lt at *
        omega
    · have hn : d < 0 := by rcases hdc with q | q <;> omega
      by_cases e : k = 0
      · omega
      · have h6 := ((hL 0 (by omega)).1.2.2.2 hn).1
        have h7 := hne 0 (by omega)
        omega
  omega
/-! a list up to a cursor (a, b) -/
def q_isTb (P : q_f3 → Prop) (d R a b : Int) (n : Nat) (T : Nat → q_f3) : Prop := (∀ i j, i < j → j < n → q_lt (T i) (T j)) ∧ (∀ i, i < n → q_LF d R (T i) ∧ P (T i) ∧ ((T i).1 < a ∨ ((T i).1 = a ∧ (T i).2.1 < b))) ∧ ∀ f, q_LF d R f → P f → (f.1 < a ∨ (f.1 = a ∧ f.2.1 < b)) → ∃ i, i < n ∧ T i = f
def q_app (T : Nat → q_f3) (n : Nat) (f : q_f3) : Nat → q_f3 := fun i => if i = n then f else T i
theorem q_Tb_add {P : q_f3 → Prop} {d R a b : Int} {n : Nat} {T : Nat → q_f3} {f : q_f3} (h : q_isTb P d R a b n T) (hf : q_LF d R f) (hP : P f) (ha : f.1 = a) (hb : f.2.1 = b) : q_isTb P d R a (b + 1) (n + 1) (q_app T n f) := by
  obtain ⟨h1, h2, h3⟩ := h
  refine ⟨?_, ?_, ?_⟩
  · intro i j hij hj
    unfold q_app
    by_cases c : j = n
    · rw [if_pos c, if_neg (by omega)]
      have := (h2 i (by omega)).2.2
      unfold q_lt
      omega
    · rw [if_neg c, if_neg (by omega)]
      exact h1 i j hij (by omega)
  · intro i hi
    unfold q_app
    by_cases c : i = n
    · rw [if_pos c]
      exact ⟨hf, hP, by omega⟩
    · rw [if_neg c]
      have := h2 i (by omega)
      exact ⟨this.1, this.2.1, by have := this.2.2; omega⟩
  · intro g hg hPg hc
    by_cases c : g.1 = a ∧ g.2.1 = b
    · refine ⟨n, by omega, ?_⟩
      unfold q_app
      rw [if_pos rfl]
      exact q_ab_eq hf.1 hg.1 (by omega) (by omega)
    · obtain ⟨i, i1, i2⟩ := h3 g hg hPg (by omega)
      refine ⟨i, by omega, ?_⟩
      unfold q_app
      rw [if_neg (by omega)]
      exact i2
theorem q_Tb_skip {P : q_f3 → Prop} {d R a b a2 b2 : Int} {n : Nat} {T : Nat → q_f3} (h : q_isTb P d R a b n T) (hle : a < a2 ∨ (a = a2 ∧ b ≤ b2)) (hno : ∀ f, q_LF d R f → P f → (f.1 < a2 ∨ (f.1 = a2 ∧ f.2.1 < b2)) → f.1 < a ∨ (f.1 = a ∧ f.2.1 < b)) : q_isTb P d R a2 b2 n T := by
  obtain ⟨h1, h2, h3⟩ := h
  refine ⟨h1, fun i hi => ?_, fun f hf hP hc => h3 f hf hP (hno f hf hP hc)⟩
  have := h2 i hi
  exact ⟨this.1, this.2.1, by have := this.2.2; omega⟩
