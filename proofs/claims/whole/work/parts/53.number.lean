/-! rings and classes of LEAST forms -/
theorem q_LF_G {d R : Int} {f : q_f3} (hdc : q_dc d R) (h : q_LF d R f) : q_G d f := by
  have hb := q_LF_b hdc h
  have hdb : -4000 ≤ d ∧ d ≤ 4000 := by rcases hdc with q | q <;> omega
  obtain ⟨a, b, c⟩ := f
  obtain ⟨h1, h2, h3⟩ := h
  have hb : -63 ≤ a ∧ a ≤ 63 ∧ -63 ≤ b ∧ b ≤ 63 := ⟨hb.1, hb.2.1, hb.2.2.1, hb.2.2.2.1⟩
  have h1' : q_fm d a b c := h1
  refine ⟨h1, h2, ⟨by show -1000000 ≤ a; omega, by show a ≤ 1000000; omega⟩, ⟨by show -1000000 ≤ b; omega, by show b ≤ 1000000; omega⟩, ?_⟩
  have h4 := q_sq_le (x := b) (M := 63) ⟨by omega, by omega⟩
  have h5 := q_sq_nn b
  have h6 := h1'.1
  have h7 : (4 : Int) * a * c = 4 * (a * c) := by grind
  have h8 : (a * c).natAbs ≤ 2000 := by omega
  rw [Int.natAbs_mul] at h8
  have h9 : 1 * c.natAbs ≤ a.natAbs * c.natAbs := Nat.mul_le_mul_right _ (by have := h1'.2.1; omega)
  show -1000000 ≤ c ∧ c ≤ 1000000
  omega
theorem q_LF_its {d R : Int} {f : q_f3} (hdc : q_dc d R) (hp : 0 < d) (h : q_LF d R f) (n : Nat) : q_LF d R (q_its d R n f) :=
  ⟨q_F3_its hdc n f h.1, (q_G_its hdc n f (q_LF_G hdc h)).2.1, q_its_lst hdc hp n f h.1 h.2.2⟩
theorem q_rg_rfl {d R : Int} (hdc : q_dc d R) (f : q_f3) : q_rg d R f f := by
  rcases hdc with q | q
  · exact Or.inl ⟨q.2.1, rfl⟩
  · exact Or.inr ⟨q.1, 0, rfl⟩
theorem q_rg_trans {d R : Int} {f g h : q_f3} (h1 : q_rg d R f g) (h2 : q_rg d R g h) : q_rg d R f h := by
  rcases h1 with ⟨a, rfl⟩ | ⟨a, n, rfl⟩
  · exact h2
  · rcases h2 with ⟨b, rfl⟩ | ⟨b, m, rfl⟩
    · omega
    · exact Or.inr ⟨a, n + m, q_its_add d R n m f⟩
theorem q_its_mul {d R : Int} {f : q_f3} {n : Nat} (h : q_its d R n f = f) : ∀ m, q_its d R (n * m) f = f
  | 0 => rfl
  | m + 1 => by
    rw [Nat.mul_succ, q_its_add, q_its_mul h m]
    exact h
theorem q_rg_symm {d R : Int} {f g : q_f3} (hdc : q_dc d R) (hf : q_LF d R f) (h : q_rg d R f g) : q_rg d R g f := by
  rcases h with ⟨a, rfl⟩ | ⟨a, n, rfl⟩
  · exact Or.inl ⟨a, rfl⟩
  · obtain ⟨t, t1, t2, t3, t4⟩ := q_ring hdc a hf.1 hf.2.2
    refine Or.inr ⟨a, t * n - n, ?_⟩
    have : n ≤ t * n := Nat.le_mul_of_pos_left n t1
    rw [← q_its_add, show n + (t * n - n) = t * n by omega]
    exact q_its_mul t3 n
theorem q_rg_LF {d R : Int} {f g : q_f3} (hdc : q_dc d R) (hf : q_LF d R f) (h : q_rg d R f g) : q_LF d R g := by
  rcases h with ⟨a, rfl⟩ | ⟨a, n, rfl⟩
  · exact hf
  · exact q_LF_its hdc a hf n
/-- which of the list is the first of its ring -/
theorem q_hx_ex {d R : Int} {n : Nat} {T : Nat → q_f3} {f : q_f3} (hdc : q_dc d R) (hT : q_isT d R n T) (hf : q_LF d R f) : ∃ j, j < n ∧ q_rg d R (T j) f ∧ ∀ i, i < j → ¬ q_rg d R (T i) f := by
  have ex : ∃ j, j < n ∧ q_rg d R (T j) f := by
    by_cases c : 0 < f.1
    · obtain ⟨j, j1, j2⟩ := hT.2.2 f hf c
      exact ⟨j, j1, by rw [j2]; exact q_rg_rfl hdc f⟩
    · have hp : 0 < d := by
        rcases hdc with q | q
        · have := (q_LF_b (Or.inl q) hf).2.2.2.2.2 q.2.1
          omega
        · exact q.1
      have hs := q_st_lst hdc hp hf.1 hf.2.2
      have hf1 : q_LF d R (q_st d R f) := q_LF_its hdc hp hf 1
      have hne := hf1.1.2.1
      obtain ⟨j, j1, j2⟩ := hT.2.2 (q_st d R f) hf1 (by omega)
      refine ⟨j, j1, ?_⟩
      rw [j2]
      exact q_rg_symm hdc hf (Or.inr ⟨hp, 1, rfl⟩)
  obtain ⟨j, j1, j2⟩ := pk_least (fun j => j < n ∧ q_rg d R (T j) f) ex
  exact ⟨j, j1.1, j1.2, fun i hi q => j2 i hi ⟨by omega, q⟩⟩
theorem q_hx_uni {d R : Int} {T : Nat → q_f3} {f : q_f3} {j : Nat} (h1 : q_rg d R (T j) f) (h2 : ∀ i, i < j → ¬ q_rg d R (T i) f) : q_hx d R T f = j := by
  have h := Classical.epsilon_spec (p := fun j => q_rg d R (T j) f ∧ ∀ i, i < j → ¬ q_rg d R (T i) f) ⟨j, h1, h2⟩
  have h : q_rg d R (T (q_hx d R T f)) f ∧ ∀ i, i < q_hx d R T f → ¬ q_rg d R (T i) f := h
  rcases Nat.lt_trichotomy (q_hx d R T f) j with c | c | c
  · exact absurd h.1 (h2 _ c)
  · exact c
  · exact absurd h1 (h.2 _ c)
theorem q_hx_spec {d R : Int} {n : Nat} {T : Nat → q_f3} {f : q_f3} (hdc : q_dc d R) (hT : q_isT d R n T) (hf : q_LF d R f) : q_hx d R T f < n ∧ q_rg d R (T (q_hx d R T f)) f ∧ ∀ i, i < q_hx d R T f → ¬ q_rg d R (T i) f := by
  obtain ⟨j, j1, j2, j3⟩ := q_hx_ex hdc hT hf
  rw [q_hx_uni j2 j3]
  exact ⟨j1, j2, j3⟩
theorem q_hx_le {d R : Int} {n : Nat} {T : Nat → q_f3} {i : Nat} (hdc : q_dc d R) (hT : q_isT d R n T) (hi : i < n) : q_hx d R T (T i) ≤ i := by
  have h := q_hx_spec hdc hT (hT.2.1 i hi).1
  rcases Nat.lt_or_ge i (q_hx d R T (T i)) with c | c
  · exact absurd (q_rg_rfl hdc (T i)) (h.2.2 i c)
  · exact c
theorem q_hx_rg {d R : Int} {n : Nat} {T : Nat → q_f3} {f g : q_f3} (hdc : q_dc d R) (hT : q_isT d R n T) (hf : q_LF d R f) (h : q_rg d R f g) : q_hx d R T g = q_hx d R T f := by
  have s := q_hx_spec hdc hT hf
  refine q_hx_uni (q_rg_trans s.2.1 h) (fun i hi q => s.2.2 i hi ?_)
  exact q_rg_trans q (q_rg_symm hdc hf h)
theorem q_hx_eq {d R : Int} {n : Nat} {T : Nat → q_f3} {f g : q_f3} (hdc : q_dc d R) (hT : q_isT d R n T) (hf : q_LF d R f) (hg : q_LF d R g) (h : q_hx d R T f = q_hx d R T g) : q_rg d R f g := by
  have s := q_hx_spec hdc hT hf
  have u := q_hx_spec hdc hT hg
  rw [← h] at u
  exact q_rg_trans (q_rg_symm hdc ((hT.2.1 _ s.1).1) s.2.1) u.2.1
theorem q_hx_hx {d R : Int} {n : Nat} {T : Nat → q_f3} {f : q_f3} (hdc : q_dc d R) (hT : q_isT d R n T) (hf : q_LF d R f) : q_hx d R T (T (q_hx d R T f)) = q_hx d R T f := by
  have s := q_hx_spec hdc hT hf
  exact (q_hx_rg hdc hT ((hT.2.1 _ s.1).1) s.2.1).symm
/-- how many first ones there are below a place -/
theorem q_hn_yes {d R : Int} {T : Nat → q_f3} {i : Nat} (h : q_hx d R T (T i) = i) : q_hn d R T (i + 1) = q_hn d R T i + 1 := by
  show q_hn d R T i + (if q_hx d R T (T i) = i then 1 else 0) = _
  rw [if_pos h]
theorem q_hn_no {d R : Int} {T : Nat → q_f3} {i : Nat} (h : q_hx d R T (T i) ≠ i) : q_hn d R T (i + 1) = q_hn d R T i := by
  show q_hn d R T i + (if q_hx d R T (T i) = i then 1 else 0) = _
  rw [if_neg h]
  rfl
theorem q_hn_mono {d R : Int} {T : Nat → q_f3} {i : Nat} : ∀ j, i ≤ j → q_hn d R T i ≤ q_hn d R T j
  | 0, h => by rw [show i = 0 by omega]; exact Nat.le_refl _
  | j + 1, h => by
    by_cases c : i = j + 1
    · rw [c]; exact Nat.le_refl _
    · have := q_hn_mono (d := d) (R := R) (T := T) (i := i) j (by omega)
      by_cases e : q_hx d R T (T j) = j
      · rw [q_hn_yes e]; omega
      · rw [q_hn_no e]; exact this
theorem q_hn_le {d R : Int} {T : Nat → q_f3} : ∀ i, q_hn d R T i ≤ i
  | 0 => Nat.le_refl _
  | i + 1 => by
    have := q_hn_le (d := d) (R := R) (T := T) i
    by_cases e : q_hx d R T (T i) = i
    · rw [q_hn_yes e]; omega
    · rw [q_hn_no e]; omega
theorem q_hn_lt {d R : Int} {T : Nat → q_f3} {i j : Nat} (h : q_hx d R T (T i) = i) (hij : i < j) : q_hn d R T i < q_hn d R T j := by
  have := q_hn_mono (d := d) (R := R) (T := T) (i := i + 1) j (by omega)
  rw [q_hn_yes h] at this
  omega
theorem q_hn_inj {d R : Int} {T : Nat → q_f3} {i j : Nat} (hi : q_hx d R T (T i) = i) (hj : q_hx d R T (T j) = j) (h : q_hn d R T i = q_hn d R T j) : i = j := by
  rcases Nat.lt_trichotomy i j with c | c | c
  · have := q_hn_lt hi c; omega
  · exact c
  · have := q_hn_lt hj c; omega
/-- each number below it is one of a first one -/
theorem q_hn_sur {d R : Int} {T : Nat → q_f3} {c : Nat} : ∀ n, c < q_hn d R T n → ∃ i, i < n ∧ q_hx d R T (T i) = i ∧ q_hn d R T i = c
  | 0, h => absurd h (Nat.not_lt_zero c)
  | n + 1, h => by
    by_cases e : q_hx d R T (T n) = n
    · by_cases k : c = q_hn d R T n
      · exact ⟨n, by omega, e, k.symm⟩
      · rw [q_hn_yes e] at h
        obtain ⟨i, a, b, f⟩ := q_hn_sur (d := d) (R := R) (T := T) (c := c) n (by omega)
        exact ⟨i, by omega, b, f⟩
    · rw [q_hn_no e] at h
      obtain ⟨i, a, b, f⟩ := q_hn_sur n h
      exact ⟨i, by omega, b, f⟩
/-! the list of a discriminant -/
theorem q_TT_T {d R : Int} (hdc : q_dc d R) (h4 : q_d4 d) : q_isT d R (q_TT d R).1 (q_TT d R).2 := by
  obtain ⟨n, T, z2, -, -, h, -⟩ := p_X0_listLeast (z := (fun n k => if n = 4 then (if k = 0 then q_i d else q_i R) else 0, fun _ _ => 0)) hdc h4 ⟨rfl, rfl⟩
  exact Classical.epsilon_spec (p := fun x : Nat × (Nat → q_f3) => q_isT d R x.1 x.2) ⟨(n, T), h⟩
theorem q_TT_n {d R : Int} (hdc : q_dc d R) (h4 : q_d4 d) : (q_TT d R).1 ≤ 128 := q_nT hdc h4 (q_TT_T hdc h4).1 (q_TT_T hdc h4).2.1
theorem q_TT_uni {d R : Int} {n : Nat} {T : Nat → q_f3} (hdc : q_dc d R) (h4 : q_d4 d) (h : q_isT d R n T) : n = (q_TT d R).1 ∧ ∀ i, i < n → T i = (q_TT d R).2 i := q_isT_uni h (q_TT_T hdc h4)
/-- the place of the head of a class -/
theorem q_hpl_spec {d R : Int} {c : Nat} (h : c < q_nc2 d R) : q_hpl d R c < (q_TT d R).1 ∧ q_hx d R (q_TT d R).2 ((q_TT d R).2 (q_hpl d R c)) = q_hpl d R c ∧ q_hn d R (q_TT d R).2 (q_hpl d R c) = c := Classical.epsilon_spec (p := fun i => i < (q_TT d R).1 ∧ q_hx d R (q_TT d R).2 ((q_TT d R).2 i) = i ∧ q_hn d R (q_TT d R).2 i = c) (q_hn_sur _ h)
theorem q_kls_lt {d R : Int} {f : q_f3} (hdc : q_dc d R) (h4 : q_d4 d) (hf : q_LF d R f) : q_kls d R f < q_nc2 d R := by
  have hT := q_TT_T hdc h4
  exact q_hn_lt (q_hx_hx hdc hT hf) (q_hx_spec hdc hT hf).1
theorem q_kls_rg {d R : Int} {f g : q_f3} (hdc : q_dc d R) (h4 : q_d4 d) (hf : q_LF d R f) (h : q_rg d R f g) : q_kls d R g = q_kls d R f := by
  unfold q_kls
  rw [q_hx_rg hdc (q_TT_T hdc h4) hf h]
theorem q_hd_LF {d R : Int} {c : Nat} (hdc : q_dc d R) (h4 : q_d4 d) (h : c < q_nc2 d R) : q_LF d R (q_hd d R c) ∧ 0 < (q_hd d R c).1 := (q_TT_T hdc h4).2.1 _ (q_hpl_spec h).1
theorem q_kls_hd {d R : Int} {c : Nat} (h : c < q_nc2 d R) : q_kls d R (q_hd d R c) = c := by
  have s := q_hpl_spec h
  unfold q_kls q_hd
  rw [s.2.1, s.2.2]
theorem q_nc2_le {d R : Int} (hdc : q_dc d R) (h4 : q_d4 d) : q_nc2 d R ≤ 128 := Nat.le_trans (q_hn_le _) (q_TT_n hdc h4)
