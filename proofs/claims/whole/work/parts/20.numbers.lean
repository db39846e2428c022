/-! numbers: longs and ints as whole numbers in their range; loops by a measure -/
abbrev q_B (x : Int) : Prop := -9223372036854775808 ≤ x ∧ x < 9223372036854775808
abbrev q_b (x : Int) : Prop := -2147483648 ≤ x ∧ x < 2147483648
def q_l (x : Int) : Int64 := Int64.ofInt x
def q_i (x : Int) : Int32 := Int32.ofInt x
theorem q_l0 : (0 : Int64) = q_l 0 := rfl
theorem q_l1 : (1 : Int64) = q_l 1 := rfl
theorem q_l2 : (2 : Int64) = q_l 2 := rfl
theorem q_l4 : (4 : Int64) = q_l 4 := rfl
theorem q_i0 : (0 : Int32) = q_i 0 := rfl
theorem q_i1 : (1 : Int32) = q_i 1 := rfl
theorem q_l_toInt {x : Int} (h : q_B x) : (q_l x).toInt = x := Int64.toInt_ofInt_of_le h.1 h.2
theorem q_i_toInt {x : Int} (h : q_b x) : (q_i x).toInt = x := Int32.toInt_ofInt_of_le h.1 h.2
theorem q_l_of (v : Int64) : ∃ x, q_B x ∧ v = q_l x := ⟨v.toInt, ⟨v.le_toInt, v.toInt_lt⟩, (Int64.ofInt_toInt v).symm⟩
theorem q_i_of (v : Int32) : ∃ x, q_b x ∧ v = q_i x := ⟨v.toInt, ⟨v.le_toInt, v.toInt_lt⟩, (Int32.ofInt_toInt v).symm⟩
theorem q_l_add (x y : Int) : q_l x + q_l y = q_l (x + y) := (Int64.ofInt_add x y).symm
theorem q_l_sub (x y : Int) : q_l x - q_l y = q_l (x - y) := (Int64.ofInt_sub x y).symm
theorem q_l_mul (x y : Int) : q_l x * q_l y = q_l (x * y) := (Int64.ofInt_mul x y).symm
theorem q_l_neg (x : Int) : -q_l x = q_l (-x) := (Int64.ofInt_neg x).symm
theorem q_i_add (x y : Int) : q_i x + q_i y = q_i (x + y) := (Int32.ofInt_add x y).symm
theorem q_i_sub (x y : Int) : q_i x - q_i y = q_i (x - y) := (Int32.ofInt_sub x y).symm
theorem q_i_mul (x y : Int) : q_i x * q_i y = q_i (x * y) := (Int32.ofInt_mul x y).symm
theorem q_i_neg (x : Int) : -q_i x = q_i (-x) := (Int32.ofInt_neg x).symm
theorem q_l_lt {x y : Int} (hx : q_B x) (hy : q_B y) : q_l x < q_l y ↔ x < y := by
  rw [Int64.lt_iff_toInt_lt, q_l_toInt hx, q_l_toInt hy]
theorem q_l_le {x y : Int} (hx : q_B x) (hy : q_B y) : q_l x ≤ q_l y ↔ x ≤ y := by
  rw [Int64.le_iff_toInt_le, q_l_toInt hx, q_l_toInt hy]
theorem q_l_eq {x y : Int} (hx : q_B x) (hy : q_B y) : q_l x = q_l y ↔ x = y := by
  rw [← Int64.toInt_inj, q_l_toInt hx, q_l_toInt hy]
theorem q_i_lt {x y : Int} (hx : q_b x) (hy : q_b y) : q_i x < q_i y ↔ x < y := by
  rw [Int32.lt_iff_toInt_lt, q_i_toInt hx, q_i_toInt hy]
theorem q_i_le {x y : Int} (hx : q_b x) (hy : q_b y) : q_i x ≤ q_i y ↔ x ≤ y := by
  rw [Int32.le_iff_toInt_le, q_i_toInt hx, q_i_toInt hy]
theorem q_i_eq {x y : Int} (hx : q_b x) (hy : q_b y) : q_i x = q_i y ↔ x = y := by
  rw [← Int32.toInt_inj, q_i_toInt hx, q_i_toInt hy]
theorem q_l_div {x y : Int} (hx : q_B x) (hy : q_B y) (h : q_B (x.tdiv y)) : q_l x / q_l y = q_l (x.tdiv y) := by
  rw [← Int64.toInt_inj, Int64.toInt_div, q_l_toInt hx, q_l_toInt hy, q_l_toInt h]
  exact Int.bmod_eq_of_le h.1 h.2
theorem q_i_div {x y : Int} (hx : q_b x) (hy : q_b y) (h : q_b (x.tdiv y)) : q_i x / q_i y = q_i (x.tdiv y) := by
  rw [← Int32.toInt_inj, Int32.toInt_div, q_i_toInt hx, q_i_toInt hy, q_i_toInt h]
  exact Int.bmod_eq_of_le h.1 h.2
theorem q_l_rem {x y : Int} (hx : q_B x) (hy : q_B y) (h : q_B (x.tdiv y)) : q_l x - q_l x / q_l y * q_l y = q_l (x.tmod y) := by
  rw [q_l_div hx hy h, q_l_mul, q_l_sub, Int.tmod_def, Int.mul_comm]
theorem q_i_rem {x y : Int} (hx : q_b x) (hy : q_b y) (h : q_b (x.tdiv y)) : q_i x - q_i x / q_i y * q_i y = q_i (x.tmod y) := by
  rw [q_i_div hx hy h, q_i_mul, q_i_sub, Int.tmod_def, Int.mul_comm]
theorem q_l_i {x : Int} (h : q_b x) : Int32.toInt64 (q_i x) = q_l x := by
  rw [← Int64.ofInt_int32ToInt, q_i_toInt h]
  rfl
theorem q_i_l (x : Int) : Int64.toInt32 (q_l x) = q_i x := Int64.toInt32_ofInt
theorem q_clamp {x : Int} (h : q_b x) : (q_i x).toNatClampNeg = x.toNat := by
  show (q_i x).toInt.toNat = x.toNat
  rw [q_i_toInt h]
/-! loops -/
theorem q_lp_mono {σ : Type} {b : σ → Option (σ × Nat)} {n : Nat} : ∀ {m : Nat} {s : σ} {r : σ × Nat}, q_lp b n s = some r → n ≤ m → q_lp b m s = some r := by
  induction n with
  | zero => intro m s r h; cases h
  | succ n ih =>
    intro m s r h hm
    cases m with
    | zero => omega
    | succ m =>
      obtain ⟨⟨s1, u⟩, h1, h2⟩ := Option.bind_eq_some_iff.mp h
      refine Option.bind_eq_some_iff.mpr ⟨(s1, u), h1, ?_⟩
      cases u with
      | zero => exact ih h2 (by omega)
      | succ u => exact h2
theorem q_lp_go {σ : Type} {b : σ → Option (σ × Nat)} {n : Nat} {s s1 : σ} (h : b s = some (s1, 0)) : q_lp b (n + 1) s = q_lp b n s1 := by
  show (b s).bind _ = _
  rw [h]
  rfl
theorem q_lp_end {σ : Type} {b : σ → Option (σ × Nat)} {n t : Nat} {s s1 : σ} (h : b s = some (s1, t + 1)) : q_lp b (n + 1) s = some (s1, t) := by
  show (b s).bind _ = _
  rw [h]
  rfl
/-- a loop with a measure -/
theorem q_lp_by {σ : Type} {b : σ → Option (σ × Nat)} (P : σ → Prop) (Q : σ → Nat → Prop) (μ : σ → Nat) (hs : ∀ s, P s → (∃ s1, b s = some (s1, 0) ∧ P s1 ∧ μ s1 < μ s) ∨ ∃ s1 t, b s = some (s1, t + 1) ∧ Q s1 t) : ∀ (n : Nat) (s : σ), P s → μ s < n → ∃ s1 t, q_lp b n s = some (s1, t) ∧ Q s1 t := by
  intro n
  induction n with
  | zero => intro s _ h; omega
  | succ n ih =>
    intro s hP hm
    rcases hs s hP with ⟨s1, h1, h2, h3⟩ | ⟨s1, t, h1, h2⟩
    · obtain ⟨s2, t, g1, g2⟩ := ih s1 h2 (by omega)
      exact ⟨s2, t, by rw [q_lp_go h1]; exact g1, g2⟩
    · exact ⟨s1, t, q_lp_end h1, h2⟩
/-! small functions -/
theorem p_X10_abs {z : q_Z} {x : Int} (h : q_B x) (h2 : q_B (-x)) : F_X10_abs z (q_l x) = some (q_l x.natAbs, z) := by
  have h0 : q_B 0 := by decide
  unfold F_X10_abs
  rw [q_l0]
  by_cases c : 0 ≤ x
  · rw [if_pos ((q_l_le h0 h).mpr c)]
    congr 3
    omega
  · rw [if_neg (fun q => c ((q_l_le h0 h).mp q)), q_l_neg]
    congr 3
    omega
theorem p_J9_absl {z : q_Z} {x : Int} (h : q_B x) (h2 : q_B (-x)) : F_J9_abs_067f4 z (q_l x) = some (q_l x.natAbs, z) := p_X10_abs h h2
theorem p_J9_abs {z : q_Z} {x : Int} (h : q_b x) (h2 : q_b (-x)) : F_J9_abs_0f7a4 z (q_i x) = some (q_i x.natAbs, z) := by
  have h0 : q_b 0 := by decide
  unfold F_J9_abs_0f7a4
  rw [q_i0]
  by_cases c : 0 ≤ x
  · rw [if_pos ((q_i_le h0 h).mpr c)]
    congr 3
    omega
  · rw [if_neg (fun q => c ((q_i_le h0 h).mp q)), q_i_neg]
    congr 3
    omega
theorem p_X10_in {z : q_Z} {x a c : Int} (hx : q_B x) (ha : q_B a) (hc : q_B c) : F_X10_in z (q_l x) (q_l a) (q_l c) = some (if a ≤ x ∧ x ≤ c then 1 else 0, z) := by
  unfold F_X10_in T_X10_in_17
  by_cases c1 : x < a
  · rw [if_pos ((q_l_lt hx ha).mpr c1), if_neg (by omega)]
  · rw [if_neg (fun q => c1 ((q_l_lt hx ha).mp q))]
    by_cases c2 : c < x
    · rw [if_pos ((q_l_lt hc hx).mpr c2), if_neg (by omega)]
    · rw [if_neg (fun q => c2 ((q_l_lt hc hx).mp q)), if_pos (by omega)]
theorem p_J9_max {z : q_Z} {x y : Int} (hx : q_b x) (hy : q_b y) : F_J9_max_7cf53 z (q_i x) (q_i y) = some (q_i (max x y), z) := by
  unfold F_J9_max_7cf53
  by_cases c : x < y
  · rw [if_pos ((q_i_lt hx hy).mpr c)]
    congr 3
    omega
  · rw [if_neg (fun q => c ((q_i_lt hx hy).mp q))]
    congr 3
    omega
theorem p_J9_min {z : q_Z} {x y : Int} (hx : q_b x) (hy : q_b y) : F_J9_min_7cf53 z (q_i x) (q_i y) = some (q_i (min x y), z) := by
  unfold F_J9_min_7cf53
  by_cases c : y < x
  · rw [if_pos ((q_i_lt hy hx).mpr c)]
    congr 3
    omega
  · rw [if_neg (fun q => c ((q_i_lt hy hx).mp q))]
    congr 3
    omega
theorem q_tmod_np {x y : Int} (h : x ≤ 0) : x.tmod y ≤ 0 := by
  have h1 := Int.tmod_nonneg y (show 0 ≤ -x by omega)
  rw [Int.neg_tmod] at h1
  omega
theorem p_J9_fml {z : q_Z} {x y : Int} (hx : q_B x) (hx2 : q_B (-x)) (hy : q_B y) (hy0 : 0 < y) : F_J9_floorMod_f86c9 z (q_l x) (q_l y) = some (q_l (x % y), z) := by
  have hd : q_B (x.tdiv y) := by
    have h1 : (x.tdiv y).natAbs ≤ x.natAbs := by rw [Int.natAbs_tdiv]; exact Nat.div_le_self _ _
    constructor <;> omega
  have hm : q_B (x.tmod y) := by
    have h1 : (x.tmod y).natAbs ≤ x.natAbs := by rw [Int.natAbs_tmod]; exact Nat.mod_le _ _
    constructor
    · rcases Int.le_total 0 x with c | c
      · have := Int.tmod_nonneg y c; omega
      · omega
    · rcases Int.le_total 0 x with c | c
      · omega
      · have : x.tmod y ≤ 0 := q_tmod_np c
        omega
  have e1 : q_l x - q_l x / q_l y * q_l y = q_l (x.tmod y) := q_l_rem hx hy hd
  have hsg : (0 : Int64) ≤ q_l x ^^^ q_l y ↔ 0 ≤ x := by
    rw [Int64.le_iff_toInt_le]
    have h1 : (q_l x ^^^ q_l y).toInt = ((q_l x).toBitVec ^^^ (q_l y).toBitVec).toInt := rfl
    rw [h1]
    have h2 : (0 : Int) ≤ ((q_l x).toBitVec ^^^ (q_l y).toBitVec).toInt ↔ ((q_l x).toBitVec ^^^ (q_l y).toBitVec).msb = false := by
      rw [BitVec.msb_eq_toInt]
      simp
    have h3 : (q_l x).toBitVec.msb = decide (x < 0) := by
      rw [BitVec.msb_eq_toInt]
      have : (q_l x).toBitVec.toInt = x := q_l_toInt hx
      rw [this]
    have h4 : (q_l y).toBitVec.msb = false := by
      rw [BitVec.msb_eq_toInt]
      have : (q_l y).toBitVec.toInt = y := q_l_toInt hy
      rw [this]
      simp
      omega
    show (0 : Int) ≤ _ ↔ _
    rw [h2, BitVec.msb_xor, h3, h4]
    simp
  unfold F_J9_floorMod_f86c9 T_J9_floorMod_f86c9_25
  rw [e1, if_pos (by rw [q_l0, q_l_eq hy (by decide)]; omega)]
  have hmod : x % y = if 0 ≤ x ∨ x.tmod y = 0 then x.tmod y else x.tmod y + y := by
    by_cases c : 0 ≤ x
    · rw [if_pos (Or.inl c), Int.tmod_eq_emod_of_nonneg c]
    · have h5 := Int.emod_nonneg x (show y ≠ 0 by omega)
      have h6 := Int.emod_lt_of_pos x hy0
      have h7 : x.tmod y ≤ 0 := q_tmod_np (by omega)
      have h8 : -y < x.tmod y := by
        have := Int.natAbs_tmod x y
        have h10 : x.natAbs % y.natAbs < y.natAbs := Nat.mod_lt _ (by omega)
        omega
      have h9 : x.tmod y % y = x % y := by
        have h11 := Int.tmod_add_mul_tdiv x y
        have h12 := Int.add_mul_emod_self_left (x.tmod y) y (x.tdiv y)
        rw [h11] at h12
        exact h12.symm
      by_cases c2 : x.tmod y = 0
      · rw [if_pos (Or.inr c2), c2]
        rw [c2] at h9
        simpa using h9.symm
      · rw [if_neg (by omega)]
        rw [← h9]
        have : (x.tmod y + y) % y = x.tmod y % y := Int.add_emod_right _ _
        rw [← this]
        exact Int.emod_eq_of_lt (by omega) (by omega)
  by_cases c : 0 ≤ x
  · rw [if_pos (hsg.mpr c), hmod, if_pos (Or.inl c)]
  · rw [if_neg (fun q => c (hsg.mp q))]
    by_cases c2 : x.tmod y = 0
    · rw [if_pos (by rw [c2]; rfl), hmod, if_pos (Or.inr c2)]
    · rw [if_neg (by rw [q_l0, q_l_eq hm (by decide)]; exact c2), hmod, if_neg (by omega), q_l_add]
