/-! greatest common divisors with their factors, of both -/
def q_eul : Nat → Int → Int → Int → Int → Int
  | 0, _, _, ht, _ => ht
  | f + 1, hi, lo, ht, lt => if lo = 0 then ht else q_eul f lo (hi % lo) lt (ht - hi / lo * lt)
set_option maxRecDepth 100000 in
theorem q_eul_ok : ∀ n : Nat, n < 64 → ∀ m : Nat, m < n → (n : Int) ∣ q_eul 64 n m 0 1 * m - (Int.gcd m n : Int) ∧ -64 ≤ q_eul 64 n m 0 1 ∧ q_eul 64 n m 0 1 ≤ 64 := by decide +kernel
theorem p_X7_facLoop {z : q_Z} : ∀ (r : Nat) (hi lo ht lt : Int) (t : Nat), 0 ≤ hi → hi ≤ 1000 → 0 ≤ lo → lo ≤ r → lo ≤ 1000 → t + r < 100000 → ∃ w4 w6 w10 w12, q_lp B_X7_factorToDivisor_27 (r + 1) (q_l hi, q_l lo, q_l ht, q_l lt, q_i t, z) = some ((w4, w6, q_l (q_eul (r + 1) hi lo ht lt), w10, w12, z), 0) := by
  intro r
  induction r with
  | zero =>
    intro hi lo ht lt t h1 h2 h3 h4 h5 h6
    have e : lo = 0 := by omega
    subst e
    have e9 : q_eul (0 + 1) hi 0 ht lt = ht := by show (if (0 : Int) = 0 then ht else _) = ht; rw [if_pos rfl]
    rw [e9]
    refine ⟨q_l hi, q_l 0, q_l lt, q_i t, q_lp_end ?_⟩
    simp only [B_X7_factorToDivisor_27]
    rw [if_neg (by rw [show (100000 : Int32) = q_i 100000 from rfl, q_i_le (by decide) ⟨by omega, by omega⟩]; omega), if_pos (by rfl)]
  | succ r ih =>
    intro hi lo ht lt t h1 h2 h3 h4 h5 h6
    have tst : ¬ (100000 : Int32) ≤ q_i t := by rw [show (100000 : Int32) = q_i 100000 from rfl, q_i_le (by decide) ⟨by omega, by omega⟩]; omega
    by_cases c : lo = 0
    · subst c
      have e9 : q_eul (r + 1 + 1) hi 0 ht lt = ht := by show (if (0 : Int) = 0 then ht else _) = ht; rw [if_pos rfl]
      rw [e9]
      refine ⟨q_l hi, q_l 0, q_l lt, q_i t, q_lp_mono (q_lp_end (n := 0) ?_) (by omega)⟩
      simp only [B_X7_factorToDivisor_27]
      rw [if_neg tst, if_pos (by rfl)]
    · have e0 : ¬ q_l lo = (0 : Int64) := by rw [q_l0, q_l_eq ⟨by omega, by omega⟩ (by decide)]; exact c
      have ed : q_l hi / q_l lo = q_l (hi / lo) := by
        have e1 : hi.tdiv lo = hi / lo := Int.tdiv_eq_ediv_of_nonneg h1
        rw [q_l_div ⟨by omega, by omega⟩ ⟨by omega, by omega⟩ (q_tdivB ⟨by omega, by omega⟩ ⟨by omega, by omega⟩), e1]
      have em : hi - hi / lo * lo = hi % lo := by
        have := Int.mul_ediv_add_emod hi lo
        have e2 : lo * (hi / lo) = hi / lo * lo := Int.mul_comm _ _
        omega
      have m0 := Int.emod_nonneg hi c
      have m1 := Int.emod_lt_of_pos hi (show 0 < lo by omega)
      have hb : B_X7_factorToDivisor_27 (q_l hi, q_l lo, q_l ht, q_l lt, q_i t, z) = some ((q_l lo, q_l (hi % lo), q_l lt, q_l (ht - hi / lo * lt), q_i ((t + 1 : Nat) : Int), z), 0) := by
        simp only [B_X7_factorToDivisor_27]
        rw [if_neg tst, if_neg e0, if_pos e0, ed, q_l_mul, q_l_mul, q_l_sub, q_l_sub, em, q_i1, q_i_add]
        rfl
      obtain ⟨w4, w6, w10, w12, g⟩ := ih lo (hi % lo) lt (ht - hi / lo * lt) (t + 1) (by omega) h5 m0 (by omega) (by omega) (by omega)
      refine ⟨w4, w6, w10, w12, ?_⟩
      rw [q_lp_go hb, g]
      have e9 : q_eul (r + 1 + 1) hi lo ht lt = q_eul (r + 1) lo (hi % lo) lt (ht - hi / lo * lt) := by
        show (if lo = 0 then ht else q_eul (r + 1) lo (hi % lo) lt (ht - hi / lo * lt)) = _
        rw [if_neg c]
      rw [e9]
theorem p_X7_factor {z : q_Z} {m n : Int} (hn : 0 < n) (hn2 : n ≤ 63) (hm : -1000 ≤ m ∧ m ≤ 1000) : ∃ K, F_X7_factorToDivisor z (q_l m) (q_l n) = some (q_l K, z) ∧ n ∣ K * m - (Int.gcd m n : Int) ∧ -64 ≤ K ∧ K ≤ 64 := by
  have m0 := Int.emod_nonneg m (show n ≠ 0 by omega)
  have m1 := Int.emod_lt_of_pos m hn
  obtain ⟨w4, w6, w10, w12, g⟩ := p_X7_facLoop (z := z) 63 n (m % n) 0 1 0 (by omega) (by omega) m0 (by omega) (by omega) (by omega)
  have g := q_lp_mono g (show 63 + 1 ≤ q_fu by decide)
  have ok := q_eul_ok n.toNat (by omega) (m % n).toNat (by omega)
  rw [Int.toNat_of_nonneg m0, Int.toNat_of_nonneg (show 0 ≤ n by omega)] at ok
  refine ⟨q_eul 64 n (m % n) 0 1, ?_, ?_, ok.2⟩
  · unfold F_X7_factorToDivisor
    rw [if_pos (by rw [q_l0, q_l_lt (by decide) ⟨by omega, by omega⟩]; exact hn), p_J9_fml ⟨by omega, by omega⟩ ⟨by omega, by omega⟩ ⟨by omega, by omega⟩ hn, Option.bind_some]
    dsimp only
    have g : q_lp B_X7_factorToDivisor_27 q_fu (q_l n, q_l (m % n), 0, 1, 0, z) = _ := g
    rw [g, Option.bind_some]
    rfl
  · have eg : Int.gcd (m % n) n = Int.gcd m n := by
      have h2 := Int.mul_ediv_add_emod m n
      apply Nat.dvd_antisymm
      · refine Int.natCast_dvd_natCast.mp (Int.dvd_coe_gcd ?_ (Int.gcd_dvd_right ..))
        have h := Int.dvd_add (Int.dvd_mul_of_dvd_left (c := m / n) (Int.gcd_dvd_right (m % n) n)) (Int.gcd_dvd_left (m % n) n)
        rw [h2] at h
        exact h
      · refine Int.natCast_dvd_natCast.mp (Int.dvd_coe_gcd ?_ (Int.gcd_dvd_right ..))
        have h := Int.dvd_sub (Int.gcd_dvd_left m n) (Int.dvd_mul_of_dvd_left (c := m / n) (Int.gcd_dvd_right m n))
        rw [show m - n * (m / n) = m % n by omega] at h
        exact h
    have h1 := ok.1
    rw [eg] at h1
    obtain ⟨x, hx⟩ := h1
    have h2 := Int.mul_ediv_add_emod m n
    refine ⟨x + q_eul 64 n (m % n) 0 1 * (m / n), ?_⟩
    generalize q_eul 64 n (m % n) 0 1 = K at hx ⊢
    have e : K * m = K * (n * (m / n) + m % n) := by rw [h2]
    rw [e]
    grind
/-! common() of the reference -/
def q_col : Nat → Int → Int → Int → Int → Int → Int → Int × Int × Int
  | 0, x, _, ux, vx, _, _ => (x, ux, vx)
  | f + 1, x, y, ux, vx, uy, vy => if y = 0 then (x, ux, vx) else q_col f y (x.tmod y) uy vy (ux - x.tdiv y * uy) (vx - x.tdiv y * vy)
def q_colOk (a b : Int) : Bool := decide ((q_col 64 a b 1 0 0 1).2.1 * a + (q_col 64 a b 1 0 0 1).2.2 * b = (q_col 64 a b 1 0 0 1).1 ∧ (q_col 64 a b 1 0 0 1).1.natAbs = Int.gcd a b ∧ (q_col 64 a b 1 0 0 1).2.1.natAbs ≤ 64 ∧ (q_col 64 a b 1 0 0 1).2.2.natAbs ≤ 64)
set_option maxRecDepth 100000 in
theorem q_col_ok1 : ∀ a : Nat, a < 64 → ∀ b : Nat, b < 64 → q_colOk (a : Nat) (b : Nat) = true := by decide +kernel
set_option maxRecDepth 100000 in
theorem q_col_ok2 : ∀ a : Nat, a < 64 → ∀ b : Nat, b < 64 → q_colOk (a : Nat) (-(b : Nat)) = true := by decide +kernel
theorem q_col_ok {a b : Int} (ha : 0 < a ∧ a ≤ 63) (hb : -63 ≤ b ∧ b ≤ 63) : q_colOk a b = true := by
  by_cases c : 0 ≤ b
  · have := q_col_ok1 a.toNat (by omega) b.toNat (by omega)
    rw [Int.toNat_of_nonneg (by omega), Int.toNat_of_nonneg c] at this
    exact this
  · have := q_col_ok2 a.toNat (by omega) (-b).toNat (by omega)
    rw [Int.toNat_of_nonneg (by omega), Int.toNat_of_nonneg (by omega), Int.neg_neg] at this
    exact this
theorem p_X10_comLoop {z : q_Z} : ∀ (r : Nat) (x y ux vx uy vy : Int), x.natAbs ≤ 1000 → y.natAbs ≤ 1000 → y.natAbs ≤ r → ∃ w4 w7 w8, q_lp B_X10_common_18 (r + 1) (q_l x, q_l y, q_l ux, q_l vx, q_l uy, q_l vy, z) = some ((q_l (q_col (r + 1) x y ux vx uy vy).1, w4, q_l (q_col (r + 1) x y ux vx uy vy).2.1, q_l (q_col (r + 1) x y ux vx uy vy).2.2, w7, w8, z), 0) := by
  intro r
  induction r with
  | zero =>
    intro x y ux vx uy vy h1 h2 h3
    have e : y = 0 := by omega
    subst e
    have e9 : q_col (0 + 1) x 0 ux vx uy vy = (x, ux, vx) := by show (if (0 : Int) = 0 then (x, ux, vx) else _) = _; rw [if_pos rfl]
    rw [e9]
    refine ⟨q_l 0, q_l uy, q_l vy, q_lp_end ?_⟩
    simp only [B_X10_common_18]
    rw [if_pos (by rfl)]
  | succ r ih =>
    intro x y ux vx uy vy h1 h2 h3
    by_cases c : y = 0
    · subst c
      have e9 : q_col (r + 1 + 1) x 0 ux vx uy vy = (x, ux, vx) := by show (if (0 : Int) = 0 then (x, ux, vx) else _) = _; rw [if_pos rfl]
      rw [e9]
      refine ⟨q_l 0, q_l uy, q_l vy, q_lp_mono (q_lp_end (n := 0) ?_) (by omega)⟩
      simp only [B_X10_common_18]
      rw [if_pos (by rfl)]
    · have e0 : ¬ q_l y = (0 : Int64) := by rw [q_l0, q_l_eq ⟨by omega, by omega⟩ (by decide)]; exact c
      have hX : q_B x := ⟨by omega, by omega⟩
      have hY : q_B y := ⟨by omega, by omega⟩
      have ed : q_l x / q_l y = q_l (x.tdiv y) := q_l_div hX hY (q_tdivB hX ⟨by omega, by omega⟩)
      have em : x - x.tdiv y * y = x.tmod y := by rw [Int.tmod_def, Int.mul_comm]
      have hm : (x.tmod y).natAbs < y.natAbs := by rw [Int.natAbs_tmod]; exact Nat.mod_lt _ (by omega)
      have hb : B_X10_common_18 (q_l x, q_l y, q_l ux, q_l vx, q_l uy, q_l vy, z) = some ((q_l y, q_l (x.tmod y), q_l uy, q_l vy, q_l (ux - x.tdiv y * uy), q_l (vx - x.tdiv y * vy), z), 0) := by
        simp only [B_X10_common_18]
        rw [if_neg e0, if_pos e0, ed, q_l_mul, q_l_mul, q_l_mul, q_l_sub, q_l_sub, q_l_sub, em]
      obtain ⟨w4, w7, w8, g⟩ := ih y (x.tmod y) uy vy (ux - x.tdiv y * uy) (vx - x.tdiv y * vy) h2 (by omega) (by omega)
      refine ⟨w4, w7, w8, ?_⟩
      have e9 : q_col (r + 1 + 1) x y ux vx uy vy = q_col (r + 1) y (x.tmod y) uy vy (ux - x.tdiv y * uy) (vx - x.tdiv y * vy) := by
        show (if y = 0 then (x, ux, vx) else q_col (r + 1) y (x.tmod y) uy vy (ux - x.tdiv y * uy) (vx - x.tdiv y * vy)) = _
        rw [if_neg c]
      rw [q_lp_go hb, g, e9]
theorem p_X10_common {z : q_Z} {a b : Int} (ha : 0 < a ∧ a ≤ 63) (hb : -63 ≤ b ∧ b ≤ 63) : ∃ u v, F_X10_common z (q_l a) (q_l b) = some ((), (z.1, q_u2 (q_u2 (q_u2 z.2 128 26 (q_l (Int.gcd a b))) 128 27 (q_l u)) 128 28 (q_l v))) ∧ u * a + v * b = (Int.gcd a b : Int) ∧ (-64 ≤ u ∧ u ≤ 64) ∧ (-64 ≤ v ∧ v ≤ 64) := by
  obtain ⟨w4, w7, w8, g⟩ := p_X10_comLoop (z := z) 63 a b 1 0 0 1 (by omega) (by omega) (by omega)
  have g := q_lp_mono g (show 63 + 1 ≤ q_fu by decide)
  have ok := of_decide_eq_true (q_col_ok ha hb)
  obtain ⟨c, hc⟩ : ∃ c, c = q_col 64 a b 1 0 0 1 := ⟨_, rfl⟩
  rw [← hc] at ok
  have hc : q_col (63 + 1) a b 1 0 0 1 = c := hc.symm
  rw [hc] at g
  obtain ⟨o1, o2, o3, o4⟩ := ok
  have g : q_lp B_X10_common_18 q_fu (q_l a, q_l b, 1, 0, 0, 1, z) = _ := g
  have hgb : Int.gcd a b ≤ 63 := by
    have h1 : Int.gcd a b ∣ a.natAbs := Nat.gcd_dvd_left _ _
    have := Nat.le_of_dvd (by omega) h1
    omega
  have kx : ((0 : Int64) ≤ q_l c.1 ↔ 0 ≤ c.1) := by rw [q_l0, q_l_le (by decide) ⟨by omega, by omega⟩]
  by_cases cx : 0 ≤ c.1
  · refine ⟨c.2.1, c.2.2, ?_, by omega, ⟨by omega, by omega⟩, ⟨by omega, by omega⟩⟩
    unfold F_X10_common
    rw [g, Option.bind_some]
    dsimp only
    unfold T_X10_common_105 T_X10_common_124 T_X10_common_143
    rw [if_pos rfl, if_pos (kx.mpr cx), if_pos (kx.mpr cx), if_pos (kx.mpr cx), show (Int.gcd a b : Int) = c.1 by omega]
  · refine ⟨-c.2.1, -c.2.2, ?_, ?_, ⟨by omega, by omega⟩, ⟨by omega, by omega⟩⟩
    · unfold F_X10_common
      rw [g, Option.bind_some]
      dsimp only
      unfold T_X10_common_105 T_X10_common_124 T_X10_common_143
      rw [if_pos rfl, if_neg (fun q => cx (kx.mp q)), if_neg (fun q => cx (kx.mp q)), if_neg (fun q => cx (kx.mp q)), q_l_neg, q_l_neg, q_l_neg, show (Int.gcd a b : Int) = -c.1 by omega]
    · rw [Int.neg_mul, Int.neg_mul]
      omega
