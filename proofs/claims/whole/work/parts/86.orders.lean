/-! orders -/
theorem q_nle {a b : Nat} (ha : a < 2147483648) (hb : b < 2147483648) : q_i (a : Int) ≤ q_i (b : Int) ↔ a ≤ b := by
  rw [q_i_le ⟨by omega, by omega⟩ ⟨by omega, by omega⟩]
  omega
theorem q_nlt {a b : Nat} (ha : a < 2147483648) (hb : b < 2147483648) : q_i (a : Int) < q_i (b : Int) ↔ a < b := by
  rw [q_i_lt ⟨by omega, by omega⟩ ⟨by omega, by omega⟩]
  omega
theorem q_neq {a b : Nat} (ha : a < 2147483648) (hb : b < 2147483648) : q_i (a : Int) = q_i (b : Int) ↔ a = b := by
  rw [q_i_eq ⟨by omega, by omega⟩ ⟨by omega, by omega⟩]
  omega
theorem q_nti {a : Nat} (ha : a < 2147483648) : Int32.toInt (q_i (a : Int)) = a := q_i_toInt ⟨by omega, by omega⟩
theorem q_ncl {a : Nat} (ha : a < 2147483648) : Int32.toNatClampNeg (q_i (a : Int)) = a := by
  rw [q_clamp ⟨by omega, by omega⟩]
  omega
theorem q_nsu (a : Nat) : q_i (a : Int) + 1 = q_i ((a + 1 : Nat) : Int) := by
  rw [q_i1, q_i_add]
  rfl
/-- the group -/
theorem q_JG {d R : Int} (hdc : q_dc d R) (h4 : q_d4 d) : q_Gp (q_nc2 d R) (q_J d R) :=
  ⟨q_nc2_pos hdc h4, fun _ _ hi hj => q_J_lt hdc h4 hi hj, fun _ _ hi hj => q_J_comm hdc h4 hi hj, fun _ _ _ hi hj hk => q_J_assoc hdc h4 hi hj hk, fun _ hi => q_J_one hdc h4 hi, fun _ hi => q_J_inv hdc h4 hi⟩
theorem q_or_b {d R : Int} {i : Nat} (hdc : q_dc d R) (h4 : q_d4 d) (hi : i < q_nc2 d R) : 0 < q_or (q_J d R) i ∧ q_or (q_J d R) i ≤ 128 := by
  have h1 := q_or_le (q_JG hdc h4) hi
  have h2 := q_nc2_le hdc h4
  exact ⟨(q_or_spec (q_JG hdc h4) hi).1, by omega⟩
/-- the reference -/
theorem p_X10_orderLoop {d R : Int} {I : Nat → Nat → Int32} {i : Nat} (hdc : q_dc d R) (h4 : q_d4 d) (hi : i < q_nc2 d R) : ∀ (r m : Nat) (L : Nat → Nat → Int64), m + r = q_or (q_J d R) i → 0 < m → q_Mg d R (I, L) → q_Mtab d R (I, L) → ∃ L2, q_lp B_X10_orderOf_10 (r + 1) (q_i i, 0, q_i m, q_i (q_pw (q_J d R) i m), (I, L)) = some ((q_i i, 0, q_i (q_or (q_J d R) i), 0, (I, L2)), 0) ∧ ∀ k, k ≠ 128 → L2 k = L k := by
  have g := q_JG hdc h4
  obtain ⟨s1, s2, s3⟩ := q_or_spec g hi
  have hb := q_or_b hdc h4 hi
  have hn := q_nc2_le hdc h4
  intro r
  induction r with
  | zero =>
    intro m L hm m0 hg hT
    have e : m = q_or (q_J d R) i := by omega
    refine ⟨L, q_lp_end ?_, fun _ _ => rfl⟩
    rw [e, s2]
    simp only [B_X10_orderOf_10]
    rw [if_pos (show q_i ((0 : Nat) : Int) = 0 from rfl)]
    rfl
  | succ r ih =>
    intro m L hm m0 hg hT
    have hp := q_pw_lt g hi m
    have hne := s3 m m0 (by omega)
    obtain ⟨L1, a1, a2⟩ := q_J_X10 (z := (I, L)) hdc h4 hg hT hp hi
    obtain ⟨L2, b1, b2⟩ := ih (m + 1) L1 (by omega) (by omega) hg hT
    refine ⟨L2, ?_, fun k hk => (b2 k hk).trans (a2 k hk)⟩
    rw [q_lp_go (s1 := (q_i i, 0, q_i ((m + 1 : Nat) : Int), q_i (q_pw (q_J d R) i (m + 1)), (I, L1)))]
    · exact b1
    · simp only [B_X10_orderOf_10]
      rw [if_neg (by rw [show (0 : Int32) = q_i ((0 : Nat) : Int) from rfl, q_neq (by omega) (by omega)]; exact hne), a1, Option.bind_some]
      dsimp only
      rw [q_nsu]
      rfl
theorem p_X10_orderOf {d R : Int} {z : q_Z} {i : Nat} (hdc : q_dc d R) (h4 : q_d4 d) (hg : q_Mg d R z) (hT : q_Mtab d R z) (hi : i < q_nc2 d R) : ∃ L2, F_X10_orderOf z (q_i i) = some (q_i (q_or (q_J d R) i), (z.1, L2)) ∧ ∀ k, k ≠ 128 → L2 k = z.2 k := by
  have hb := q_or_b hdc h4 hi
  obtain ⟨L1, a1, a2⟩ := p_oneOf hdc h4 hg hT
  obtain ⟨L2, b1, b2⟩ := p_X10_orderLoop (I := z.1) hdc h4 hi (q_or (q_J d R) i - 1) 1 L1 (by omega) (by decide) hg hT
  rw [q_pw_1 (q_JG hdc h4) hi] at b1
  have b1 := q_lp_mono b1 (show q_or (q_J d R) i - 1 + 1 ≤ q_fu by unfold q_fu; omega)
  have b1 : q_lp B_X10_orderOf_10 q_fu (q_i i, 0, 1, q_i i, (z.1, L1)) = _ := b1
  refine ⟨L2, ?_, fun k hk => (b2 k hk).trans (a2 k hk)⟩
  unfold F_X10_orderOf
  rw [a1, Option.bind_some]
  dsimp only
  rw [b1]
  rfl
/-- what the group's tables of the class may change -/
def q_fz (P : Nat → Prop) (z z2 : q_Z) : Prop := (∀ n, ¬ P n → z2.1 n = z.1 n) ∧ ∀ n, n ≠ 10 → n ≠ 11 → n ≠ 12 → z2.2 n = z.2 n
theorem q_fz_rfl (P : Nat → Prop) (z : q_Z) : q_fz P z z := ⟨fun _ _ => rfl, fun _ _ _ _ => rfl⟩
theorem q_fz_trans {P Q S : Nat → Prop} {x y z : q_Z} (h1 : q_fz P x y) (h2 : q_fz Q y z) (a : ∀ n, P n → S n) (b : ∀ n, Q n → S n) : q_fz S x z :=
  ⟨fun n hn => (h2.1 n (fun q => hn (b n q))).trans (h1.1 n (fun q => hn (a n q))), fun n c e f => (h2.2 n c e f).trans (h1.2 n c e f)⟩
theorem q_fz_u {P : Nat → Prop} (z : q_Z) {o k : Nat} (v : Int32) (h : P o) : q_fz P z (q_u2 z.1 o k v, z.2) := ⟨fun n hn => q_u2_ne (fun e => hn (by rw [e]; exact h)), fun _ _ _ _ => rfl⟩
theorem q_TC_fz {d R : Int} {P : Nat → Prop} {z z2 : q_Z} (h : q_TC d R z) (e : q_fz P z z2) (hP : ∀ n, P n → n = 2 ∨ 13 ≤ n) : q_TC d R z2 := by
  have k : ∀ n, n ≠ 2 → n < 13 → z2.1 n = z.1 n := fun n a b => e.1 n (fun q => by have := hP n q; omega)
  obtain ⟨⟨h1, h2⟩, h3, h4, h5⟩ := h
  refine ⟨⟨?_, ?_⟩, ?_, ?_, ?_⟩
  · rw [k 3 (by decide) (by decide)]; exact h1
  · rw [k 5 (by decide) (by decide), k 6 (by decide) (by decide), k 7 (by decide) (by decide)]; exact h2
  · rw [k 3 (by decide) (by decide)]; exact h3
  · rw [k 8 (by decide) (by decide)]; exact h4
  · rw [k 9 (by decide) (by decide)]; exact h5
theorem q_Cg_fz {d R : Int} {P : Nat → Prop} {z z2 : q_Z} (h : q_Cg d R z) (e : q_fz P z z2) (hP : ∀ n, P n → n = 2 ∨ 13 ≤ n) : q_Cg d R z2 :=
  q_Cg_fr h (e.1 4 (fun q => by have := hP 4 q; omega))
theorem q_J_Xz {d R : Int} {z : q_Z} {i j : Nat} (hdc : q_dc d R) (h4 : q_d4 d) (hg : q_Cg d R z) (hT : q_TC d R z) (hi : i < q_nc2 d R) (hj : j < q_nc2 d R) : ∃ z2, F_X0_joined z (q_i i) (q_i j) = some (q_i (q_J d R i j), z2) ∧ q_fz (fun _ => False) z z2 ∧ z2.1 = z.1 := by
  obtain ⟨L2, a, b⟩ := q_J_X0 hdc h4 hg hT hi hj
  exact ⟨(z.1, L2), a, ⟨fun _ _ => rfl, b⟩, rfl⟩
/-- the chain of one class -/
theorem p_X3_chainLoop {d R : Int} {x : Nat} (hdc : q_dc d R) (h4 : q_d4 d) (hx : x < q_nc2 d R) : ∀ (r m : Nat) (z : q_Z), m + 1 + r = q_or (q_J d R) x → q_Cg d R z → q_TC d R z → (∀ j, j < m → z.1 15 j = q_i (q_pw (q_J d R) x (j + 1))) → ∃ z2, q_lp B_X3_orderChain_4 (r + 1) (q_i x, q_i m, q_i (q_pw (q_J d R) x (m + 1)), z) = some ((q_i x, q_i ((q_or (q_J d R) x - 1 : Nat) : Int), 0, z2), 0) ∧ (∀ j, j < q_or (q_J d R) x → z2.1 15 j = q_i (q_pw (q_J d R) x (j + 1))) ∧ q_fz (fun n => n = 15) z z2 := by
  have g := q_JG hdc h4
  obtain ⟨s1, s2, s3⟩ := q_or_spec g hx
  have hb := q_or_b hdc h4 hx
  have hn := q_nc2_le hdc h4
  intro r
  induction r with
  | zero =>
    intro m z hm hg hT hc
    have e : m + 1 = q_or (q_J d R) x := by omega
    refine ⟨(q_u2 z.1 15 m 0, z.2), q_lp_end ?_, ?_, q_fz_u z 0 rfl⟩
    · rw [e, s2, show q_or (q_J d R) x - 1 = m by omega]
      simp only [B_X3_orderChain_4]
      rw [if_neg (by rw [show (128 : Int32) = q_i ((128 : Nat) : Int) from rfl, q_nle (by omega) (by omega)]; omega), q_nti (by omega), if_pos (by omega), if_pos (show q_i ((0 : Nat) : Int) = 0 from rfl), q_ncl (by omega)]
      rfl
    · intro j hj
      show q_u2 z.1 15 m 0 15 j = _
      rw [q_u2_at]
      by_cases c : j = m
      · rw [if_pos c, c, e, s2]
        rfl
      · rw [if_neg c]
        exact hc j (by omega)
  | succ r ih =>
    intro m z hm hg hT hc
    have hp := q_pw_lt g hx (m + 1)
    have hne := s3 (m + 1) (by omega) (by omega)
    have f1 : q_fz (fun n => n = 15) z (q_u2 z.1 15 m (q_i (q_pw (q_J d R) x (m + 1))), z.2) := q_fz_u z _ rfl
    have hg1 := q_Cg_fz hg f1 (fun n hn => by omega)
    have hT1 := q_TC_fz hT f1 (fun n hn => by omega)
    obtain ⟨z1, a1, a2, a3⟩ := q_J_Xz hdc h4 hg1 hT1 hp hx
    have f2 : q_fz (fun n => n = 15) z z1 := q_fz_trans f1 a2 (fun _ q => q) (fun _ q => q.elim)
    obtain ⟨z2, b1, b2, b3⟩ := ih (m + 1) z1 (by omega) (q_Cg_fz hg f2 (fun n hn => by omega)) (q_TC_fz hT f2 (fun n hn => by omega)) (by
      intro j hj
      rw [a3]
      show q_u2 z.1 15 m (q_i (q_pw (q_J d R) x (m + 1))) 15 j = _
      rw [q_u2_at]
      by_cases c : j = m
      · rw [if_pos c, c]
      · rw [if_neg c]
        exact hc j (by omega))
    refine ⟨z2, ?_, b2, q_fz_trans f2 b3 (fun _ q => q) (fun _ q => q)⟩
    rw [q_lp_go (s1 := (q_i x, q_i ((m + 1 : Nat) : Int), q_i (q_pw (q_J d R) x (m + 1 + 1)), z1))]
    · exact b1
    · simp only [B_X3_orderChain_4]
      rw [if_neg (by rw [show (128 : Int32) = q_i ((128 : Nat) : Int) from rfl, q_nle (by omega) (by omega)]; omega), q_nti (by omega), if_pos (by omega), if_neg (by rw [show (0 : Int32) = q_i ((0 : Nat) : Int) from rfl, q_neq (by omega) (by omega)]; exact hne), q_ncl (by omega), a1, Option.bind_some]
      dsimp only
      rw [q_nsu]
      rfl
theorem p_X3_chain2 {d R : Int} {x : Nat} (hdc : q_dc d R) (h4 : q_d4 d) (hx : x < q_nc2 d R) : ∀ (r k : Nat) (z : q_Z), k + r = q_or (q_J d R) x → q_TC d R z → (∀ j, j < q_or (q_J d R) x → z.1 15 j = q_i (q_pw (q_J d R) x (j + 1))) → (∀ c, c < q_nc2 d R → z.1 13 c = 0 ∨ z.1 13 c = q_i (q_or (q_J d R) c)) → ∃ z2, q_lp B_X3_orderChain_54 (r + 1) (q_i (q_or (q_J d R) x), q_i k, z) = some ((q_i (q_or (q_J d R) x), q_i (q_or (q_J d R) x), z2), 0) ∧ (∀ c, c < q_nc2 d R → z2.1 13 c = 0 ∨ z2.1 13 c = q_i (q_or (q_J d R) c)) ∧ (∀ c, c < q_nc2 d R → z.1 13 c = q_i (q_or (q_J d R) c) → z2.1 13 c = q_i (q_or (q_J d R) c)) ∧ (∀ j, k ≤ j → j < q_or (q_J d R) x → z2.1 13 (q_pw (q_J d R) x (j + 1)) = q_i (q_or (q_J d R) (q_pw (q_J d R) x (j + 1)))) ∧ q_fz (fun n => n = 13) z z2 := by
  have g := q_JG hdc h4
  have hb := q_or_b hdc h4 hx
  have hn := q_nc2_le hdc h4
  intro r
  induction r with
  | zero =>
    intro k z hk hT hc hi
    have e : k = q_or (q_J d R) x := by omega
    refine ⟨z, q_lp_end ?_, hi, fun _ _ q => q, fun j a b => by omega, q_fz_rfl _ z⟩
    rw [e]
    simp only [B_X3_orderChain_54]
    rw [if_pos (by rw [q_nle (by omega) (by omega)]; omega)]
  | succ r ih =>
    intro k z hk hT hc hi
    have hp := q_pw_lt g hx (k + 1)
    have hor := q_or_pw (k := k + 1) g hx
    have hgp : 0 < Nat.gcd (q_or (q_J d R) x) (k + 1) := Nat.gcd_pos_of_pos_left _ hb.1
    have hgl : Nat.gcd (q_or (q_J d R) x) (k + 1) ≤ q_or (q_J d R) x := Nat.le_of_dvd hb.1 (Nat.gcd_dvd_left _ _)
    obtain ⟨I1, hI1⟩ : ∃ I1, I1 = q_u2 z.1 13 (q_pw (q_J d R) x (k + 1)) (q_i (q_or (q_J d R) (q_pw (q_J d R) x (k + 1)))) := ⟨_, rfl⟩
    have f1 : q_fz (fun n => n = 13) z (I1, z.2) := by rw [hI1]; exact q_fz_u z _ rfl
    have at1 : ∀ c, I1 13 c = if c = q_pw (q_J d R) x (k + 1) then q_i (q_or (q_J d R) (q_pw (q_J d R) x (k + 1))) else z.1 13 c := fun c => by rw [hI1, q_u2_at]
    have keep : ∀ c, z.1 13 c = q_i (q_or (q_J d R) c) → I1 13 c = q_i (q_or (q_J d R) c) := by
      intro c q
      rw [at1]
      by_cases e : c = q_pw (q_J d R) x (k + 1)
      · rw [if_pos e, e]
      · rw [if_neg e]
        exact q
    obtain ⟨z2, b1, b2, b3, b4, b5⟩ := ih (k + 1) (I1, z.2) (by omega) (q_TC_fz hT f1 (fun n hn => by omega)) (by
      intro j hj
      have e15 : I1 15 = z.1 15 := f1.1 15 (by decide)
      show I1 15 j = _
      rw [e15]
      exact hc j hj) (by
      intro c hcn
      rcases hi c hcn with q | q
      · show I1 13 c = 0 ∨ I1 13 c = _
        rw [at1]
        by_cases e : c = q_pw (q_J d R) x (k + 1)
        · rw [if_pos e, e]
          exact Or.inr rfl
        · rw [if_neg e]
          exact Or.inl q
      · exact Or.inr (keep c q))
    refine ⟨z2, ?_, b2, fun c hcn q => b3 c hcn (keep c q), ?_, q_fz_trans f1 b5 (fun _ q => q) (fun _ q => q)⟩
    · rw [q_lp_go (s1 := (q_i (q_or (q_J d R) x), q_i ((k + 1 : Nat) : Int), (I1, z.2)))]
      · exact b1
      · simp only [B_X3_orderChain_54]
        have cd := p_X7_commonDivisor (z := z) (x := ((q_or (q_J d R) x : Nat) : Int)) (y := ((k + 1 : Nat) : Int)) ⟨by omega, by omega⟩ ⟨by omega, by omega⟩ ⟨by omega, by omega⟩ ⟨by omega, by omega⟩
        rw [show Int.gcd ((q_or (q_J d R) x : Nat) : Int) ((k + 1 : Nat) : Int) = Nat.gcd (q_or (q_J d R) x) (k + 1) from rfl] at cd
        have hdv : q_l ((q_or (q_J d R) x : Nat) : Int) / q_l ((Nat.gcd (q_or (q_J d R) x) (k + 1) : Nat) : Int) = q_l ((q_or (q_J d R) (q_pw (q_J d R) x (k + 1)) : Nat) : Int) := by
          rw [hor]
          exact q_l_div ⟨by omega, by omega⟩ ⟨by omega, by omega⟩ (q_tdivB ⟨by omega, by omega⟩ ⟨by omega, by omega⟩)
        have hcl : (0 : Int) ≤ ((q_pw (q_J d R) x (k + 1) : Nat) : Int) ∧ ((q_pw (q_J d R) x (k + 1) : Nat) : Int) < ((q_nc2 d R : Nat) : Int) := by omega
        rw [if_neg (by rw [q_nle (by omega) (by omega)]; omega), q_nsu, q_l_i ⟨by omega, by omega⟩, q_l_i ⟨by omega, by omega⟩, cd, Option.bind_some]
        dsimp only
        rw [if_neg (by rw [q_l0, q_l_le ⟨by omega, by omega⟩ ⟨by omega, by omega⟩]; omega), q_nti (by omega), if_pos (by omega), q_ncl (by omega), hc k (by omega), p_X0_hasClass hdc h4 hT ⟨by omega, by omega⟩, Option.bind_some, if_pos hcl]
        dsimp only
        rw [if_neg (by decide), if_pos (by omega), if_pos (by rw [q_l0, q_l_eq ⟨by omega, by omega⟩ ⟨by omega, by omega⟩]; omega), hc k (by omega), q_nti (by omega), if_pos (by omega), q_ncl (by omega), hdv, q_i_l, ← hI1]
        unfold T_X3_orderChain_114
        rw [q_nsu]
    · intro j j1 j2
      by_cases e : j = k
      · rw [e]
        refine b3 _ hp ?_
        show I1 13 _ = _
        rw [at1, if_pos rfl]
      · exact b4 j (by omega) j2
