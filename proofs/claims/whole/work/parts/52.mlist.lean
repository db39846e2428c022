/-! the reference lists the LEAST forms -/
def q_Mls (n : Nat) (T : Nat → q_f3) (z : q_Z) : Prop := z.1 128 22 = q_i n ∧ ∀ i, i < n → z.1 134 i = q_i (T i).1 ∧ z.1 135 i = q_i (T i).2.1 ∧ z.1 136 i = -1
def q_ML (z z2 : q_Z) : Prop := (∀ k, k ≠ 128 → k ≠ 134 → k ≠ 135 → k ≠ 136 → z2.1 k = z.1 k) ∧ (∀ k, k ≠ 22 → z2.1 128 k = z.1 128 k) ∧ ∀ k, k ≠ 128 → z2.2 k = z.2 k
theorem q_ML_rfl (z : q_Z) : q_ML z z := ⟨fun _ _ _ _ _ => rfl, fun _ _ => rfl, fun _ _ => rfl⟩
theorem q_ML_trans {x y z : q_Z} (h1 : q_ML x y) (h2 : q_ML y z) : q_ML x z := ⟨fun k a b c e => (h2.1 k a b c e).trans (h1.1 k a b c e), fun k a => (h2.2.1 k a).trans (h1.2.1 k a), fun k a => (h2.2.2 k a).trans (h1.2.2 k a)⟩
theorem q_w7_ne {L : Nat → Nat → Int64} {f : q_f3} {w : q_W4} {k : Nat} (hk : k ≠ 128) : q_w7 L f w k = L k := by
  funext j
  simp [q_w7, q_u2, hk]
theorem p_X10_test {z : q_Z} {d R a b : Int} (hg : q_Mg d R z) (hdc : q_dc d R) (ha : -63 ≤ a ∧ a ≤ 63) (hb : -63 ≤ b ∧ b ≤ 63) :
    ((∀ f, q_LF d R f → f.1 = a → f.2.1 ≠ b) ∧ ((∃ z2, F_X10_isForm z (q_l a) (q_l b) = some (0, z2) ∧ z2.1 = z.1 ∧ ∀ k, k ≠ 128 → z2.2 k = z.2 k) ∨ ∃ z2, F_X10_isForm z (q_l a) (q_l b) = some (1, z2) ∧ F_X10_isLeast z2 = some (0, z2) ∧ z2.1 = z.1 ∧ ∀ k, k ≠ 128 → z2.2 k = z.2 k)) ∨
    (∃ f z2, q_LF d R f ∧ f.1 = a ∧ f.2.1 = b ∧ F_X10_isForm z (q_l a) (q_l b) = some (1, z2) ∧ F_X10_isLeast z2 = some (1, z2) ∧ z2.1 = z.1 ∧ (∀ k, k ≠ 128 → z2.2 k = z.2 k)) := by
  have hdb : -4000 ≤ d ∧ d ≤ 4000 := by rcases hdc with q | q <;> omega
  by_cases cf : ∃ c, q_isf d a b c
  · obtain ⟨c, hc⟩ := cf
    have hcb : -2000 ≤ c ∧ c ≤ 2000 := by
      have h2 := q_sq_le (x := b) (M := 63) ⟨by omega, by omega⟩
      have h3 := q_sq_nn b
      have h4 := hc.2.2
      have h5 : (4 : Int) * a * c = 4 * (a * c) := by grind
      have h6 : (a * c).natAbs ≤ 2000 := by omega
      rw [Int.natAbs_mul] at h6
      have h7 : 1 * c.natAbs ≤ a.natAbs * c.natAbs := Nat.mul_le_mul_right _ (by have := hc.1; omega)
      omega
    have e := p_X10_isForm_yes (z := z) hg.1 hdb ⟨by omega, by omega⟩ ⟨by omega, by omega⟩ hc.1 hc.2.1 hc.2.2
    have e2 := q_w7_take z.2 (a, b, c)
    have e : F_X10_isForm z (q_l a) (q_l b) = some (if Int.gcd (Int.gcd a b) c = 1 then 1 else 0, (z.1, q_w7 z.2 (a, b, c) (z.2 128 15, z.2 128 16, z.2 128 17, z.2 128 18))) := by
      rw [← e2]
      exact e
    by_cases cg : Int.gcd (Int.gcd a b) c = 1
    · rw [if_pos cg] at e
      have hG : q_G d (a, b, c) := q_isf_G hdc hc ⟨by omega, by omega⟩ ⟨by omega, by omega⟩ ⟨by omega, by omega⟩ cg
      have el := p_X10_isLeast7 (I := z.1) (L := z.2) (f := (a, b, c)) (w := (z.2 128 15, z.2 128 16, z.2 128 17, z.2 128 18)) hg.1 hg.2 hdc (q_G_s3 hG)
      by_cases cl : q_L3 d R (a, b, c) = true
      · rw [if_pos cl] at el
        exact Or.inr ⟨(a, b, c), _, ⟨hG.1, cg, cl⟩, rfl, rfl, e, el, rfl, fun k hk => q_w7_ne hk⟩
      · rw [if_neg cl] at el
        refine Or.inl ⟨fun f hf h1 h2 => ?_, Or.inr ⟨_, e, el, rfl, fun k hk => q_w7_ne hk⟩⟩
        have := q_ab_eq hf.1 hG.1 h1 h2
        rw [this] at hf
        exact cl hf.2.2
    · rw [if_neg cg] at e
      refine Or.inl ⟨fun f hf h1 h2 => ?_, Or.inl ⟨_, e, rfl, fun k hk => q_w7_ne hk⟩⟩
      obtain ⟨fa, fb, fc⟩ := f
      have h1 : fa = a := h1
      have h2 : fb = b := h2
      subst h1 h2
      have h5 : fb * fb - 4 * fa * fc = d := hf.1.1
      have h6 := hc.2.2
      have h7 : 4 * fa * fc = 4 * fa * c := by omega
      have h8 : fc = c := Int.eq_of_mul_eq_mul_left (show 4 * fa ≠ 0 by have := hc.1; omega) h7
      subst h8
      exact cg hf.2.1
  · refine Or.inl ⟨fun f hf h1 h2 => ?_, Or.inl ⟨z, ?_, rfl, fun _ _ => rfl⟩⟩
    · refine cf ⟨f.2.2, by have := hf.1.2.1; omega, fun q => ?_, ?_⟩
      · have := (hf.1.2.2.2 q.1).1
        omega
      · have := hf.1.1
        rw [h1, h2] at this
        omega
    · refine p_X10_isForm_no hg.1 hdb ⟨by omega, by omega⟩ ⟨by omega, by omega⟩ ?_
      by_cases c0 : a = 0
      · exact Or.inl c0
      · by_cases c1 : d < 0 ∧ a < 0
        · exact Or.inr (Or.inl c1)
        · refine Or.inr (Or.inr fun dv => ?_)
          obtain ⟨c, hc⟩ := dv
          exact cf ⟨c, c0, c1, hc.symm⟩
def q_any (_ : q_f3) : Prop := True
theorem p_X10_listB {d R a top : Int} (hdc : q_dc d R) (h4 : q_d4 d) (ha : -63 ≤ a ∧ a ≤ 63) (ht : 0 ≤ top ∧ top ≤ 63) : ∀ (r : Nat) (b : Int) (n : Nat) (T : Nat → q_f3) (z : q_Z), top + 1 = b + r → -63 ≤ b → q_Mg d R z → q_Mls n T z → q_isTb q_any d R a b n T → ∃ n2 T2 z2, q_lp B_X10_becomes_55 (r + 1) (q_i top, q_i a, q_i b, z) = some ((q_i top, q_i a, q_i (top + 1), z2), 0) ∧ q_Mls n2 T2 z2 ∧ q_isTb q_any d R a (top + 1) n2 T2 ∧ q_ML z z2 := by
  intro r
  induction r with
  | zero =>
    intro b n T z h1 h2 hg hC hT
    have e : b = top + 1 := by omega
    subst e
    refine ⟨n, T, z, q_lp_end ?_, hC, hT, q_ML_rfl z⟩
    simp only [B_X10_becomes_55]
    rw [if_pos (by rw [q_i_lt ⟨by omega, by omega⟩ ⟨by omega, by omega⟩]; omega)]
  | succ r ih =>
    intro b n T z h1 h2 hg hC hT
    have stp : ∃ n1 T1 z1, B_X10_becomes_55 (q_i top, q_i a, q_i b, z) = some ((q_i top, q_i a, q_i (b + 1), z1), 0) ∧ q_Mls n1 T1 z1 ∧ q_isTb q_any d R a (b + 1) n1 T1 ∧ q_ML z z1 := by
      simp only [B_X10_becomes_55, T_X10_becomes_124]
      rw [if_neg (by rw [q_i_lt ⟨by omega, by omega⟩ ⟨by omega, by omega⟩]; omega), q_l_i ⟨by omega, by omega⟩, q_l_i ⟨by omega, by omega⟩, show q_i b + 1 = q_i (b + 1) by rw [q_i1, q_i_add]]
      rcases p_X10_test (z := z) (a := a) (b := b) hg hdc ha ⟨by omega, by omega⟩ with ⟨no, ht2⟩ | ⟨f, z1, hf, f1, f2, t1, t2, t3, t4⟩
      · have hT2 : q_isTb q_any d R a (b + 1) n T := by
          refine q_Tb_skip hT (by omega) (fun f hf hP hq => ?_)
          have h7 := no f hf
          rcases hq with h6 | h6
          · exact Or.inl h6
          · have := h7 h6.1
            omega
        rcases ht2 with ⟨z1, t1, t3, t4⟩ | ⟨z1, t1, t2, t3, t4⟩
        · refine ⟨n, T, z1, ?_, by unfold q_Mls; rw [t3]; exact hC, hT2, ⟨fun k _ _ _ _ => by rw [t3], fun k _ => by rw [t3], t4⟩⟩
          rw [t1, Option.bind_some]
          rfl
        · refine ⟨n, T, z1, ?_, by unfold q_Mls; rw [t3]; exact hC, hT2, ⟨fun k _ _ _ _ => by rw [t3], fun k _ => by rw [t3], t4⟩⟩
          rw [t1, Option.bind_some]
          dsimp only
          rw [if_neg (by decide), t2, Option.bind_some]
          rfl
      · have hT1 := q_Tb_add hT hf (show q_any f from trivial) f1 f2
        have hn := q_nT2 hdc h4 hT1.1 (fun i hi => (hT1.2.1 i hi).1)
        have hC1 : z1.1 128 22 = q_i n := by rw [t3]; exact hC.1
        have ei : Int32.toInt (q_i (n : Int)) = n := q_i_toInt ⟨by omega, by omega⟩
        have ec : Int32.toNatClampNeg (q_i (n : Int)) = n := by rw [q_clamp ⟨by omega, by omega⟩]; omega
        refine ⟨n + 1, q_app T n f, (q_u2 (q_u2 (q_u2 (q_u2 z1.1 134 n (q_i a)) 135 n (q_i b)) 136 n (-1)) 128 22 (q_i ((n + 1 : Nat) : Int)), z1.2), ?_, ⟨rfl, ?_⟩, hT1, ?_, ?_, t4⟩
        · rw [t1, Option.bind_some]
          dsimp only
          rw [if_neg (by decide), t2, Option.bind_some]
          dsimp only
          rw [if_neg (by decide), if_pos (by rw [hC1, ei]; omega), hC1, ec, q_i1, q_i_add, show (n : Int) + 1 = ((n + 1 : Nat) : Int) by omega]
        · intro i hi
          have r4 : ∀ k, (q_u2 (q_u2 (q_u2 (q_u2 z1.1 134 n (q_i a)) 135 n (q_i b)) 136 n (-1)) 128 22 (q_i ((n + 1 : Nat) : Int))) 134 k = if k = n then q_i a else z1.1 134 k := by
            intro k
            rw [q_u2_ne (by decide), q_u2_ne (by decide), q_u2_ne (by decide), q_u2_at]
          have r5 : ∀ k, (q_u2 (q_u2 (q_u2 (q_u2 z1.1 134 n (q_i a)) 135 n (q_i b)) 136 n (-1)) 128 22 (q_i ((n + 1 : Nat) : Int))) 135 k = if k = n then q_i b else z1.1 135 k := by
            intro k
            rw [q_u2_ne (by decide), q_u2_ne (by decide), q_u2_at, q_u2_ne (by decide)]
          have r6 : ∀ k, (q_u2 (q_u2 (q_u2 (q_u2 z1.1 134 n (q_i a)) 135 n (q_i b)) 136 n (-1)) 128 22 (q_i ((n + 1 : Nat) : Int))) 136 k = if k = n then -1 else z1.1 136 k := by
            intro k
            rw [q_u2_ne (by decide), q_u2_at, q_u2_ne (by decide), q_u2_ne (by decide)]
          dsimp only
          rw [r4, r5, r6, t3]
          unfold q_app
          by_cases c : i = n
          · rw [if_pos c, if_pos c, if_pos c, if_pos c, f1, f2]
            exact ⟨rfl, rfl, rfl⟩
          · rw [if_neg c, if_neg c, if_neg c, if_neg c]
            exact hC.2 i (by omega)
        · intro k a1 a2 a3 a4
          show q_u2 (q_u2 (q_u2 (q_u2 z1.1 134 n (q_i a)) 135 n (q_i b)) 136 n (-1)) 128 22 _ k = z.1 k
          rw [q_u2_ne a1, q_u2_ne a4, q_u2_ne a3, q_u2_ne a2, t3]
        · intro k a1
          show q_u2 (q_u2 (q_u2 (q_u2 z1.1 134 n (q_i a)) 135 n (q_i b)) 136 n (-1)) 128 22 _ 128 k = z.1 128 k
          rw [q_u2_at, if_neg a1, q_u2_ne (by decide), q_u2_ne (by decide), q_u2_ne (by decide), t3]
    obtain ⟨n1, T1, z1, s1, s2, s3, s4⟩ := stp
    obtain ⟨n2, T2, z2, g1, g2, g3, g5⟩ := ih (b + 1) n1 T1 z1 (by omega) (by omega) (q_Mg_fr hg (s4.2.1 0 (by decide)) (s4.2.1 1 (by decide))) s2 s3
    exact ⟨n2, T2, z2, by rw [q_lp_go s1]; exact g1, g2, g3, q_ML_trans s4 g5⟩
theorem p_X10_listA {d R top : Int} (hdc : q_dc d R) (h4 : q_d4 d) (ht : 0 ≤ top ∧ top ≤ 63) (htop : ∀ f, q_LF d R f → -top ≤ f.1 ∧ f.1 ≤ top ∧ -top ≤ f.2.1 ∧ f.2.1 ≤ top) : ∀ (r : Nat) (a : Int) (n : Nat) (T : Nat → q_f3) (z : q_Z), top + 1 = a + r → -63 ≤ a → q_Mg d R z → q_Mls n T z → q_isTb q_any d R a (-top) n T → ∃ n2 T2 z2, q_lp B_X10_becomes_46 (r + 1) (q_i top, q_i a, z) = some ((q_i top, q_i (top + 1), z2), 0) ∧ q_Mls n2 T2 z2 ∧ q_isTb q_any d R (top + 1) (-top) n2 T2 ∧ q_ML z z2 := by
  intro r
  induction r with
  | zero =>
    intro a n T z h1 h2 hg hC hT
    have e : a = top + 1 := by omega
    subst e
    refine ⟨n, T, z, q_lp_end ?_, hC, hT, q_ML_rfl z⟩
    simp only [B_X10_becomes_46]
    rw [if_pos (by rw [q_i_lt ⟨by omega, by omega⟩ ⟨by omega, by omega⟩]; omega)]
  | succ r ih =>
    intro a n T z h1 h2 hg hC hT
    obtain ⟨n1, T1, z1, s1, s2, s3, s4⟩ := p_X10_listB (a := a) hdc h4 ⟨by omega, by omega⟩ ht (2 * top + 1).toNat (-top) n T z (by omega) (by omega) hg hC hT
    have s3' : q_isTb q_any d R (a + 1) (-top) n1 T1 := by
      refine q_Tb_skip s3 (by omega) (fun f hf _ hq => ?_)
      have := htop f hf
      omega
    obtain ⟨n2, T2, z2, g1, g2, g3, g5⟩ := ih (a + 1) n1 T1 z1 (by omega) (by omega) (q_Mg_fr hg (s4.2.1 0 (by decide)) (s4.2.1 1 (by decide))) s2 s3'
    refine ⟨n2, T2, z2, ?_, g2, g3, q_ML_trans s4 g5⟩
    rw [← g1]
    refine q_lp_go ?_
    simp only [B_X10_becomes_46]
    have s1 := q_lp_mono s1 (show (2 * top + 1).toNat + 1 ≤ q_fu by unfold q_fu; omega)
    rw [if_neg (by rw [q_i_lt ⟨by omega, by omega⟩ ⟨by omega, by omega⟩]; omega), q_i_neg, s1, Option.bind_some]
    dsimp only
    rw [if_pos rfl, q_i1, q_i_add]
