/-! the class lists the LEAST forms -/
theorem q_LF_b {d R : Int} {f : q_f3} (hdc : q_dc d R) (h : q_LF d R f) : -63 ≤ f.1 ∧ f.1 ≤ 63 ∧ -63 ≤ f.2.1 ∧ f.2.1 ≤ 63 ∧ (0 < d → -R ≤ f.1 ∧ f.1 ≤ R ∧ 0 < f.2.1 ∧ f.2.1 ≤ R ∧ R - f.2.1 < 2 * f.1.natAbs ∧ 2 * (f.1.natAbs : Int) ≤ R + f.2.1) ∧ (d < 0 → 0 < f.1 ∧ 3 * (f.1 * f.1) ≤ -d ∧ -f.1 < f.2.1 ∧ f.2.1 ≤ f.1 ∧ f.1 ≤ 36) := by
  have hR := q_dc_R hdc
  obtain ⟨a, b, c⟩ := f
  obtain ⟨h1, h2, h3⟩ := h
  have h1 : q_fm d a b c := h1
  have h3 : q_lst d R a b c = true := h3
  show -63 ≤ a ∧ a ≤ 63 ∧ -63 ≤ b ∧ b ≤ 63 ∧ (0 < d → -R ≤ a ∧ a ≤ R ∧ 0 < b ∧ b ≤ R ∧ R - b < 2 * a.natAbs ∧ 2 * (a.natAbs : Int) ≤ R + b) ∧ (d < 0 → 0 < a ∧ 3 * (a * a) ≤ -d ∧ -a < b ∧ b ≤ a ∧ a ≤ 36)
  by_cases hp : 0 < d
  · have h3 := (q_lst_p hp).mp h3
    refine ⟨by omega, by omega, by omega, by omega, fun _ => by omega, fun q => by omega⟩
  · have hn : d < 0 := by rcases hdc with q | q <;> omega
    have h3 := q_lst_n hn h3
    have ha := (h1.2.2.2 hn).1
    obtain ⟨l1, l2, l3⟩ := h3
    have hd4 : -4000 ≤ d := by rcases hdc with q | q <;> omega
    have hbb := q_sq_le (x := b) (M := a) ⟨by omega, by omega⟩
    have hac : a * a ≤ a * c := Int.mul_le_mul_of_nonneg_left l2 (by omega)
    have e1 := h1.1
    have e4 : 4 * a * c = 4 * (a * c) := by grind
    have ha36 : a ≤ 36 := by
      rcases Int.lt_or_le 36 a with q | q
      · have : (37 : Int) * 37 ≤ a * a := Int.mul_le_mul (by omega) (by omega) (by omega) (by omega)
        omega
      · exact q
    refine ⟨by omega, by omega, by omega, by omega, fun q => by omega, fun _ => ⟨ha, by omega, by omega, by omega, ha36⟩⟩
def q_CT (n : Nat) (T : Nat → q_f3) (z : q_Z) : Prop := z.1 3 9 = q_i n ∧ ∀ i, i < n → z.1 5 i = q_i (T i).1 ∧ z.1 6 i = q_i (T i).2.1 ∧ z.1 7 i = q_i (T i).2.2 ∧ z.1 8 i = -1
/-- what listing may change -/
def q_CL (z z2 : q_Z) : Prop := (∀ k, k ≠ 3 → k ≠ 5 → k ≠ 6 → k ≠ 7 → k ≠ 8 → z2.1 k = z.1 k) ∧ (∀ k, k ≠ 9 → z2.1 3 k = z.1 3 k) ∧ ∀ k, k ≠ 10 → z2.2 k = z.2 k
theorem q_CL_rfl (z : q_Z) : q_CL z z := ⟨fun _ _ _ _ _ _ => rfl, fun _ _ => rfl, fun _ _ => rfl⟩
theorem q_CL_trans {x y z : q_Z} (h1 : q_CL x y) (h2 : q_CL y z) : q_CL x z := ⟨fun k a b c e f => (h2.1 k a b c e f).trans (h1.1 k a b c e f), fun k a => (h2.2.1 k a).trans (h1.2.1 k a), fun k a => (h2.2.2 k a).trans (h1.2.2 k a)⟩
theorem p_X0_listWalker {n : Nat} {T : Nat → q_f3} {z : q_Z} {f : q_f3} (h : q_CT n T z) (hn : n < 128) (hf : q_3 (z.2 10) 0 f) : ∃ z2, F_X0_listWalker z = some ((), z2) ∧ q_CT (n + 1) (q_app T n f) z2 ∧ q_CL z z2 := by
  obtain ⟨h1, h2⟩ := h
  obtain ⟨f1, f2, f3⟩ := hf
  have f2 : z.2 10 1 = q_l f.2.1 := f2
  have f3 : z.2 10 2 = q_l f.2.2 := f3
  have ei : Int32.toInt (q_i (n : Int)) = n := q_i_toInt ⟨by omega, by omega⟩
  have ec : Int32.toNatClampNeg (q_i (n : Int)) = n := by rw [q_clamp ⟨by omega, by omega⟩]; omega
  refine ⟨(q_u2 (q_u2 (q_u2 (q_u2 (q_u2 z.1 5 n (q_i f.1)) 6 n (q_i f.2.1)) 7 n (q_i f.2.2)) 8 n (-1)) 3 9 (q_i ((n + 1 : Nat) : Int)), z.2), ?_, ⟨rfl, ?_⟩, ⟨?_, ?_, fun _ _ => rfl⟩⟩
  · have p0 : ∀ I, F_X1_part 10 (I, z.2) 0 = some (q_i f.1, (I, z.2)) := by
      intro I
      unfold F_X1_part
      rw [if_pos rfl, show (I, z.2).2 10 0 = q_l f.1 from f1, q_i_l]
    have p1 : ∀ I, F_X1_part 10 (I, z.2) 1 = some (q_i f.2.1, (I, z.2)) := by
      intro I
      unfold F_X1_part
      rw [if_neg (by decide), if_pos rfl, show (I, z.2).2 10 1 = q_l f.2.1 from f2, q_i_l]
    have p2 : ∀ I, F_X1_part 10 (I, z.2) 2 = some (q_i f.2.2, (I, z.2)) := by
      intro I
      unfold F_X1_part
      rw [if_neg (by decide), if_neg (by decide), if_pos rfl, show (I, z.2).2 10 2 = q_l f.2.2 from f3, q_i_l]
    have p0' : F_X1_part 10 z 0 = some (q_i f.1, z) := p0 z.1
    have c5 : q_u2 z.1 5 n (q_i f.1) 3 9 = q_i n := h1
    have c6 : q_u2 (q_u2 z.1 5 n (q_i f.1)) 6 n (q_i f.2.1) 3 9 = q_i n := h1
    unfold F_X0_listWalker
    rw [h1, if_neg (by rw [q_i0, q_i_lt ⟨by omega, by omega⟩ (by decide)]; omega), show (128 : Int32) = q_i 128 from rfl, if_pos (by rw [q_i_lt ⟨by omega, by omega⟩ (by decide)]; omega), p0', Option.bind_some]
    dsimp only
    rw [ei, if_pos (by omega), ec, p1, Option.bind_some]
    dsimp only
    rw [if_pos (by rw [h1, ei]; omega), h1, ec, p2, Option.bind_some]
    dsimp only
    rw [if_pos (by rw [c5, ei]; omega), if_pos (by rw [c6, ei]; omega), c5, c6, ec, q_i1, q_i_add, show (n : Int) + 1 = ((n + 1 : Nat) : Int) by omega]
  · intro i hi
    have r5 : ∀ k, (q_u2 (q_u2 (q_u2 (q_u2 (q_u2 z.1 5 n (q_i f.1)) 6 n (q_i f.2.1)) 7 n (q_i f.2.2)) 8 n (-1)) 3 9 (q_i ((n + 1 : Nat) : Int))) 5 k = if k = n then q_i f.1 else z.1 5 k := by
      intro k
      rw [q_u2_ne (by decide), q_u2_ne (by decide), q_u2_ne (by decide), q_u2_ne (by decide), q_u2_at]
    have r6 : ∀ k, (q_u2 (q_u2 (q_u2 (q_u2 (q_u2 z.1 5 n (q_i f.1)) 6 n (q_i f.2.1)) 7 n (q_i f.2.2)) 8 n (-1)) 3 9 (q_i ((n + 1 : Nat) : Int))) 6 k = if k = n then q_i f.2.1 else z.1 6 k := by
      intro k
      rw [q_u2_ne (by decide), q_u2_ne (by decide), q_u2_ne (by decide), q_u2_at, q_u2_ne (by decide)]
    have r7 : ∀ k, (q_u2 (q_u2 (q_u2 (q_u2 (q_u2 z.1 5 n (q_i f.1)) 6 n (q_i f.2.1)) 7 n (q_i f.2.2)) 8 n (-1)) 3 9 (q_i ((n + 1 : Nat) : Int))) 7 k = if k = n then q_i f.2.2 else z.1 7 k := by
      intro k
      rw [q_u2_ne (by decide), q_u2_ne (by decide), q_u2_at, q_u2_ne (by decide), q_u2_ne (by decide)]
    have r8 : ∀ k, (q_u2 (q_u2 (q_u2 (q_u2 (q_u2 z.1 5 n (q_i f.1)) 6 n (q_i f.2.1)) 7 n (q_i f.2.2)) 8 n (-1)) 3 9 (q_i ((n + 1 : Nat) : Int))) 8 k = if k = n then -1 else z.1 8 k := by
      intro k
      rw [q_u2_ne (by decide), q_u2_at, q_u2_ne (by decide), q_u2_ne (by decide), q_u2_ne (by decide)]
    dsimp only
    rw [r5, r6, r7, r8]
    unfold q_app
    by_cases c : i = n
    · rw [if_pos c, if_pos c, if_pos c, if_pos c, if_pos c]
      exact ⟨rfl, rfl, rfl, rfl⟩
    · rw [if_neg c, if_neg c, if_neg c, if_neg c, if_neg c]
      exact h2 i (by omega)
  · intro k a1 a2 a3 a4 a5
    show q_u2 (q_u2 (q_u2 (q_u2 (q_u2 z.1 5 n (q_i f.1)) 6 n (q_i f.2.1)) 7 n (q_i f.2.2)) 8 n (-1)) 3 9 _ k = z.1 k
    rw [q_u2_ne a1, q_u2_ne a5, q_u2_ne a4, q_u2_ne a3, q_u2_ne a2]
  · intro k a1
    show q_u2 (q_u2 (q_u2 (q_u2 (q_u2 z.1 5 n (q_i f.1)) 6 n (q_i f.2.1)) 7 n (q_i f.2.2)) 8 n (-1)) 3 9 _ 3 k = z.1 3 k
    rw [q_u2_at, if_neg a1, q_u2_ne (by decide), q_u2_ne (by decide), q_u2_ne (by decide), q_u2_ne (by decide)]
theorem q_CT_L {n : Nat} {T : Nat → q_f3} {z : q_Z} {L : Nat → Nat → Int64} (h : q_CT n T z) : q_CT n T (z.1, L) := h
def q_pos (f : q_f3) : Prop := 0 < f.1
/-- whether there is a LEAST form with this a and b -/
theorem p_X0_test {z : q_Z} {d R a b : Int} (hg : q_Cg d R z) (hdc : q_dc d R) (ha0 : 0 < a) (ha : a ≤ 63) (hb : -63 ≤ b ∧ b ≤ 63) :
    ((∀ f, q_LF d R f → f.1 = a → f.2.1 ≠ b) ∧ ((∃ z2, F_X2_complete 10 z (q_l a) (q_l b) = some (0, z2) ∧ z2.1 = z.1 ∧ ∀ k, k ≠ 10 → z2.2 k = z.2 k) ∨ ∃ z2, F_X2_complete 10 z (q_l a) (q_l b) = some (1, z2) ∧ F_X2_isLeast 10 z2 = some (0, z2) ∧ z2.1 = z.1 ∧ ∀ k, k ≠ 10 → z2.2 k = z.2 k)) ∨
    (∃ f z2, q_LF d R f ∧ f.1 = a ∧ f.2.1 = b ∧ F_X2_complete 10 z (q_l a) (q_l b) = some (1, z2) ∧ F_X2_isLeast 10 z2 = some (1, z2) ∧ z2.1 = z.1 ∧ (∀ k, k ≠ 10 → z2.2 k = z.2 k) ∧ q_3 (z2.2 10) 0 f) := by
  have hdb : -4000 ≤ d ∧ d ≤ 4000 := by rcases hdc with q | q <;> omega
  by_cases cf : ∃ c, q_isf d a b c
  · obtain ⟨c, hc⟩ := cf
    have hcb : -2000 ≤ c ∧ c ≤ 2000 := by
      have h1 := q_divB hc.2.2 (by omega)
      have h2 := q_sq_le (x := b) (M := 63) ⟨by omega, by omega⟩
      have h3 := q_sq_nn b
      have h4 := hc.2.2
      have h5 : (4 : Int) * a * c = 4 * (a * c) := by grind
      have h6 : a * c ≤ 2000 ∧ -2000 ≤ a * c := by omega
      rcases Int.le_total 0 c with q | q
      · have : 1 * c ≤ a * c := Int.mul_le_mul_of_nonneg_right (by omega) q
        omega
      · have : a * c ≤ 1 * c := Int.mul_le_mul_of_nonpos_right (by omega) q
        omega
    have e := p_X2_complete_yes (o := 10) (z := z) hg.1 hdb ⟨by omega, by omega⟩ ⟨by omega, by omega⟩ hc.1 hc.2.1 hc.2.2
    have e : F_X2_complete 10 z (q_l a) (q_l b) = some (if Int.gcd (Int.gcd a b) c = 1 then 1 else 0, (z.1, q_v3 z.2 10 (a, b, c))) := e
    by_cases cg : Int.gcd (Int.gcd a b) c = 1
    · rw [if_pos cg] at e
      have hG : q_G d (a, b, c) := q_isf_G hdc hc ⟨by omega, by omega⟩ ⟨by omega, by omega⟩ ⟨by omega, by omega⟩ cg
      have el := p_isLeastZ (o := 10) (z := (z.1, q_v3 z.2 10 (a, b, c))) (d := d) (R := R) hg (q_v3_3 z.2 10 (a, b, c)) hdc hG
      by_cases cl : q_L3 d R (a, b, c) = true
      · rw [if_pos cl] at el
        exact Or.inr ⟨(a, b, c), _, ⟨hG.1, cg, cl⟩, rfl, rfl, e, el, rfl, fun k hk => q_v3_ne hk, q_v3_3 z.2 10 (a, b, c)⟩
      · rw [if_neg cl] at el
        refine Or.inl ⟨fun f hf h1 h2 => ?_, Or.inr ⟨_, e, el, rfl, fun k hk => q_v3_ne hk⟩⟩
        have := q_ab_eq hf.1 hG.1 h1 h2
        rw [this] at hf
        exact cl hf.2.2
    · rw [if_neg cg] at e
      refine Or.inl ⟨fun f hf h1 h2 => ?_, Or.inl ⟨_, e, rfl, fun k hk => q_v3_ne hk⟩⟩
      obtain ⟨fa, fb, fc⟩ := f
      have h1 : fa = a := h1
      have h2 : fb = b := h2
      subst h1 h2
      have h5 := hf.1.1
      have h5 : fb * fb - 4 * fa * fc = d := h5
      have h6 := hc.2.2
      have h7 : 4 * fa * fc = 4 * fa * c := by omega
      have h8 : fc = c := Int.eq_of_mul_eq_mul_left (show 4 * fa ≠ 0 by omega) h7
      subst h8
      exact cg hf.2.1
  · refine Or.inl ⟨fun f hf h1 h2 => ?_, Or.inl ⟨z, ?_, rfl, fun _ _ => rfl⟩⟩
    · refine cf ⟨f.2.2, by omega, by omega, ?_⟩
      have := hf.1.1
      rw [h1, h2] at this
      omega
    · refine p_X2_complete_no hg.1 hdb ⟨by omega, by omega⟩ ⟨by omega, by omega⟩ (Or.inr (Or.inr fun dv => ?_))
      obtain ⟨c, hc⟩ := dv
      exact cf ⟨c, by omega, by omega, hc.symm⟩
theorem q_Tb_n {P : q_f3 → Prop} {d R a b : Int} {n : Nat} {T : Nat → q_f3} (hdc : q_dc d R) (h4 : q_d4 d) (h : q_isTb P d R a b n T) (hP : ∀ f, P f → 0 < f.1) : n ≤ 128 := q_nT hdc h4 h.1 (fun i hi => ⟨(h.2.1 i hi).1, hP _ (h.2.1 i hi).2.1⟩)
theorem p_X0_listB {d R a lb : Int} (hdc : q_dc d R) (h4 : q_d4 d) (ha0 : 0 < a) (ha : a ≤ 63) (hlb : 0 ≤ lb ∧ lb ≤ 63) (t : Int32) : ∀ (r : Nat) (b : Int) (n : Nat) (T : Nat → q_f3) (z : q_Z), lb < b + 2 * r → -63 ≤ b → b ≤ 70 → (b - d) % 2 = 0 → q_Cg d R z → q_CT n T z → q_isTb q_pos d R a b n T → ∃ b2 n2 T2 z2, q_lp B_X0_listLeast_105 (r + 1) (q_i d, q_i R, t, q_i a, q_i lb, q_i b, z) = some ((q_i d, q_i R, t, q_i a, q_i lb, q_i b2, z2), 0) ∧ lb < b2 ∧ q_CT n2 T2 z2 ∧ q_isTb q_pos d R a b2 n2 T2 ∧ q_CL z z2 := by
  intro r
  induction r with
  | zero =>
    intro b n T z h1 h2 h3 h5 hg hC hT
    refine ⟨b, n, T, z, q_lp_end ?_, by omega, hC, hT, q_CL_rfl z⟩
    simp only [B_X0_listLeast_105]
    rw [if_pos (by rw [q_i_lt ⟨by omega, by omega⟩ ⟨by omega, by omega⟩]; omega)]
  | succ r ih =>
    intro b n T z h1 h2 h3 h5 hg hC hT
    by_cases c : lb < b
    · refine ⟨b, n, T, z, q_lp_mono (q_lp_end (n := 0) ?_) (by omega), c, hC, hT, q_CL_rfl z⟩
      simp only [B_X0_listLeast_105]
      rw [if_pos (by rw [q_i_lt ⟨by omega, by omega⟩ ⟨by omega, by omega⟩]; omega)]
    · -- one pair
      have stp : ∃ n1 T1 z1, B_X0_listLeast_105 (q_i d, q_i R, t, q_i a, q_i lb, q_i b, z) = some ((q_i d, q_i R, t, q_i a, q_i lb, q_i (b + 2), z1), 0) ∧ q_CT n1 T1 z1 ∧ q_isTb q_pos d R a (b + 2) n1 T1 ∧ q_CL z z1 := by
        have odd : ∀ f, q_LF d R f → q_pos f → (f.1 < a ∨ (f.1 = a ∧ f.2.1 < b + 2)) → f.1 < a ∨ (f.1 = a ∧ f.2.1 < b + 1) := by
          intro f hf _ hq
          have := q_even_b hf.1.1
          omega
        simp only [B_X0_listLeast_105, T_X0_listLeast_150]
        rw [if_neg (by rw [q_i_lt ⟨by omega, by omega⟩ ⟨by omega, by omega⟩]; omega), q_l_i ⟨by omega, by omega⟩, q_l_i ⟨by omega, by omega⟩, show (2 : Int32) = q_i 2 from rfl, q_i_add]
        rcases p_X0_test (z := z) (a := a) (b := b) hg hdc ha0 ha ⟨by omega, by omega⟩ with ⟨no, ht⟩ | ⟨f, z1, hf, f1, f2, t1, t2, t3, t4, t5⟩
        · have hT2 : q_isTb q_pos d R a (b + 2) n T := by
            refine q_Tb_skip hT (by omega) (fun f hf hP hq => ?_)
            have h6 := odd f hf hP hq
            have h7 := no f hf
            rcases h6 with h6 | h6
            · exact Or.inl h6
            · have := h7 h6.1
              omega
          rcases ht with ⟨z1, t1, t3, t4⟩ | ⟨z1, t1, t2, t3, t4⟩
          · refine ⟨n, T, z1, ?_, ?_, hT2, ?_⟩
            · rw [t1, Option.bind_some]
              rfl
            · unfold q_CT
              rw [t3]
              exact hC
            · exact ⟨fun k _ _ _ _ _ => by rw [t3], fun k _ => by rw [t3], t4⟩
          · refine ⟨n, T, z1, ?_, ?_, hT2, ?_⟩
            · rw [t1, Option.bind_some]
              dsimp only
              rw [if_neg (by decide), t2, Option.bind_some]
              rfl
            · unfold q_CT
              rw [t3]
              exact hC
            · exact ⟨fun k _ _ _ _ _ => by rw [t3], fun k _ => by rw [t3], t4⟩
        · have hT1 := q_Tb_add hT hf (show q_pos f by unfold q_pos; omega) f1 f2
          have hn := q_Tb_n hdc h4 hT1 (fun f hf => hf)
          obtain ⟨z3, w1, w2, w3⟩ := p_X0_listWalker (z := z1) (n := n) (T := T) (by unfold q_CT; rw [t3]; exact hC) (by omega) t5
          refine ⟨n + 1, q_app T n f, z3, ?_, w2, ?_, q_CL_trans ⟨fun k _ _ _ _ _ => by rw [t3], fun k _ => by rw [t3], t4⟩ w3⟩
          · rw [t1, Option.bind_some]
            dsimp only
            rw [if_neg (by decide), t2, Option.bind_some]
            dsimp only
            rw [if_neg (by decide), w1, Option.bind_some]
          · exact q_Tb_skip hT1 (by omega) odd
      obtain ⟨n1, T1, z1, s1, s2, s3, s4⟩ := stp
      obtain ⟨b2, n2, T2, z2, g1, g2, g3, g4, g5⟩ := ih (b + 2) n1 T1 z1 (by omega) (by omega) (by omega) (by omega) (q_Cg_fr hg (s4.1 4 (by decide) (by decide) (by decide) (by decide) (by decide))) s2 s3
      exact ⟨b2, n2, T2, z2, by rw [q_lp_go s1]; exact g1, g2, g3, g4, q_CL_trans s4 g5⟩
theorem p_X0_listRow {d R a fb lb : Int} (hdc : q_dc d R) (h4 : q_d4 d) (ha0 : 0 < a) (ha : a ≤ 63) (hlb : 0 ≤ lb ∧ lb ≤ 63) (hfb : -63 ≤ fb ∧ fb ≤ 69) (t : Int32) (hlo : ∀ f, q_LF d R f → f.1 = a → fb ≤ f.2.1 ∧ f.2.1 ≤ lb) {n : Nat} {T : Nat → q_f3} {z : q_Z} (hg : q_Cg d R z) (hC : q_CT n T z) (hT : q_isTb q_pos d R a (-1000) n T) : ∃ n2 T2 z2, T_X0_listLeast_92 z (q_i d) (q_i R) t (q_i a) (q_i fb) (q_i lb) = some ((q_i d, q_i R, t, q_i (a + 1), z2), 0) ∧ q_CT n2 T2 z2 ∧ q_isTb q_pos d R (a + 1) (-1000) n2 T2 ∧ q_CL z z2 := by
  have hT1 : q_isTb q_pos d R a (fb + (fb - d) % 2) n T := by
    refine q_Tb_skip hT (by omega) (fun f hf _ hq => ?_)
    have h1 := hlo f hf
    have h2 := q_even_b hf.1.1
    rcases hq with hq | hq
    · exact Or.inl hq
    · have := h1 hq.1
      omega
  obtain ⟨b2, n2, T2, z2, g1, g2, g3, g5, g6⟩ := p_X0_listB hdc h4 ha0 ha hlb t 100 (fb + (fb - d) % 2) n T z (by omega) (by omega) (by omega) (by omega) hg hC hT1
  refine ⟨n2, T2, z2, ?_, g3, ?_, g6⟩
  · unfold T_X0_listLeast_92
    have g1 := q_lp_mono g1 (show 100 + 1 ≤ q_fu by decide)
    rw [q_i_sub, q_i_and1, q_i_add, g1, Option.bind_some]
    dsimp only
    rw [if_pos rfl, q_i1, q_i_add]
  · refine q_Tb_skip g5 (by omega) (fun f hf _ hq => ?_)
    have h1 := hlo f hf
    have h2 := q_LF_b hdc hf
    rcases hq with hq | hq
    · by_cases c : f.1 = a
      · have := h1 c
        omega
      · omega
    · omega
theorem p_X0_listA {d R top : Int} (hdc : q_dc d R) (h4 : q_d4 d) (htop : 0 ≤ top ∧ top ≤ 63) (hdp : 0 < d → top = R) : ∀ (r : Nat) (a : Int) (n : Nat) (T : Nat → q_f3) (z : q_Z), top + 1 = a + r → 0 < a → q_Cg d R z → q_CT n T z → q_isTb q_pos d R a (-1000) n T → ∃ n2 T2 z2, q_lp B_X0_listLeast_42 (r + 1) (q_i d, q_i R, q_i top, q_i a, z) = some ((q_i d, q_i R, q_i top, q_i (top + 1), z2), 0) ∧ q_CT n2 T2 z2 ∧ q_isTb q_pos d R (top + 1) (-1000) n2 T2 ∧ q_CL z z2 := by
  have hR := q_dc_R hdc
  have hdb : q_b d := by rcases hdc with q | q <;> exact ⟨by omega, by omega⟩
  intro r
  induction r with
  | zero =>
    intro a n T z h1 h2 hg hC hT
    have e : a = top + 1 := by omega
    subst e
    refine ⟨n, T, z, q_lp_end ?_, hC, hT, q_CL_rfl z⟩
    simp only [B_X0_listLeast_42]
    rw [if_pos (by rw [q_i_lt ⟨by omega, by omega⟩ ⟨by omega, by omega⟩]; omega)]
  | succ r ih =>
    intro a n T z h1 h2 hg hC hT
    have stp : ∃ n1 T1 z1, B_X0_listLeast_42 (q_i d, q_i R, q_i top, q_i a, z) = some ((q_i d, q_i R, q_i top, q_i (a + 1), z1), 0) ∧ q_CT n1 T1 z1 ∧ q_isTb q_pos d R (a + 1) (-1000) n1 T1 ∧ q_CL z z1 := by
      by_cases hp : 0 < d
      · have htR := hdp hp
        obtain ⟨n1, T1, z1, w1, w2, w3, w4⟩ := p_X0_listRow (a := a) (fb := max 1 (max (R - 2 * a + 1) (2 * a - R))) (lb := R) hdc h4 h2 (by omega) (by omega) (by omega) (q_i top) (by
          intro f hf hfa
          have := (q_LF_b hdc hf).2.2.2.2.1 hp
          omega) hg hC hT
        refine ⟨n1, T1, z1, ?_, w2, w3, w4⟩
        simp only [B_X0_listLeast_42, T_X0_listLeast_80]
        rw [if_neg (by rw [q_i_lt ⟨by omega, by omega⟩ ⟨by omega, by omega⟩]; omega), if_neg (by rw [q_i0, q_i_le hdb (by decide)]; omega), show (2 : Int32) = q_i 2 from rfl, q_i1, q_i_mul, q_i_sub, q_i_sub, q_i_add, p_J9_max ⟨by omega, by omega⟩ ⟨by omega, by omega⟩, Option.bind_some]
        dsimp only
        rw [p_J9_max (by decide) ⟨by omega, by omega⟩, Option.bind_some]
        dsimp only
        rw [if_neg (by rw [q_i0, q_i_le hdb (by decide)]; omega)]
        exact w1
      · have hn : d < 0 := by rcases hdc with q | q <;> omega
        obtain ⟨n1, T1, z1, w1, w2, w3, w4⟩ := p_X0_listRow (a := a) (fb := 1 - a) (lb := a) hdc h4 h2 (by omega) (by omega) (by omega) (q_i top) (by
          intro f hf hfa
          have := (q_LF_b hdc hf).2.2.2.2.2 hn
          omega) hg hC hT
        refine ⟨n1, T1, z1, ?_, w2, w3, w4⟩
        simp only [B_X0_listLeast_42, T_X0_listLeast_80]
        rw [if_neg (by rw [q_i_lt ⟨by omega, by omega⟩ ⟨by omega, by omega⟩]; omega), if_pos (by rw [q_i0, q_i_le hdb (by decide)]; omega), if_pos (by rw [q_i0, q_i_le hdb (by decide)]; omega), q_i1, q_i_sub]
        exact w1
    obtain ⟨n1, T1, z1, s1, s2, s3, s4⟩ := stp
    obtain ⟨n2, T2, z2, g1, g2, g3, g5⟩ := ih (a + 1) n1 T1 z1 (by omega) (by omega) (q_Cg_fr hg (s4.1 4 (by decide) (by decide) (by decide) (by decide) (by decide))) s2 s3
    exact ⟨n2, T2, z2, by rw [q_lp_go s1]; exact g1, g2, g3, q_CL_trans s4 g5⟩
/-- listLeast -/
theorem p_X0_listLeast {d R : Int} {z : q_Z} (hdc : q_dc d R) (h4 : q_d4 d) (hg : q_Cg d R z) : ∃ n T z2, F_X0_listLeast z = some ((), z2) ∧ q_CT n T z2 ∧ q_isT d R n T ∧ q_CL z z2 := by
  have hR := q_dc_R hdc
  have hdb : q_b d := by rcases hdc with q | q <;> exact ⟨by omega, by omega⟩
  have h0 : q_isTb q_pos d R 1 (-1000) 0 (fun _ => (0, 0, 0)) := by
    refine ⟨fun i j _ h => by omega, fun i h => by omega, fun f hf hP hq => ?_⟩
    have := q_LF_b hdc hf
    unfold q_pos at hP
    omega
  have hc0 : q_CT 0 (fun _ => (0, 0, 0)) (q_u2 z.1 3 9 0, z.2) := ⟨rfl, fun i h => by omega⟩
  have hg0 : q_Cg d R (q_u2 z.1 3 9 0, z.2) := q_Cg_fr hg (show q_u2 z.1 3 9 0 4 = z.1 4 from q_u2_ne (by decide))
  have hl0 : q_CL z (q_u2 z.1 3 9 0, z.2) := ⟨fun k a _ _ _ _ => q_u2_ne a, fun k a => by show q_u2 z.1 3 9 0 3 k = z.1 3 k; rw [q_u2_at, if_neg a], fun _ _ => rfl⟩
  have fin : ∀ top : Int, 0 ≤ top → top ≤ 63 → (0 < d → top = R) → (∀ f, q_LF d R f → f.1 ≤ top) → ∃ n T z2, T_X0_listLeast_38 (q_u2 z.1 3 9 0, z.2) (q_i d) (q_i R) (q_i top) = some ((), z2) ∧ q_CT n T z2 ∧ q_isT d R n T ∧ q_CL z z2 := by
    intro top t0 t1 t2 t3
    obtain ⟨n2, T2, z2, g1, g2, g3, g5⟩ := p_X0_listA hdc h4 ⟨t0, t1⟩ t2 top.toNat 1 0 _ _ (by omega) (by omega) hg0 hc0 h0
    refine ⟨n2, T2, z2, ?_, g2, ⟨g3.1, fun i hi => ⟨(g3.2.1 i hi).1, (g3.2.1 i hi).2.1⟩, fun f hf hp => g3.2.2 f hf hp (by have := t3 f hf; omega)⟩, q_CL_trans hl0 g5⟩
    unfold T_X0_listLeast_38
    have g1 := q_lp_mono g1 (show top.toNat + 1 ≤ q_fu by unfold q_fu; omega)
    rw [show (1 : Int32) = q_i 1 from rfl, g1, Option.bind_some]
    rfl
  unfold F_X0_listLeast
  rw [hg.1, hg.2]
  by_cases hp : 0 < d
  · rw [if_neg (by rw [q_i0, q_i_le hdb (by decide)]; omega)]
    exact fin R (by omega) (by omega) (fun _ => rfl) (fun f hf => by have := (q_LF_b hdc hf).2.2.2.2.1 hp; omega)
  · have hn : d < 0 := by rcases hdc with q | q <;> omega
    have hd4 : -4000 ≤ d := by rcases hdc with q | q <;> omega
    obtain ⟨r, r1, r2, r3, r4, r5⟩ := p_X7_rootOf (z := (q_u2 z.1 3 9 0, z.2)) (n := -d / 3) (by omega) (by omega)
    have e : Int32.toInt64 (-q_i d / 3) = q_l (-d / 3) := by
      have e1 : (-d).tdiv 3 = -d / 3 := Int.tdiv_eq_ediv_of_nonneg (by omega)
      rw [q_i_neg, show (3 : Int32) = q_i 3 from rfl, q_i_div ⟨by omega, by omega⟩ (by decide) (by rw [e1]; exact ⟨by omega, by omega⟩), e1, q_l_i ⟨by omega, by omega⟩]
    have hr : r ≤ 36 := by
      rcases Int.lt_or_le 36 r with q | q
      · have : (37 : Int) * 37 ≤ r * r := Int.mul_le_mul (by omega) (by omega) (by omega) (by omega)
        omega
      · exact q
    rw [if_pos (by rw [q_i0, q_i_le hdb (by decide)]; omega), e, r5, Option.bind_some]
    dsimp only
    rw [q_i_l]
    refine fin r r1 (by omega) (fun q => by omega) (fun f hf => ?_)
    have h9 := (q_LF_b hdc hf).2.2.2.2.2 hn
    rcases Int.lt_or_le r f.1 with q | q
    · have : (r + 1) * (r + 1) ≤ f.1 * f.1 := Int.mul_le_mul (by omega) (by omega) (by omega) (by omega)
      omega
    · exact q
