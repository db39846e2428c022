/-! proper -/
noncomputable def q_cnt2 (H : Nat → Prop) : Nat → Nat
  | 0 => 0
  | k + 1 => q_cnt2 H k + @ite Nat (H k) (Classical.propDecidable _) 1 0
theorem q_cnt2_yes {H : Nat → Prop} {k : Nat} (h : H k) : q_cnt2 H (k + 1) = q_cnt2 H k + 1 := by
  show q_cnt2 H k + @ite Nat (H k) (Classical.propDecidable _) 1 0 = _
  rw [@if_pos _ (Classical.propDecidable _) h]
theorem q_cnt2_no {H : Nat → Prop} {k : Nat} (h : ¬ H k) : q_cnt2 H (k + 1) = q_cnt2 H k := by
  show q_cnt2 H k + @ite Nat (H k) (Classical.propDecidable _) 1 0 = _
  rw [@if_neg _ (Classical.propDecidable _) h]
  rfl
theorem q_cnt2_le {H : Nat → Prop} : ∀ k, q_cnt2 H k ≤ k
  | 0 => Nat.le_refl _
  | k + 1 => by
    have := q_cnt2_le (H := H) k
    by_cases h : H k
    · rw [q_cnt2_yes h]; omega
    · rw [q_cnt2_no h]; omega
/-- a b that is counted -/
def q_pH (d R n : Int) (own : Nat) (b : Nat) : Prop := ∃ c, q_isf d n b c ∧ Int.gcd (Int.gcd n b) c = 1 ∧ q_kls d R (q_red d R (n, (b : Int), c)) = own
theorem q_isf_c {d a b c e : Int} (h1 : q_isf d a b c) (h2 : q_isf d a b e) : c = e := by
  have h3 := h1.2.2
  have h4 := h2.2.2
  exact Int.eq_of_mul_eq_mul_left (show 4 * a ≠ 0 by have := h1.1; omega) (by omega)
theorem q_isf_bd {d n c : Int} {b : Nat} (hd : -4000 ≤ d ∧ d ≤ 4000) (hn : -20000 ≤ n ∧ n ≤ 20000) (hb : (b : Int) < 2 * n.natAbs) (h : q_isf d n b c) : q_m6 n ∧ q_m6 b ∧ q_m6 c := by
  obtain ⟨h1, h2, h3⟩ := h
  refine ⟨⟨by omega, by omega⟩, ⟨by omega, by omega⟩, ?_⟩
  have h4 : ((4 * n * c).natAbs : Int) ≤ b * b + 4000 := by
    rw [h3]
    have := q_sq_nn (b : Int)
    omega
  have e1 : (4 * n * c).natAbs = 4 * (n.natAbs * c.natAbs) := by rw [Int.natAbs_mul, Int.natAbs_mul, Nat.mul_assoc]; rfl
  rw [e1] at h4
  obtain ⟨N, hN⟩ : ∃ N, N = n.natAbs := ⟨_, rfl⟩
  obtain ⟨C, hC⟩ : ∃ C, C = c.natAbs := ⟨_, rfl⟩
  rw [← hN, ← hC] at h4
  have h5 : b * b ≤ (2 * N) * (2 * N) := Nat.mul_le_mul (by omega) (by omega)
  have h6 : (2 * N) * (2 * N) = 4 * (N * N) := by grind
  have h7 : 4 * (N * C) ≤ 4 * (N * N) + 4000 := by
    have : ((b * b : Nat) : Int) = (b : Int) * b := Int.natCast_mul b b
    omega
  have h8 : C ≤ N + 1000 := by
    rcases Nat.lt_or_ge (N + 1000) C with q | q
    · have a1 : N * (N + 1001) ≤ N * C := Nat.mul_le_mul_left N (by omega)
      have a2 : N * (N + 1001) = N * N + 1001 * N := by grind
      have a3 : 0 < N := by omega
      omega
    · exact q
  show -1000000 ≤ c ∧ c ≤ 1000000
  omega
theorem p_X9_cpLoop {d R n : Int} {own : Nat} {I : Nat → Nat → Int32} (hdc : q_dc d R) (h4 : q_d4 d) (hn : -20000 ≤ n ∧ n ≤ 20000) (hn0 : n ≠ 0) (hs : ¬ (d < 0 ∧ n < 0)) (hd : I 4 0 = q_i d) (hR : I 4 1 = q_i R) (hT : q_TC d R (I, fun _ _ => 0)) (hown : own < 200) : ∀ (r b : Nat) (L : Nat → Nat → Int64), 2 * n.natAbs ≤ b + 2 * r → b ≤ 2 * n.natAbs + 1 → ((b : Int) - d) % 2 = 0 → ∃ w5 w6 L2, q_lp B_X9_countProper_47 (r + 1) (q_i n, q_i own, q_i n.natAbs, q_i (q_cnt2 (q_pH d R n own) b), q_i ((((b : Int) * b - d) / 4) % n.natAbs), q_i b, (I, L)) = some ((q_i n, q_i own, q_i n.natAbs, q_i (q_cnt2 (q_pH d R n own) (2 * n.natAbs)), w5, w6, (I, L2)), 0) ∧ ∀ k, k ≠ 10 → k ≠ 126 → L2 k = L k := by
  have hdb : -4000 ≤ d ∧ d ≤ 4000 := by rcases hdc with q | q <;> omega
  have hstop : ∀ (b : Nat) (L : Nat → Nat → Int64) (a e : Int32), 2 * n.natAbs ≤ b → b ≤ 2 * n.natAbs + 1 → B_X9_countProper_47 (q_i n, q_i own, q_i n.natAbs, a, e, q_i b, (I, L)) = some ((q_i n, q_i own, q_i n.natAbs, a, e, q_i b, (I, L)), 1) := by
    intro b L a e h1 h2
    simp only [B_X9_countProper_47]
    rw [if_pos (by rw [show (2 : Int32) = q_i 2 from rfl, q_i_mul, q_i_le ⟨by omega, by omega⟩ ⟨by omega, by omega⟩]; omega)]
  have hodd : ∀ b : Nat, ((b : Int) - d) % 2 = 0 → ¬ q_pH d R n own (b + 1) := by
    intro b hb ⟨c, h1, _⟩
    have := q_even_b (d := d) (a := n) (b := ((b + 1 : Nat) : Int)) (c := c) (by have := h1.2.2; omega)
    omega
  have hend : ∀ b : Nat, 2 * n.natAbs ≤ b → b ≤ 2 * n.natAbs + 1 → ((b : Int) - d) % 2 = 0 → q_cnt2 (q_pH d R n own) b = q_cnt2 (q_pH d R n own) (2 * n.natAbs) := by
    intro b h1 h2 h3
    by_cases e : b = 2 * n.natAbs
    · rw [e]
    · have e : b = 2 * n.natAbs + 1 := by omega
      rw [e]
      refine q_cnt2_no ?_
      intro ⟨c, h5, _⟩
      have := q_even_b (d := d) (a := n) (b := ((2 * n.natAbs : Nat) : Int)) (c := c) (by have := h5.2.2; omega)
      omega
  intro r
  induction r with
  | zero =>
    intro b L h1 h2 h3
    refine ⟨q_i ((((b : Int) * b - d) / 4) % n.natAbs), q_i b, L, ?_, fun _ _ _ => rfl⟩
    have h := hstop b L (q_i (q_cnt2 (q_pH d R n own) b)) (q_i ((((b : Int) * b - d) / 4) % n.natAbs)) (by omega) h2
    rw [← hend b (by omega) h2 h3]
    exact q_lp_end h
  | succ r ih =>
    intro b L h1 h2 h3
    by_cases cb : 2 * n.natAbs ≤ b
    · refine ⟨q_i ((((b : Int) * b - d) / 4) % n.natAbs), q_i b, L, ?_, fun _ _ _ => rfl⟩
      have h := hstop b L (q_i (q_cnt2 (q_pH d R n own) b)) (q_i ((((b : Int) * b - d) / 4) % n.natAbs)) cb h2
      rw [← hend b cb h2 h3]
      exact q_lp_mono (q_lp_end (n := 0) h) (by omega)
    · have hct := q_cnt2_le (H := q_pH d R n own) b
      have hbb : ((b : Int) * b - d) % 4 = 0 := by
        have : (b : Int) % 2 = 0 ∨ (b : Int) % 2 = 1 := by omega
        obtain ⟨m, hm⟩ : ∃ m : Int, (b : Int) = 2 * m ∨ (b : Int) = 2 * m + 1 := ⟨(b : Int) / 2, by omega⟩
        unfold q_d4 at h4
        rcases hm with hm | hm
        · have e : (b : Int) * b = 4 * (m * m) := by rw [hm]; grind
          rw [e]
          omega
        · have e : (b : Int) * b = 4 * (m * m + m) + 1 := by rw [hm]; grind
          rw [e]
          omega
      obtain ⟨q, hq⟩ : ∃ q, q = ((b : Int) * b - d) / 4 := ⟨_, rfl⟩
      have hq4 : (b : Int) * b - d = 4 * q := by omega
      have hNp : 0 < (n.natAbs : Int) := by omega
      have hm0 := Int.emod_nonneg q (show (n.natAbs : Int) ≠ 0 by omega)
      have hm1 := Int.emod_lt_of_pos q hNp
      rw [← hq]
      have nxt : (((b + 2 : Nat) : Int) * ((b + 2 : Nat) : Int) - d) / 4 = q + b + 1 := by
        have e : ((b + 2 : Nat) : Int) * ((b + 2 : Nat) : Int) = (b : Int) * b + 4 * (b + 1) := by rw [Int.natCast_add]; grind
        rw [e]
        omega
      have t97 : ∀ (L' : Nat → Nat → Int64) (f : Int32), T_X9_countProper_97 (I, L') (q_i n) (q_i own) (q_i n.natAbs) f (q_i (q % n.natAbs)) (q_i b) = some ((q_i n, q_i own, q_i n.natAbs, f, q_i ((q + b + 1) % n.natAbs), q_i ((b + 2 : Nat) : Int), (I, L')), 0) := by
        intro L' f
        have e1 : (q % n.natAbs + b + 1).tmod n.natAbs = (q + b + 1) % n.natAbs := by
          rw [Int.tmod_eq_emod_of_nonneg (by omega), Int.add_assoc, Int.emod_add_emod, ← Int.add_assoc]
        have e2 : (q % n.natAbs + b + 1).tdiv n.natAbs = (q % n.natAbs + b + 1) / n.natAbs := Int.tdiv_eq_ediv_of_nonneg (by omega)
        have e3 : (q % n.natAbs + b + 1) / n.natAbs ≤ q % n.natAbs + b + 1 := Int.ediv_le_self _ (by omega)
        have e4 : 0 ≤ (q % n.natAbs + b + 1) / n.natAbs := Int.ediv_nonneg (by omega) (by omega)
        unfold T_X9_countProper_97
        rw [if_pos (by rw [q_i0, q_i_eq ⟨by omega, by omega⟩ (by decide)]; omega), q_i1, q_i_add, q_i_add, q_i_rem ⟨by omega, by omega⟩ ⟨by omega, by omega⟩ (by rw [e2]; exact ⟨by omega, by omega⟩), e1, show (2 : Int32) = q_i 2 from rfl, q_i_add]
        rfl
      have stp : ∃ L1, B_X9_countProper_47 (q_i n, q_i own, q_i n.natAbs, q_i (q_cnt2 (q_pH d R n own) b), q_i (q % n.natAbs), q_i b, (I, L)) = some ((q_i n, q_i own, q_i n.natAbs, q_i (q_cnt2 (q_pH d R n own) (b + 2)), q_i ((q + b + 1) % n.natAbs), q_i ((b + 2 : Nat) : Int), (I, L1)), 0) ∧ ∀ k, k ≠ 10 → k ≠ 126 → L1 k = L k := by
        have hc2 : q_cnt2 (q_pH d R n own) (b + 2) = q_cnt2 (q_pH d R n own) (b + 1) := q_cnt2_no (hodd b h3)
        rw [hc2]
        simp only [B_X9_countProper_47]
        rw [if_neg (by rw [show (2 : Int32) = q_i 2 from rfl, q_i_mul, q_i_le ⟨by omega, by omega⟩ ⟨by omega, by omega⟩]; omega)]
        by_cases c0 : q % n.natAbs = 0
        · -- a form with these
          have hdv : (n.natAbs : Int) ∣ q := Int.dvd_of_emod_eq_zero c0
          have hdv : n ∣ q := Int.natAbs_dvd.mp hdv
          obtain ⟨c, hc⟩ := hdv
          have hf : q_isf d n b c := ⟨hn0, hs, by rw [hq4, hc, Int.mul_assoc]⟩
          have hbd := q_isf_bd hdb hn (by omega) hf
          have e := p_X2_complete_yes (o := 126) (z := (I, L)) hd hdb ⟨by omega, by omega⟩ ⟨by omega, by omega⟩ hf.1 hf.2.1 hf.2.2
          have e : F_X2_complete 126 (I, L) (q_l n) (q_l b) = some (if Int.gcd (Int.gcd n b) c = 1 then 1 else 0, (I, q_v3 L 126 (n, (b : Int), c))) := e
          rw [if_pos (by rw [c0]; rfl), q_l_i ⟨by omega, by omega⟩, q_l_i ⟨by omega, by omega⟩, e, Option.bind_some]
          by_cases cg : Int.gcd (Int.gcd n b) c = 1
          · have hG := q_isf_G hdc hf hbd.1 hbd.2.1 hbd.2.2 cg
            obtain ⟨L2, b1, b2⟩ := p_X0_find (o := 126) (z := (I, q_v3 L 126 (n, (b : Int), c))) hdc h4 ⟨hd, hR⟩ hT hG (q_v3_3 L 126 (n, (b : Int), c))
            have hlt := q_kls_lt hdc h4 (q_red_LF hdc hG)
            have hle := q_nc2_le hdc h4
            rw [if_pos cg]
            dsimp only
            rw [if_neg (by decide), b1, Option.bind_some]
            dsimp only
            refine ⟨L2, ?_, fun k h0 h6 => (b2 k h0).trans (q_v3_ne h6)⟩
            by_cases ce : q_kls d R (q_red d R (n, (b : Int), c)) = own
            · rw [if_pos (by rw [ce]), q_i1, q_i_add, t97, q_cnt2_yes ⟨c, hf, cg, ce⟩]
              rfl
            · rw [if_neg (by rw [q_i_eq ⟨by omega, by omega⟩ ⟨by omega, by omega⟩]; omega), t97, q_cnt2_no]
              intro ⟨c2, f1, f2, f3⟩
              have := q_isf_c hf f1
              subst this
              exact ce f3
          · rw [if_neg cg]
            dsimp only
            refine ⟨q_v3 L 126 (n, (b : Int), c), ?_, fun k _ h6 => q_v3_ne h6⟩
            rw [if_pos rfl, t97, q_cnt2_no]
            intro ⟨c2, f1, f2, _⟩
            have := q_isf_c hf f1
            subst this
            exact cg f2
        · refine ⟨L, ?_, fun _ _ _ => rfl⟩
          rw [if_neg (by rw [q_i0, q_i_eq ⟨by omega, by omega⟩ (by decide)]; exact c0), t97, q_cnt2_no]
          intro ⟨c, f1, _⟩
          refine c0 (Int.emod_eq_zero_of_dvd (Int.natAbs_dvd.mpr ⟨c, ?_⟩))
          have := f1.2.2
          rw [hq4, Int.mul_assoc] at this
          omega
      obtain ⟨L1, s1, s2⟩ := stp
      obtain ⟨w5, w6, L2, g1, g2⟩ := ih (b + 2) L1 (by omega) (by omega) (by omega)
      refine ⟨w5, w6, L2, ?_, fun k a c => (g2 k a c).trans (s2 k a c)⟩
      rw [q_lp_go s1, ← g1, nxt]
theorem p_X9_countProper {d R n : Int} {own : Nat} {z : q_Z} (hdc : q_dc d R) (h4 : q_d4 d) (hn : -20000 ≤ n ∧ n ≤ 20000) (hn0 : n ≠ 0) (hs : ¬ (d < 0 ∧ n < 0)) (hg : q_Cg d R z) (hT : q_TC d R z) (hown : own < 200) : ∃ L2, F_X9_countProper z (q_i n) (q_i own) = some (q_i (q_cnt2 (q_pH d R n own) (2 * n.natAbs)), (z.1, L2)) ∧ ∀ k, k ≠ 10 → k ≠ 126 → L2 k = z.2 k := by
  have hdb : -4000 ≤ d ∧ d ≤ 4000 := by rcases hdc with q | q <;> omega
  unfold q_d4 at h4
  obtain ⟨p, hp⟩ : ∃ p : Nat, (p : Int) = d % 2 := ⟨(d % 2).toNat, by omega⟩
  have hpp : (p : Int) * p = p := by
    have : p = 0 ∨ p = 1 := by omega
    rcases this with e | e <;> (rw [e]; rfl)
  have hz : q_cnt2 (q_pH d R n own) p = 0 := by
    have : p = 0 ∨ p = 1 := by omega
    rcases this with e | e
    · rw [e]; rfl
    · rw [e]
      refine q_cnt2_no ?_
      intro ⟨c, h1, _⟩
      have := q_even_b (d := d) (a := n) (b := ((0 : Nat) : Int)) (c := c) (by have := h1.2.2; omega)
      omega
  obtain ⟨w5, w6, L2, g1, g2⟩ := p_X9_cpLoop (I := z.1) hdc h4 hn hn0 hs hg.1 hg.2 hT hown n.natAbs p z.2 (by omega) (by omega) (by omega)
  have g1 := q_lp_mono g1 (show n.natAbs + 1 ≤ q_fu by unfold q_fu; omega)
  rw [hz, hpp] at g1
  refine ⟨L2, ?_, g2⟩
  have e1 : (z.1 4 0) &&& 1 = q_i p := by rw [hg.1, q_i_and1, hp]
  have e2 : (q_i p - z.1 4 0) / 4 = q_i (((p : Int) - d) / 4) := by
    have e3 : ((p : Int) - d).tdiv 4 = ((p : Int) - d) / 4 := q_tdiv_ex (by omega)
    rw [hg.1, q_i_sub, show (4 : Int32) = q_i 4 from rfl, q_i_div ⟨by omega, by omega⟩ (by decide) (by rw [e3]; exact ⟨by omega, by omega⟩), e3]
  unfold F_X9_countProper
  rw [p_J9_abs ⟨by omega, by omega⟩ ⟨by omega, by omega⟩, Option.bind_some]
  dsimp only
  rw [if_neg (by rw [q_i0, q_i_eq ⟨by omega, by omega⟩ (by decide)]; omega), e1, e2, p_J9_fmi ⟨by omega, by omega⟩ ⟨by omega, by omega⟩ ⟨by omega, by omega⟩ (by omega), Option.bind_some]
  dsimp only
  have g1 : q_lp B_X9_countProper_47 q_fu (q_i n, q_i own, q_i n.natAbs, 0, q_i (((p : Int) - d) / 4 % n.natAbs), q_i p, z) = _ := g1
  rw [g1, Option.bind_some]
  rfl
theorem p_X10_ppLoop {d R n : Int} {own : Nat} {I : Nat → Nat → Int32} (hdc : q_dc d R) (h4 : q_d4 d) (hn : -20000 ≤ n ∧ n ≤ 20000) (hn0 : n ≠ 0) (hs : ¬ (d < 0 ∧ n < 0)) (hg : I 128 0 = q_i d ∧ I 128 1 = q_i R) (hM : q_Mtab d R (I, fun _ _ => 0)) (hown : own < 200) : ∀ (r b : Nat) (L : Nat → Nat → Int64), b + r = 2 * n.natAbs → ∃ L2, q_lp B_X10_proper_88 (r + 1) (q_i n, q_i own, q_i (q_cnt2 (q_pH d R n own) b), q_l ((2 * n.natAbs : Nat) : Int), q_l b, (I, L)) = some ((q_i n, q_i own, q_i (q_cnt2 (q_pH d R n own) (2 * n.natAbs)), q_l ((2 * n.natAbs : Nat) : Int), q_l ((2 * n.natAbs : Nat) : Int), (I, L2)), 0) ∧ ∀ k, k ≠ 128 → L2 k = L k := by
  have hdb : -4000 ≤ d ∧ d ≤ 4000 := by rcases hdc with q | q <;> omega
  intro r
  induction r with
  | zero =>
    intro b L h1
    have e : b = 2 * n.natAbs := by omega
    subst e
    refine ⟨L, q_lp_end ?_, fun _ _ => rfl⟩
    simp only [B_X10_proper_88]
    rw [if_pos ((q_l_le ⟨by omega, by omega⟩ ⟨by omega, by omega⟩).mpr (Int.le_refl _))]
  | succ r ih =>
    intro b L h1
    have hct := q_cnt2_le (H := q_pH d R n own) b
    have stp : ∃ L1, B_X10_proper_88 (q_i n, q_i own, q_i (q_cnt2 (q_pH d R n own) b), q_l ((2 * n.natAbs : Nat) : Int), q_l b, (I, L)) = some ((q_i n, q_i own, q_i (q_cnt2 (q_pH d R n own) (b + 1)), q_l ((2 * n.natAbs : Nat) : Int), q_l ((b + 1 : Nat) : Int), (I, L1)), 0) ∧ ∀ k, k ≠ 128 → L1 k = L k := by
      simp only [B_X10_proper_88, T_X10_proper_118]
      rw [if_neg (by rw [q_l_le ⟨by omega, by omega⟩ ⟨by omega, by omega⟩]; omega), q_l_i ⟨by omega, by omega⟩, show q_l (b : Int) + 1 = q_l ((b + 1 : Nat) : Int) by rw [q_l1, q_l_add]; rfl]
      by_cases cf : ∃ c, q_isf d n b c
      · obtain ⟨c, hf⟩ := cf
        have hbd := q_isf_bd hdb hn (by omega) hf
        have e := p_X10_isForm_yes (z := (I, L)) hg.1 hdb ⟨by omega, by omega⟩ ⟨by omega, by omega⟩ hf.1 hf.2.1 hf.2.2
        have e2 := q_w7_take L (n, (b : Int), c)
        have e : F_X10_isForm (I, L) (q_l n) (q_l b) = some (if Int.gcd (Int.gcd n b) c = 1 then 1 else 0, (I, q_w7 L (n, (b : Int), c) (L 128 15, L 128 16, L 128 17, L 128 18))) := by
          rw [← e2]
          exact e
        rw [e, Option.bind_some]
        by_cases cg : Int.gcd (Int.gcd n b) c = 1
        · have hG := q_isf_G hdc hf hbd.1 hbd.2.1 hbd.2.2 cg
          obtain ⟨w2, b1⟩ := p_X10_classHere (I := I) (L := L) (w := (L 128 15, L 128 16, L 128 17, L 128 18)) hdc hg hM hG
          have hlt := q_kls_lt hdc h4 (q_red_LF hdc hG)
          have hle := q_nc2_le hdc h4
          rw [if_pos cg]
          dsimp only
          rw [if_neg (by decide), b1, Option.bind_some]
          dsimp only
          refine ⟨q_w7 L (q_red d R (n, (b : Int), c)) w2, ?_, fun k hk => q_w7_ne hk⟩
          by_cases ce : q_kls d R (q_red d R (n, (b : Int), c)) = own
          · rw [if_pos (by rw [ce]), q_i1, q_i_add, q_cnt2_yes ⟨c, hf, cg, ce⟩]
            rfl
          · rw [if_neg (by rw [q_i_eq ⟨by omega, by omega⟩ ⟨by omega, by omega⟩]; omega), q_cnt2_no]
            intro ⟨c2, f1, f2, f3⟩
            have := q_isf_c hf f1
            subst this
            exact ce f3
        · rw [if_neg cg]
          dsimp only
          refine ⟨q_w7 L (n, (b : Int), c) (L 128 15, L 128 16, L 128 17, L 128 18), ?_, fun k hk => q_w7_ne hk⟩
          rw [if_pos rfl, q_cnt2_no]
          intro ⟨c2, f1, f2, _⟩
          have := q_isf_c hf f1
          subst this
          exact cg f2
      · refine ⟨L, ?_, fun _ _ => rfl⟩
        rw [p_X10_isForm_no (z := (I, L)) hg.1 hdb ⟨by omega, by omega⟩ ⟨by omega, by omega⟩ (Or.inr (Or.inr fun dv => by obtain ⟨c, hc⟩ := dv; exact cf ⟨c, hn0, hs, hc.symm⟩)), Option.bind_some]
        dsimp only
        rw [if_pos rfl, q_cnt2_no]
        intro ⟨c, f1, _⟩
        exact cf ⟨c, f1⟩
    obtain ⟨L1, s1, s2⟩ := stp
    obtain ⟨L2, g1, g2⟩ := ih (b + 1) L1 (by omega)
    exact ⟨L2, by rw [q_lp_go s1]; exact g1, fun k a => (g2 k a).trans (s2 k a)⟩
theorem k_proper {s : q_SS} (hv : q_V s) (l1 l2 : Int32) : q_cok (fun z => F_X9_proper z l1 l2) (fun z => F_X10_proper z l1 l2) s := by
  obtain ⟨x, hx, rfl⟩ := q_i_of l1
  obtain ⟨n, hn, rfl⟩ := q_i_of l2
  have hsn := hv.2.2.1
  have hdb : q_b s.1.1 := by rcases hv.1 with q | q <;> exact ⟨by omega, by omega⟩
  have hin : ∀ z : q_Z, F_X10_in z (Int32.toInt64 (q_i n)) (-20000) 20000 = some (if -20000 ≤ n ∧ n ≤ 20000 then 1 else 0, z) := by
    intro z
    rw [show (-20000 : Int64) = q_l (-20000) from rfl, show (20000 : Int64) = q_l 20000 from rfl]
    exact p_in_i (z := z) (a := -20000) (c := 20000) hn (by decide) (by decide)
  have k0 : (q_i n = (0 : Int32) ↔ n = 0) := q_i_eq (y := 0) hn (by decide)
  have kn : ((0 : Int32) ≤ q_i n ↔ 0 ≤ n) := q_i_le (x := 0) (by decide) hn
  have kd : ((0 : Int32) ≤ q_i s.1.1 ↔ 0 ≤ s.1.1) := q_i_le (x := 0) (by decide) hdb
  have km : (q_i n < (-20000 : Int32) ↔ n < -20000) := by rw [show (-20000 : Int32) = q_i (-20000) from rfl]; exact q_i_lt (y := -20000) hn (by decide)
  have kp : ((20000 : Int32) < q_i n ↔ 20000 < n) := q_i_lt (x := 20000) (by decide) hn
  by_cases c : 0 ≤ x ∧ x < s.2.1.1
  · by_cases cn : (-20000 ≤ n ∧ n ≤ 20000) ∧ n ≠ 0 ∧ ¬ (s.1.1 < 0 ∧ n < 0)
    · obtain ⟨n1, n2, n3⟩ := cn
      have hG := hv.2.2.2.2.2.1 x.toNat (by omega)
      obtain ⟨own, ho⟩ : ∃ own, own = q_kls s.1.1 s.1.2.1 (q_red s.1.1 s.1.2.1 (s.2.1.2 x.toNat)) := ⟨_, rfl⟩
      have hol : own < 200 := by
        have h1 := q_kls_lt hv.1 hv.2.1 (q_red_LF hv.1 hG)
        have h2 := q_nc2_le hv.1 hv.2.1
        omega
      refine ⟨q_i (q_cnt2 (q_pH s.1.1 s.1.2.1 n own) (2 * n.natAbs)), ((s.1.1, s.1.2.1, 0), s.2), hv, fun z hz => ?_, fun z hz => ?_⟩
      · obtain ⟨z1, a1, a2, a3, a4, -⟩ := p_prep hv hz
        obtain ⟨L2, b1, b2⟩ := p_X0_find (o := 19 + x.toNat) hv.1 hv.2.1 a2.1 a4 hG (a2.2.2.1.2 x.toNat (by omega))
        rw [← ho] at b1
        obtain ⟨L3, d1, d2⟩ := p_X9_countProper (z := (z1.1, L2)) hv.1 hv.2.1 n1 n2 n3 a2.1 a4 hol
        have k := q_C_X (z2 := (q_u2 z1.1 1 9 0, L3)) 0 a2 hv ⟨fun m h1 _ _ _ => q_u2_ne h1, fun m h0 _ _ _ h6 _ => (d2 m h0 h6).trans (b2 m h0)⟩ rfl
        refine ⟨(q_u2 z1.1 1 9 0, L3), ?_, k.1, q_fC_trans a3 k.2⟩
        show F_X9_proper z (q_i x) (q_i n) = _
        have t57 : T_X9_proper_57 (19 + x.toNat) z (q_i n) = some (q_i (q_cnt2 (q_pH s.1.1 s.1.2.1 n own) (2 * n.natAbs)), (q_u2 z1.1 1 9 0, L3)) := by
          unfold T_X9_proper_57
          rw [a1, Option.bind_some]
          dsimp only
          rw [b1, Option.bind_some]
          dsimp only
          rw [d1, Option.bind_some]
          rfl
        unfold F_X9_proper
        rw [p_X6_at hz.2.2.1.1 hsn hx, Option.bind_some, if_pos c]
        dsimp only
        rw [if_neg (fun q => by have := km.mp q; omega), if_neg (fun q => by have := kp.mp q; omega), if_neg (fun q => n2 (k0.mp q))]
        by_cases cs : 0 ≤ n
        · rw [if_pos (kn.mpr cs), t57]
        · rw [if_neg (fun q => cs (kn.mp q)), if_pos (by rw [hz.1.1]; exact kd.mpr (by omega)), t57]
      · have hg : q_u2 (q_u2 z.1 128 3 0) 128 2 0 128 0 = q_i s.1.1 ∧ q_u2 (q_u2 z.1 128 3 0) 128 2 0 128 1 = q_i s.1.2.1 := hz.1
        have hM : ∀ L, q_Mtab s.1.1 s.1.2.1 (q_u2 (q_u2 z.1 128 3 0) 128 2 0, L) := fun L => q_Mtab_fr hz.2.2.2.2.2.2 rfl rfl (fun m a b => by show q_u2 (q_u2 z.1 128 3 0) 128 2 0 m = _; rw [q_u2_ne (by omega), q_u2_ne (by omega)])
        obtain ⟨w2, b1⟩ := p_X10_classHere (I := q_u2 (q_u2 z.1 128 3 0) 128 2 0) (L := z.2) (w := (z.2 128 15, z.2 128 16, z.2 128 17, z.2 128 18)) hv.1 hg (hM z.2) hG
        rw [← ho] at b1
        obtain ⟨L3, d1, d2⟩ := p_X10_ppLoop (I := q_u2 (q_u2 z.1 128 3 0) 128 2 0) hv.1 hv.2.1 n1 n2 n3 hg (hM _) hol (2 * n.natAbs) 0 (q_w7 z.2 (q_red s.1.1 s.1.2.1 (s.2.1.2 x.toNat)) w2) (by omega)
        have d1 := q_lp_mono d1 (show 2 * n.natAbs + 1 ≤ q_fu by unfold q_fu; omega)
        have k := q_M_work (z2 := (q_u2 (q_u2 z.1 128 3 0) 128 2 0, L3)) 0 hz ⟨fun m hm _ => ⟨by show q_u2 (q_u2 z.1 128 3 0) 128 2 0 m = _; rw [q_u2_ne hm, q_u2_ne hm], (d2 m hm).trans (q_w7_ne hm)⟩, rfl, rfl, rfl, rfl, rfl, rfl, rfl⟩ rfl
        refine ⟨_, ?_, k.1, k.2⟩
        show F_X10_proper z (q_i x) (q_i n) = _
        have t55 : T_X10_proper_55 (q_u2 z.1 128 3 0, z.2) (q_i x) (q_i n) = some (q_i (q_cnt2 (q_pH s.1.1 s.1.2.1 n own) (2 * n.natAbs)), (q_u2 (q_u2 z.1 128 3 0) 128 2 0, L3)) := by
          unfold T_X10_proper_55
          rw [p_X10_take (z := (q_u2 (q_u2 z.1 128 3 0) 128 2 0, z.2)) hz.2.2.1.2 hsn c.1 c.2, Option.bind_some]
          dsimp only
          rw [b1, Option.bind_some]
          dsimp only
          rw [q_l_i hn, p_X10_abs (q_b_B hn) ⟨by omega, by omega⟩, Option.bind_some]
          dsimp only
          rw [q_l2, q_l_mul, show (2 : Int) * n.natAbs = ((2 * n.natAbs : Nat) : Int) by omega]
          have d1 : q_lp B_X10_proper_88 q_fu (q_i n, q_i own, 0, q_l ((2 * n.natAbs : Nat) : Int), 0, (q_u2 (q_u2 z.1 128 3 0) 128 2 0, q_w7 z.2 (q_red s.1.1 s.1.2.1 (s.2.1.2 x.toNat)) w2)) = _ := d1
          rw [d1, Option.bind_some]
          rfl
        unfold F_X10_proper
        rw [p_X10_isPlace (z := (q_u2 z.1 128 3 0, z.2)) (n := s.2.1.1) hz.2.2.1.1 hsn hx, Option.bind_some, if_pos c]
        dsimp only
        rw [if_neg (by decide), hin, Option.bind_some, if_pos n1]
        dsimp only
        have e0 : q_u2 z.1 128 3 0 128 0 = q_i s.1.1 := hz.1.1
        rw [if_neg (by decide), if_neg (fun q => n2 (k0.mp q))]
        by_cases cs : 0 ≤ s.1.1
        · rw [if_pos (by rw [e0]; exact kd.mpr cs), t55]
        · rw [if_neg (fun q => by rw [e0] at q; exact cs (kd.mp q)), if_pos (kn.mpr (by omega)), t55]
    · refine q_cok_t hv (-1) 1 (fun z hz => ⟨(q_u2 z.1 1 9 1, z.2), ?_, q_CW_t 1 (q_CW_rfl z), rfl⟩) (fun z hz => ⟨(q_u2 (q_u2 z.1 128 3 0) 128 2 1, z.2), ?_, q_MW_t (z2 := (q_u2 z.1 128 3 0, z.2)) 1 (by decide) (q_MW_t (z2 := z) 0 (by decide) (q_MW_rfl z)), rfl⟩)
      · show F_X9_proper z (q_i x) (q_i n) = _
        unfold F_X9_proper
        rw [p_X6_at hz.2.2.1.1 hsn hx, Option.bind_some, if_pos c]
        dsimp only
        by_cases d1 : n < -20000
        · rw [if_pos (km.mpr d1)]; rfl
        rw [if_neg (fun q => d1 (km.mp q))]
        by_cases d2 : 20000 < n
        · rw [if_pos (kp.mpr d2)]; rfl
        rw [if_neg (fun q => d2 (kp.mp q))]
        by_cases d3 : n = 0
        · rw [if_pos (k0.mpr d3)]; rfl
        rw [if_neg (fun q => d3 (k0.mp q))]
        have d4 : s.1.1 < 0 ∧ n < 0 := by omega
        rw [if_neg (fun q => by have := kn.mp q; omega), if_neg (fun q => by rw [hz.1.1] at q; have := kd.mp q; omega)]
        rfl
      · show F_X10_proper z (q_i x) (q_i n) = _
        unfold F_X10_proper
        have e0 : q_u2 z.1 128 3 0 128 0 = q_i s.1.1 := hz.1.1
        rw [p_X10_isPlace (z := (q_u2 z.1 128 3 0, z.2)) (n := s.2.1.1) hz.2.2.1.1 hsn hx, Option.bind_some, if_pos c]
        dsimp only
        rw [if_neg (by decide), hin, Option.bind_some]
        by_cases d1 : -20000 ≤ n ∧ n ≤ 20000
        · rw [if_pos d1]
          dsimp only
          rw [if_neg (by decide)]
          by_cases d3 : n = 0
          · rw [if_pos (k0.mpr d3)]; rfl
          rw [if_neg (fun q => d3 (k0.mp q))]
          have d4 : s.1.1 < 0 ∧ n < 0 := by omega
          rw [if_neg (fun q => by rw [e0] at q; have := kd.mp q; omega), if_neg (fun q => by have := kn.mp q; omega)]
          rfl
        · rw [if_neg d1]
          rfl
  · refine q_cok_t hv (-1) 2 (fun z hz => ⟨(q_u2 z.1 1 9 2, z.2), ?_, q_CW_t 2 (q_CW_rfl z), rfl⟩) (fun z hz => ⟨(q_u2 (q_u2 z.1 128 3 0) 128 2 2, z.2), ?_, q_MW_t (z2 := (q_u2 z.1 128 3 0, z.2)) 2 (by decide) (q_MW_t (z2 := z) 0 (by decide) (q_MW_rfl z)), rfl⟩)
    · unfold F_X9_proper
      rw [p_X6_at hz.2.2.1.1 hsn hx, Option.bind_some, if_neg c]
      rfl
    · unfold F_X10_proper
      rw [p_X10_isPlace (z := (q_u2 z.1 128 3 0, z.2)) (n := s.2.1.1) hz.2.2.1.1 hsn hx, Option.bind_some, if_neg c]
      rfl
