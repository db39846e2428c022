/-! step and reduce -/
theorem q_G_st {d R : Int} {f : q_f3} (hdc : q_dc d R) (h : q_G d f) : q_G d (q_st d R f) := by
  obtain ⟨h1, h2, h3, h4, h5⟩ := h
  refine ⟨q_F3_st hdc h1, ?_, h5, ?_, ?_⟩
  · obtain ⟨a, b, c⟩ := f
    have h1 : q_fm d a b c := h1
    have e1 := q_nb_t (d := d) (R := R) (b := b) h1.2.2.1
    have e2 := q_nc_eq (d := d) (R := R) h1.2.2.1 h1.1
    show Int.gcd (Int.gcd c (q_nb d R b c)) (q_nc d R b c) = 1
    generalize hg : Int.gcd (Int.gcd c (q_nb d R b c)) (q_nc d R b c) = g
    generalize q_tt2 d R b c = t at e1 e2
    have d3 : (g : Int) ∣ q_nc d R b c := by rw [← hg]; exact Int.gcd_dvd_right ..
    have d0 : (g : Int) ∣ (Int.gcd c (q_nb d R b c) : Int) := by rw [← hg]; exact Int.gcd_dvd_left ..
    have d1 : (g : Int) ∣ c := Int.dvd_trans d0 (Int.gcd_dvd_left ..)
    have d2 : (g : Int) ∣ q_nb d R b c := Int.dvd_trans d0 (Int.gcd_dvd_right ..)
    have db : (g : Int) ∣ b := by
      have : b = c * (2 * t) - q_nb d R b c := by grind
      rw [this]
      exact Int.dvd_sub (Int.dvd_mul_of_dvd_left d1) d2
    have da : (g : Int) ∣ a := by
      have : a = q_nc d R b c + (b * t - c * (t * t)) := by grind
      rw [this]
      exact Int.dvd_add d3 (Int.dvd_sub (Int.dvd_mul_of_dvd_left db) (Int.dvd_mul_of_dvd_left d1))
    have h2 : Int.gcd (Int.gcd a b) c = 1 := h2
    have dd : (g : Int) ∣ (Int.gcd (Int.gcd a b) c : Int) := Int.dvd_coe_gcd (Int.dvd_coe_gcd da db) d1
    rw [h2] at dd
    have : g ∣ 1 := Int.natCast_dvd_natCast.mp dd
    exact Nat.dvd_one.mp this
  · have hR := q_dc_R hdc
    have := q_nb_abs (b := f.2.1) hdc h1
    obtain ⟨a1, a2⟩ := h5
    show -1000000 ≤ q_nb d R f.2.1 f.2.2 ∧ q_nb d R f.2.1 f.2.2 ≤ 1000000
    omega
  · have := q_nc_le (b := f.2.1) hdc h1
    obtain ⟨a1, a2⟩ := h5
    show -1000000 ≤ q_nc d R f.2.1 f.2.2 ∧ q_nc d R f.2.1 f.2.2 ≤ 1000000
    omega
theorem q_G_its {d R : Int} (hdc : q_dc d R) : ∀ (n : Nat) (f : q_f3), q_G d f → q_G d (q_its d R n f)
  | 0, _, h => h
  | n + 1, f, h => q_G_its hdc n (q_st d R f) (q_G_st hdc h)
theorem q_push_s (e : Int × q_f3) (lg : Nat → Int × q_f3) : (fun i => q_push e lg (i + 1)) = lg := by
  funext i
  show (if i + 1 = 0 then e else lg (i + 1 - 1)) = lg i
  rw [if_neg (by omega)]
  rfl
theorem q_Vl_push {n m : Nat} {e : Int × q_f3} {lg : Nat → Int × q_f3} (h : q_Vl n (m + 1) (q_push e lg)) (hm : m ≤ 60) : q_Vl n (min (m + 1) 60) (q_push e lg) := by
  by_cases c : m = 60
  · subst c
    exact q_Vl_less 60 n _ h
  · rw [show min (m + 1) 60 = m + 1 by omega]
    exact h
theorem q_w7_ns (L : Nat → Nat → Int64) (f : q_f3) (w : q_W4) : q_u2 (q_u2 (q_u2 (q_u2 (q_w7 L f w) 128 15 1) 128 16 0) 128 17 0) 128 18 1 = q_w7 L f (1, 0, 0, 1) := by
  funext n k
  by_cases hn : n = 128
  · subst hn
    simp only [q_w7, q_u2, if_true]
    by_cases h14 : k = 14
    · subst h14; simp
    · by_cases h13 : k = 13
      · subst h13; simp
      · by_cases h12 : k = 12
        · subst h12; simp
        · by_cases h18 : k = 18
          · subst h18; simp
          · by_cases h17 : k = 17
            · subst h17; simp
            · by_cases h16 : k = 16
              · subst h16; simp
              · by_cases h15 : k = 15
                · subst h15; simp
                · simp [h14, h13, h12, h18, h17, h16, h15]
  · simp [q_w7, q_u2, hn]
theorem p_X10_noSteps {I : Nat → Nat → Int32} {L : Nat → Nat → Int64} {f : q_f3} {w : q_W4} : F_X10_noSteps (I, q_w7 L f w) = some ((), (I, q_w7 L f (1, 0, 0, 1))) := by
  unfold F_X10_noSteps
  dsimp only
  rw [q_w7_ns]
theorem p_X10_keepWay {I : Nat → Nat → Int32} {L : Nat → Nat → Int64} {f : q_f3} {w : q_W4} : F_X10_keepWay (I, q_w7 L f w) = some ((), (I, q_v4 (q_w7 L f w) 131 w)) := by
  unfold F_X10_keepWay
  rw [if_pos (by decide), if_pos (by decide), if_pos (by decide), if_pos (by decide)]
  rfl
theorem p_X10_lay {I : Nat → Nat → Int32} {L : Nat → Nat → Int64} {x : Int} (h0 : 0 ≤ x) (h1 : x < 40) : F_X10_lay (I, L) (q_i x) = some ((), (I, q_u2 (q_u2 (q_u2 L 129 (3 * x.toNat) (L 128 12)) 129 (3 * x.toNat + 1) (L 128 13)) 129 (3 * x.toNat + 2) (L 128 14))) := by
  unfold F_X10_lay
  dsimp only
  rw [show (3 : Int32) = q_i 3 from rfl, q_i1, show (2 : Int32) = q_i 2 from rfl, q_i_mul, q_i_add, q_i_add, q_i_toInt ⟨by omega, by omega⟩, q_i_toInt ⟨by omega, by omega⟩, q_i_toInt ⟨by omega, by omega⟩, if_pos (by omega), if_pos (by omega), if_pos (by omega), q_clamp ⟨by omega, by omega⟩, q_clamp ⟨by omega, by omega⟩, q_clamp ⟨by omega, by omega⟩, show (3 * x).toNat = 3 * x.toNat by omega, show (3 * x + 1).toNat = 3 * x.toNat + 1 by omega, show (3 * x + 2).toNat = 3 * x.toNat + 2 by omega]
theorem q_lay_at (L : Nat → Nat → Int64) (x : Nat) (a b c : Int64) (k : Nat) : q_u2 (q_u2 (q_u2 L 129 (3 * x) a) 129 (3 * x + 1) b) 129 (3 * x + 2) c 129 k = if k = 3 * x + 2 then c else if k = 3 * x + 1 then b else if k = 3 * x then a else L 129 k := by
  rw [q_u2_at, q_u2_at, q_u2_at]
theorem q_lay_ne {L : Nat → Nat → Int64} {x : Nat} {a b c : Int64} {n : Nat} (h : n ≠ 129) : q_u2 (q_u2 (q_u2 L 129 (3 * x) a) 129 (3 * x + 1) b) 129 (3 * x + 2) c n = L n := by
  rw [q_u2_ne h, q_u2_ne h, q_u2_ne h]
theorem q_lay_sh {L : Nat → Nat → Int64} {n x : Nat} {sh : Nat → q_f3} {g : q_f3} (h : ∀ i, i < n → i ≠ x → q_3 (L 129) (3 * i) (sh i)) : ∀ i, i < n → q_3 (q_u2 (q_u2 (q_u2 L 129 (3 * x) (q_l g.1)) 129 (3 * x + 1) (q_l g.2.1)) 129 (3 * x + 2) (q_l g.2.2) 129) (3 * i) (q_put sh x g i) := by
  intro i hi
  unfold q_put
  by_cases c : i = x
  · rw [if_pos c]
    subst c
    refine ⟨?_, ?_, ?_⟩
    · rw [q_lay_at, if_neg (by omega), if_neg (by omega), if_pos rfl]
    · rw [q_lay_at, if_neg (by omega), if_pos rfl]
    · rw [q_lay_at, if_pos rfl]
  · rw [if_neg c]
    obtain ⟨e1, e2, e3⟩ := h i hi c
    refine ⟨?_, ?_, ?_⟩
    · rw [q_lay_at, if_neg (by omega), if_neg (by omega), if_neg (by omega)]
      exact e1
    · rw [q_lay_at, if_neg (by omega), if_neg (by omega), if_neg (by omega)]
      exact e2
    · rw [q_lay_at, if_neg (by omega), if_neg (by omega), if_neg (by omega)]
      exact e3
/-- the state behind step or reduce -/
def q_s_go (s : q_SS) (x : Nat) (g : q_f3) (w : q_W4) : q_SS := ((s.1.1, s.1.2.1, 0), (s.2.1.1, q_put s.2.1.2 x g), (min (s.2.2.1.1 + 1) 60, q_push ((x : Int), s.2.1.2 x) s.2.2.1.2), w, s.2.2.2.2)
theorem q_V_go {s : q_SS} {x : Nat} {g : q_f3} {w : q_W4} (hv : q_V s) (hx : x < s.2.1.1) (hg : q_G s.1.1 g) : q_V (q_s_go s x g w) := by
  obtain ⟨v1, v2, v3, v4, v5, v6, v7, v8⟩ := hv
  refine ⟨v1, v2, v3, by show min (s.2.2.1.1 + 1) 60 ≤ 60; omega, v5, ?_, ?_, ?_⟩
  · intro i hi
    show q_G s.1.1 (q_put s.2.1.2 x g i)
    unfold q_put
    split
    · exact hg
    · exact v6 i hi
  · intro i hi hne
    have hi : i < min (s.2.2.1.1 + 1) 60 := hi
    cases i with
    | zero => exact v6 x hx
    | succ j => exact v7 j (by omega) hne
  · refine q_Vl_push (Or.inr ⟨?_, ?_, ?_⟩) v4
    · show (0 : Int) ≤ (x : Int); omega
    · show (x : Int) < (s.2.1.1 : Int); omega
    · rw [q_push_s]
      exact v8
theorem q_C_go {s : q_SS} {z z7 : q_Z} {x : Nat} {g : q_f3} {w : q_W4} (hv : q_V s) (hz : q_C s z) (hx : x < s.2.1.1) (h1 : q_Cl (min (s.2.2.1.1 + 1) 60) (q_push ((x : Int), s.2.1.2 x) s.2.2.1.2) z7) (h2 : ∀ n, n ≠ 17 → n ≠ 120 → z7.1 n = z.1 n) (h3 : ∀ k, k ≠ 4 → k ≠ 5 → z7.1 17 k = z.1 17 k) (h4 : ∀ n, (n < 60 ∨ 120 ≤ n) → z7.2 n = z.2 n) : q_C (q_s_go s x g w) (q_u2 z7.1 1 9 0, q_v4 (q_v3 z7.2 (19 + x) g) 121 w) ∧ q_fC z (q_u2 z7.1 1 9 0, q_v4 (q_v3 z7.2 (19 + x) g) 121 w) := by
  have hn := hv.2.2.1
  obtain ⟨c1, c2, c3, c4, c5, c6, c7⟩ := hz
  have I1 : ∀ n, n ≠ 1 → q_u2 z7.1 1 9 0 n = z7.1 n := fun n hn => q_u2_ne hn
  refine ⟨⟨q_Cg_fr c1 ?_, rfl, ⟨?_, ?_⟩, q_Cl_fr h1 ?_ ?_ ?_ ?_, q_v4_at (q_v3 z7.2 (19 + x) g) 121 w, q_Co_fr c6 ?_ ?_ ?_, q_Ctab_fr c7 ?_⟩, ?_⟩
  · show q_u2 z7.1 1 9 0 4 = z.1 4
    rw [I1 4 (by decide), h2 4 (by decide) (by decide)]
  · show q_u2 z7.1 1 9 0 17 3 = _
    rw [I1 17 (by decide), h3 3 (by decide) (by decide)]
    exact c3.1
  · intro i hi
    have hi : i < s.2.1.1 := hi
    show q_3 (q_v4 (q_v3 z7.2 (19 + x) g) 121 w (19 + i)) 0 (q_put s.2.1.2 x g i)
    rw [q_v4_ne (by omega)]
    unfold q_put
    by_cases c : i = x
    · rw [if_pos c, c]
      exact q_v3_3 _ _ _
    · rw [if_neg c, q_v3_ne (by omega), h4 _ (by omega)]
      exact c3.2 i hi
  · show q_u2 z7.1 1 9 0 17 4 = _
    rw [I1 17 (by decide)]
  · show q_u2 z7.1 1 9 0 17 5 = _
    rw [I1 17 (by decide)]
  · show q_u2 z7.1 1 9 0 120 = _
    rw [I1 120 (by decide)]
  · intro i hi
    show q_v4 (q_v3 z7.2 (19 + x) g) 121 w (60 + i) = _
    rw [q_v4_ne (by omega), q_v3_ne (by omega)]
  · show q_u2 z7.1 1 9 0 122 = _
    rw [I1 122 (by decide), h2 122 (by decide) (by decide)]
  · show q_u2 z7.1 1 9 0 123 = _
    rw [I1 123 (by decide), h2 123 (by decide) (by decide)]
  · show q_u2 z7.1 1 9 0 124 = _
    rw [I1 124 (by decide), h2 124 (by decide) (by decide)]
  · intro n a1 a2 a3
    show q_u2 z7.1 1 9 0 n = _
    rw [I1 n a2, h2 n (by omega) (by omega)]
  · intro n hn
    refine ⟨?_, ?_⟩
    · show q_u2 z7.1 1 9 0 n = _
      rw [I1 n (by omega), h2 n (by omega) (by omega)]
    · show q_v4 (q_v3 z7.2 (19 + x) g) 121 w n = _
      rw [q_v4_ne (by omega), q_v3_ne (by omega), h4 n (by omega)]
theorem q_M_go {s : q_SS} {z : q_Z} {x : Nat} {g : q_f3} {w : q_W4} {I2 : Nat → Nat → Int32} {L2 : Nat → Nat → Int64} (hv : q_V s) (hz : q_M s z) (hx : x < s.2.1.1) (h1 : q_Ml (min (s.2.2.1.1 + 1) 60) (q_push ((x : Int), s.2.1.2 x) s.2.2.1.2) (I2, L2)) (h2 : ∀ k, k ≠ 128 → I2 k = q_u2 (q_u2 z.1 128 3 0) 128 2 0 k) (h3 : ∀ k, k ≠ 7 → I2 128 k = q_u2 (q_u2 z.1 128 3 0) 128 2 0 128 k) (h4 : ∀ k, k ≠ 130 → L2 k = z.2 k) : q_M (q_s_go s x g w) (I2, q_u2 (q_u2 (q_u2 (q_v4 (q_w7 L2 g w) 131 w) 129 (3 * x) (q_l g.1)) 129 (3 * x + 1) (q_l g.2.1)) 129 (3 * x + 2) (q_l g.2.2)) ∧ q_fM z (I2, q_u2 (q_u2 (q_u2 (q_v4 (q_w7 L2 g w) 131 w) 129 (3 * x) (q_l g.1)) 129 (3 * x + 1) (q_l g.2.1)) 129 (3 * x + 2) (q_l g.2.2)) := by
  have hn := hv.2.2.1
  obtain ⟨c1, c2, c3, c4, c5, c6, c7⟩ := hz
  have J1 : ∀ k, k ≠ 128 → I2 k = z.1 k := by
    intro k hk
    rw [h2 k hk, q_u2_ne hk, q_u2_ne hk]
  have J2 : ∀ k, k ≠ 7 → k ≠ 2 → k ≠ 3 → I2 128 k = z.1 128 k := by
    intro k a1 a2 a3
    rw [h3 k a1, q_u2_at, if_neg a2, q_u2_at, if_neg a3]
  have w7 : ∀ k, k ≠ 128 → q_w7 L2 g w k = L2 k := by
    intro k hk
    funext j
    simp [q_w7, q_u2, hk]
  have K : ∀ k, k ≠ 128 → k ≠ 129 → k ≠ 131 → q_u2 (q_u2 (q_u2 (q_v4 (q_w7 L2 g w) 131 w) 129 (3 * x) (q_l g.1)) 129 (3 * x + 1) (q_l g.2.1)) 129 (3 * x + 2) (q_l g.2.2) k = L2 k := by
    intro k a1 a2 a3
    rw [q_lay_ne a2, q_v4_ne a3, w7 k a1]
  refine ⟨⟨q_Mg_fr c1 (J2 0 (by decide) (by decide) (by decide)) (J2 1 (by decide) (by decide) (by decide)), ?_, ⟨?_, ?_⟩, q_Ml_fr h1 rfl (K 130 (by decide) (by decide) (by decide)), ?_, q_Mo_fr c6 (J2 11 (by decide) (by decide) (by decide)) (J1 132 (by decide)) (J1 133 (by decide)), q_Mtab_fr c7 (J2 22 (by decide) (by decide) (by decide)) (J2 23 (by decide) (by decide) (by decide)) (fun n a1 a2 => J1 n (by omega))⟩, ?_⟩
  · show I2 128 2 = 0
    rw [h3 2 (by decide)]
    rfl
  · exact (J2 6 (by decide) (by decide) (by decide)).trans c3.1
  · refine q_lay_sh (n := s.2.1.1) (fun i hi hne => ?_)
    rw [q_v4_ne (by decide), w7 129 (by decide), h4 129 (by decide)]
    exact c3.2 i hi
  · have e : q_u2 (q_u2 (q_u2 (q_v4 (q_w7 L2 g w) 131 w) 129 (3 * x) (q_l g.1)) 129 (3 * x + 1) (q_l g.2.1)) 129 (3 * x + 2) (q_l g.2.2) 131 = q_v4 (q_w7 L2 g w) 131 w 131 := q_lay_ne (by decide)
    exact q_Mw_fr (z := (I2, q_v4 (q_w7 L2 g w) 131 w)) (q_v4_at (q_w7 L2 g w) 131 w) e
  · intro n hn
    refine ⟨J1 n (by omega), ?_⟩
    show q_u2 _ 129 _ _ n = _
    rw [K n (by omega) (by omega) (by omega), h4 n (by omega)]
theorem k_reduce {s : q_SS} (hv : q_V s) (l1 : Int32) : q_cok (fun z => F_X9_reduce z l1) (fun z => F_X10_reduce z l1) s := by
  obtain ⟨x, hx, rfl⟩ := q_i_of l1
  have hn := hv.2.2.1
  by_cases c : 0 ≤ x ∧ x < s.2.1.1
  · obtain ⟨X, rfl⟩ : ∃ X : Nat, x = X := ⟨x.toNat, by omega⟩
    have hX : X < s.2.1.1 := by omega
    have hG := hv.2.2.2.2.2.1 X hX
    obtain ⟨n, n1, n2, n3⟩ := q_first hv.1 hG.1 (by have := hG.2.2.2.2.1; have := hG.2.2.2.2.2; omega)
    refine ⟨q_i n, q_s_go s X (q_its s.1.1 s.1.2.1 n (s.2.1.2 X)) (q_itw s.1.1 s.1.2.1 n (s.2.1.2 X) (1, 0, 0, 1)), q_V_go hv hX (q_G_its hv.1 n _ hG), fun z hz => ?_, fun z hz => ?_⟩
    · have h3 := hz.2.2.1.2 X hX
      obtain ⟨z7, a1, a2, a3, a4, a5⟩ := p_X6_remember (o := 19 + X) (p := (X : Int)) hz.2.2.2.1 hv.2.2.2.1 h3
      refine ⟨_, ?_, q_C_go hv hz hX a2 a3 a4 a5⟩
      show F_X9_reduce z (q_i X) = _
      unfold F_X9_reduce
      rw [p_X6_at hz.2.2.1.1 hn hx, Option.bind_some, if_pos c]
      dsimp only
      rw [show ((X : Int)).toNat = X by omega, a1, Option.bind_some]
      dsimp only
      have e3 : z7.2 = q_v3 z7.2 (19 + X) (s.2.1.2 X) := by
        rw [← a5 (19 + X) (by omega)] at h3
        exact q_v3_self h3.1 h3.2.1 h3.2.2
      have el := p_X2_lead (I := z7.1) (L := z7.2) (o := 19 + X) (p := 121) (by omega) (by rw [a3 4 (by decide) (by decide)]; exact hz.1.1) (by rw [a3 4 (by decide) (by decide)]; exact hz.1.2) hv.1 hG.1 (q_G_s3 hG) n1 n2 n3
      rw [← e3] at el
      have el : F_X2_lead (19 + X) 121 z7 = _ := el
      rw [el, Option.bind_some]
      rfl
    · have hM := hz.2.2.2.1
      obtain ⟨I2, L2, a1, a2, a3, a4, a5⟩ := p_X10_act (I := q_u2 (q_u2 z.1 128 3 0) 128 2 0) (L := z.2) (n := s.2.1.1) (sh := s.2.1.2) (p := (X : Int)) (f := s.2.1.2 X) (q_Ml_fr hM rfl rfl) hv.2.2.2.1 hn hz.2.2.1.2 (Or.inr ⟨by omega, by omega, by rw [show ((X : Int)).toNat = X by omega]⟩)
      refine ⟨_, ?_, q_M_go hv hz hX a2 a3 a4 a5⟩
      show F_X10_reduce z (q_i X) = _
      unfold F_X10_reduce
      rw [p_X10_isPlace (z := (q_u2 z.1 128 3 0, z.2)) (n := s.2.1.1) hz.2.2.1.1 hn hx, Option.bind_some, if_pos c]
      dsimp only
      rw [if_neg (by decide), a1, Option.bind_some]
      dsimp only
      rw [p_X10_take (z := (I2, L2)) (n := s.2.1.1) (sh := s.2.1.2) (by rw [show (I2, L2).2 129 = z.2 129 from a5 129 (by decide)]; exact hz.2.2.1.2) hn c.1 c.2, Option.bind_some, show ((X : Int)).toNat = X by omega]
      dsimp only
      rw [p_X10_noSteps, Option.bind_some]
      dsimp only
      rw [p_X10_reduces (by rw [a4 0 (by decide)]; exact hz.1.1) (by rw [a4 1 (by decide)]; exact hz.1.2) hv.1 hG.1 (q_G_s3 hG) n1 n2 n3, Option.bind_some]
      dsimp only
      rw [p_X10_keepWay, Option.bind_some]
      dsimp only
      rw [p_X10_lay (by omega) (by omega), Option.bind_some, show ((X : Int)).toNat = X by omega]
      rfl
  · refine q_cok_t hv (-1) 2 (fun z hz => ⟨(q_u2 z.1 1 9 2, z.2), ?_, q_CW_t 2 (q_CW_rfl z), rfl⟩) (fun z hz => ⟨(q_u2 (q_u2 z.1 128 3 0) 128 2 2, z.2), ?_, q_MW_t (z2 := (q_u2 z.1 128 3 0, z.2)) 2 (by decide) (q_MW_t (z2 := z) 0 (by decide) (q_MW_rfl z)), rfl⟩)
    · unfold F_X9_reduce
      rw [p_X6_at hz.2.2.1.1 hn hx, Option.bind_some, if_neg c]
      rfl
    · unfold F_X10_reduce
      rw [p_X10_isPlace (z := (q_u2 z.1 128 3 0, z.2)) (n := s.2.1.1) hz.2.2.1.1 hn hx, Option.bind_some, if_neg c]
      rfl
theorem k_step {s : q_SS} (hv : q_V s) (l1 : Int32) : q_cok (fun z => F_X9_step z l1) (fun z => F_X10_step z l1) s := by
  obtain ⟨x, hx, rfl⟩ := q_i_of l1
  have hn := hv.2.2.1
  by_cases c : 0 ≤ x ∧ x < s.2.1.1
  · obtain ⟨X, rfl⟩ : ∃ X : Nat, x = X := ⟨x.toNat, by omega⟩
    have hX : X < s.2.1.1 := by omega
    have hG := hv.2.2.2.2.2.1 X hX
    refine ⟨1, q_s_go s X (q_st s.1.1 s.1.2.1 (s.2.1.2 X)) (q_wst (q_tt2 s.1.1 s.1.2.1 (s.2.1.2 X).2.1 (s.2.1.2 X).2.2) (1, 0, 0, 1)), q_V_go hv hX (q_G_st hv.1 hG), fun z hz => ?_, fun z hz => ?_⟩
    · have h3 := hz.2.2.1.2 X hX
      obtain ⟨z7, a1, a2, a3, a4, a5⟩ := p_X6_remember (o := 19 + X) (p := (X : Int)) hz.2.2.2.1 hv.2.2.2.1 h3
      refine ⟨_, ?_, q_C_go hv hz hX a2 a3 a4 a5⟩
      show F_X9_step z (q_i X) = _
      unfold F_X9_step
      rw [p_X6_at hz.2.2.1.1 hn hx, Option.bind_some, if_pos c]
      dsimp only
      rw [show ((X : Int)).toNat = X by omega, a1, Option.bind_some]
      dsimp only
      have er : F_X8_reset 121 z7 = some ((), (z7.1, q_v4 z7.2 121 (1, 0, 0, 1))) := rfl
      rw [er, Option.bind_some]
      dsimp only
      have e3 : q_v4 z7.2 121 (1, 0, 0, 1) = q_v3 (q_v4 z7.2 121 (1, 0, 0, 1)) (19 + X) (s.2.1.2 X) := by
        have h3 := h3
        rw [← a5 (19 + X) (by omega), ← q_v4_ne (L := z7.2) (o := 121) (w := (1, 0, 0, 1)) (show 19 + X ≠ 121 by omega)] at h3
        exact q_v3_self h3.1 h3.2.1 h3.2.2
      have el := p_X2_advance3 (I := z7.1) (L := q_v4 z7.2 121 (1, 0, 0, 1)) (o := 19 + X) (by rw [a3 4 (by decide) (by decide)]; exact hz.1.1) (by rw [a3 4 (by decide) (by decide)]; exact hz.1.2) hv.1 hG.1 (q_G_s3 hG)
      rw [← e3] at el
      rw [el, Option.bind_some, q_v34 (by omega)]
      dsimp only
      rw [p_X8_follow, Option.bind_some]
      rfl
    · have hM := hz.2.2.2.1
      obtain ⟨I2, L2, a1, a2, a3, a4, a5⟩ := p_X10_act (I := q_u2 (q_u2 z.1 128 3 0) 128 2 0) (L := z.2) (n := s.2.1.1) (sh := s.2.1.2) (p := (X : Int)) (f := s.2.1.2 X) (q_Ml_fr hM rfl rfl) hv.2.2.2.1 hn hz.2.2.1.2 (Or.inr ⟨by omega, by omega, by rw [show ((X : Int)).toNat = X by omega]⟩)
      refine ⟨_, ?_, q_M_go hv hz hX a2 a3 a4 a5⟩
      show F_X10_step z (q_i X) = _
      unfold F_X10_step
      rw [p_X10_isPlace (z := (q_u2 z.1 128 3 0, z.2)) (n := s.2.1.1) hz.2.2.1.1 hn hx, Option.bind_some, if_pos c]
      dsimp only
      rw [if_neg (by decide), a1, Option.bind_some]
      dsimp only
      rw [p_X10_take (z := (I2, L2)) (n := s.2.1.1) (sh := s.2.1.2) (by rw [show (I2, L2).2 129 = z.2 129 from a5 129 (by decide)]; exact hz.2.2.1.2) hn c.1 c.2, Option.bind_some, show ((X : Int)).toNat = X by omega]
      dsimp only
      rw [p_X10_noSteps, Option.bind_some]
      dsimp only
      rw [p_X10_steps7 (by rw [a4 0 (by decide)]; exact hz.1.1) (by rw [a4 1 (by decide)]; exact hz.1.2) hv.1 hG.1 (q_G_s3 hG), Option.bind_some]
      dsimp only
      rw [p_X10_keepWay, Option.bind_some]
      dsimp only
      rw [p_X10_lay (by omega) (by omega), Option.bind_some, show ((X : Int)).toNat = X by omega]
      rfl
  · refine q_cok_t hv (-1) 2 (fun z hz => ⟨(q_u2 z.1 1 9 2, z.2), ?_, q_CW_t 2 (q_CW_rfl z), rfl⟩) (fun z hz => ⟨(q_u2 (q_u2 z.1 128 3 0) 128 2 2, z.2), ?_, q_MW_t (z2 := (q_u2 z.1 128 3 0, z.2)) 2 (by decide) (q_MW_t (z2 := z) 0 (by decide) (q_MW_rfl z)), rfl⟩)
    · unfold F_X9_step
      rw [p_X6_at hz.2.2.1.1 hn hx, Option.bind_some, if_neg c]
      rfl
    · unfold F_X10_step
      rw [p_X10_isPlace (z := (q_u2 z.1 128 3 0, z.2)) (n := s.2.1.1) hz.2.2.1.1 hn hx, Option.bind_some, if_neg c]
      rfl
