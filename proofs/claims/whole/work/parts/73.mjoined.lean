/-! joined() of the reference -/
theorem q_tmod_dvd (x m : Int) : m ∣ x - x.tmod m := ⟨x.tdiv m, by have := Int.tmod_add_mul_tdiv x m; omega⟩
theorem p_X10_joined {d R : Int} {z : q_Z} {i j : Nat} (hdc : q_dc d R) (h4 : q_d4 d) (hg : q_Mg d R z) (hM : q_Mtab d R z) (hi : i < q_nc2 d R) (hj : j < q_nc2 d R) : ∃ k L2, -q_jA (q_hd d R i) (q_hd d R j) < k ∧ k < q_jA (q_hd d R i) (q_hd d R j) ∧ q_fits (q_jA (q_hd d R i) (q_hd d R j)) (q_jB (q_hd d R i) (q_hd d R j)) (q_jS (q_hd d R i) (q_hd d R j)) (q_jn (q_hd d R i) (q_hd d R j)) (q_hd d R j).2.2 k ∧ F_X10_joined z (q_i i) (q_i j) = some (q_i (q_kls d R (q_red d R (q_j3 d (q_hd d R i) (q_hd d R j) k))), (z.1, L2)) ∧ ∀ m, m ≠ 128 → L2 m = z.2 m := by
  have hle := q_nc2_le hdc h4
  obtain ⟨N, M, m0, m1, m2, m3, m4, m5, m6, m7, m8, m9⟩ := id hM
  obtain ⟨hf, ha⟩ := q_hd_LF hdc h4 hi
  obtain ⟨hg2, hb⟩ := q_hd_LF hdc h4 hj
  obtain ⟨r7, r8⟩ := m9 i hi
  obtain ⟨t7, t8⟩ := m9 j hj
  obtain ⟨f, ef⟩ : ∃ f, f = q_hd d R i := ⟨_, rfl⟩
  obtain ⟨g, eg⟩ : ∃ g, g = q_hd d R j := ⟨_, rfl⟩
  rw [← ef] at hf ha r7 r8
  rw [← eg] at hg2 hb t7 t8
  rw [← ef, ← eg]
  obtain ⟨j1, j2, j3, j4, j5, j6, j7, j8, j9, j10, j11, j12⟩ := q_j_all hdc hf hg2 ha hb
  have bf := q_LF_b hdc hf
  have bg := q_LF_b hdc hg2
  have bc := (q_LF_G hdc hg2).2.2.2.2
  have hdb : -4000 ≤ d ∧ d ≤ 4000 := by rcases hdc with q | q <;> omega
  obtain ⟨s, hs⟩ : ∃ s, s = (f.2.1 + g.2.1) / 2 := ⟨_, rfl⟩
  obtain ⟨c0, hc0⟩ : ∃ c0 : Nat, c0 = Int.gcd f.1 g.1 := ⟨_, rfl⟩
  have he : q_je f g = (Int.gcd (c0 : Int) s : Int) := by rw [hc0, hs]; rfl
  have hc0p : 0 < (c0 : Int) ∧ (c0 : Int) ≤ 63 := by
    have h1 : c0 ∣ f.1.natAbs := by rw [hc0]; exact Nat.gcd_dvd_left _ _
    have h2 := Nat.le_of_dvd (by omega) h1
    have h3 := Nat.pos_of_dvd_of_pos h1 (by omega)
    omega
  rw [← hs] at j5
  have hsb : -63 ≤ s ∧ s ≤ 63 := by omega
  have hev : (2 : Int) ∣ f.2.1 + g.2.1 := by
    have e1 := q_even_b hf.1.1
    have e2 := q_even_b hg2.1.1
    omega
  have hev2 : (2 : Int) ∣ f.2.1 - g.2.1 := by omega
  have hmid : (q_l f.2.1 + q_l g.2.1) / 2 = q_l s := by
    have e1 : (f.2.1 + g.2.1).tdiv 2 = s := by rw [hs]; exact q_tdiv_ex hev
    rw [q_l_add, q_l2, q_l_div ⟨by omega, by omega⟩ (by decide) (by rw [e1]; exact ⟨by omega, by omega⟩), e1]
  have hnb : -63 ≤ q_jn f g ∧ q_jn f g ≤ 63 := by unfold q_jn; omega
  have hdif : (q_l f.2.1 - q_l g.2.1) / 2 = q_l (q_jn f g) := by
    have e1 : (f.2.1 - g.2.1).tdiv 2 = q_jn f g := q_tdiv_ex hev2
    rw [q_l_sub, q_l2, q_l_div ⟨by omega, by omega⟩ (by decide) (by rw [e1]; exact ⟨by omega, by omega⟩), e1]
  have isf := p_X10_isFormLF hdc hg hg2
  obtain ⟨L1, hL1⟩ : ∃ L1, L1 = q_w7 z.2 g (z.2 128 15, z.2 128 16, z.2 128 17, z.2 128 18) := ⟨_, rfl⟩
  have l14 : L1 128 14 = q_l g.2.2 := by rw [hL1]; rfl
  have l1n : ∀ m, m ≠ 128 → L1 m = z.2 m := fun m hm => by rw [hL1]; exact q_w7_ne hm
  rw [← hL1] at isf
  obtain ⟨u, v, a1, a2, a3, a4⟩ := p_X10_common (z := (z.1, L1)) (a := f.1) (b := g.1) ⟨ha, by omega⟩ ⟨by omega, by omega⟩
  rw [← hc0] at a1 a2
  obtain ⟨L2, hL2⟩ : ∃ L2, L2 = q_u2 (q_u2 (q_u2 L1 128 26 (q_l (c0 : Int))) 128 27 (q_l u)) 128 28 (q_l v) := ⟨_, rfl⟩
  have x26 : L2 128 26 = q_l (c0 : Int) := by rw [hL2]; rfl
  have x28 : L2 128 28 = q_l v := by rw [hL2]; rfl
  have l2n : ∀ m, m ≠ 128 → L2 m = z.2 m := fun m hm => by rw [hL2, q_u2_ne hm, q_u2_ne hm, q_u2_ne hm]; exact l1n m hm
  have a1 : F_X10_common (z.1, L1) (q_l f.1) (q_l g.1) = some ((), (z.1, L2)) := by rw [hL2]; exact a1
  obtain ⟨gu, gv, b1, b2, b3, b4⟩ := p_X10_common (z := (z.1, L2)) (a := (c0 : Int)) (b := s) hc0p ⟨by omega, by omega⟩
  rw [← he] at b1 b2
  obtain ⟨L3, hL3⟩ : ∃ L3, L3 = q_u2 (q_u2 (q_u2 L2 128 26 (q_l (q_je f g))) 128 27 (q_l gu)) 128 28 (q_l gv) := ⟨_, rfl⟩
  have w26 : L3 128 26 = q_l (q_je f g) := by rw [hL3]; rfl
  have w27 : L3 128 27 = q_l gu := by rw [hL3]; rfl
  have w28 : L3 128 28 = q_l gv := by rw [hL3]; rfl
  have l3n : ∀ m, m ≠ 128 → L3 m = z.2 m := fun m hm => by rw [hL3, q_u2_ne hm, q_u2_ne hm, q_u2_ne hm]; exact l2n m hm
  have b1 : F_X10_common (z.1, L2) (q_l (c0 : Int)) (q_l s) = some ((), (z.1, L3)) := by rw [hL3]; exact b1
  have hlA : q_l f.1 / q_l (q_je f g) = q_l (q_jA f g) := by
    have e1 : f.1.tdiv (q_je f g) = q_jA f g := by rw [Int.tdiv_eq_ediv_of_nonneg (by omega)]; rfl
    rw [q_l_div ⟨by omega, by omega⟩ ⟨by omega, by omega⟩ (by rw [e1]; exact ⟨by omega, by omega⟩), e1]
  have hlB : q_l g.1 / q_l (q_je f g) = q_l (q_jB f g) := by
    have e1 : g.1.tdiv (q_je f g) = q_jB f g := by rw [Int.tdiv_eq_ediv_of_nonneg (by omega)]; rfl
    rw [q_l_div ⟨by omega, by omega⟩ ⟨by omega, by omega⟩ (by rw [e1]; exact ⟨by omega, by omega⟩), e1]
  have rem : ∀ x : Int, -1000000000 ≤ x ∧ x ≤ 1000000000 → q_l x - q_l x / q_l (q_jA f g) * q_l (q_jA f g) = q_l (x.tmod (q_jA f g)) := fun x hx => q_l_rem ⟨by omega, by omega⟩ ⟨by omega, by omega⟩ (q_tdivB ⟨by omega, by omega⟩ ⟨by omega, by omega⟩)
  have tb : ∀ x : Int, -63 < x.tmod (q_jA f g) ∧ x.tmod (q_jA f g) < 63 ∧ -q_jA f g < x.tmod (q_jA f g) ∧ x.tmod (q_jA f g) < q_jA f g := by
    intro x
    have h1 : (x.tmod (q_jA f g)).natAbs < (q_jA f g).natAbs := by rw [Int.natAbs_tmod]; exact Nat.mod_lt _ (by omega)
    omega
  have hvg := q_mul_le (x := v) (y := gu) (M := 64) (N := 64) ⟨by omega, by omega⟩ ⟨by omega, by omega⟩ (by omega) (by omega)
  obtain ⟨X, hX⟩ : ∃ X, X = (v * gu).tmod (q_jA f g) * (q_jn f g).tmod (q_jA f g) - gv.tmod (q_jA f g) * g.2.2.tmod (q_jA f g) := ⟨_, rfl⟩
  have hXb : -1000000 ≤ X ∧ X ≤ 1000000 := by
    have t1 := tb (v * gu)
    have t2 := tb (q_jn f g)
    have t3 := tb gv
    have t4 := tb g.2.2
    have h1 := q_mul_le (x := (v * gu).tmod (q_jA f g)) (y := (q_jn f g).tmod (q_jA f g)) (M := 63) (N := 63) ⟨by omega, by omega⟩ ⟨by omega, by omega⟩ (by omega) (by omega)
    have h2 := q_mul_le (x := gv.tmod (q_jA f g)) (y := g.2.2.tmod (q_jA f g)) (M := 63) (N := 63) ⟨by omega, by omega⟩ ⟨by omega, by omega⟩ (by omega) (by omega)
    omega
  have fit : q_fits (q_jA f g) (q_jB f g) (q_jS f g) (q_jn f g) g.2.2 (X.tmod (q_jA f g)) := by
    refine q_fits_vw (c1 := f.2.2) (v := v * gu) (w := gv) j12 ?_ ?_
    · refine ⟨-(gu * u), ?_⟩
      refine Int.eq_of_mul_eq_mul_left (show q_je f g ≠ 0 by omega) ?_
      have h1 : q_je f g * (v * gu * q_jB f g + gv * q_jS f g - 1) = gu * (v * (q_je f g * q_jB f g)) + gv * (q_je f g * q_jS f g) - q_je f g := by grind
      have h2 : q_je f g * (q_jA f g * -(gu * u)) = -(gu * (u * (q_je f g * q_jA f g))) := by grind
      rw [h1, h2, ← j4, ← j5, ← j3]
      have h3 : gu * (u * f.1 + v * g.1) = gu * (c0 : Int) := by rw [a2]
      have h4 : gu * (u * f.1 + v * g.1) = gu * (u * f.1) + gu * (v * g.1) := by grind
      omega
    · obtain ⟨y1, e1⟩ := q_tmod_dvd X (q_jA f g)
      obtain ⟨y2, e2⟩ := q_tmod_dvd (v * gu) (q_jA f g)
      obtain ⟨y3, e3⟩ := q_tmod_dvd (q_jn f g) (q_jA f g)
      obtain ⟨y4, e4⟩ := q_tmod_dvd gv (q_jA f g)
      obtain ⟨y5, e5⟩ := q_tmod_dvd g.2.2 (q_jA f g)
      generalize (v * gu).tmod (q_jA f g) = p2 at hX e2
      generalize (q_jn f g).tmod (q_jA f g) = p3 at hX e3
      generalize gv.tmod (q_jA f g) = p4 at hX e4
      generalize g.2.2.tmod (q_jA f g) = p5 at hX e5
      generalize X.tmod (q_jA f g) = p1 at e1
      refine ⟨-y1 - y2 * p3 - (v * gu) * y3 + y4 * p5 + gv * y5, ?_⟩
      generalize q_jA f g = A at *
      generalize q_jn f g = n at *
      generalize v * gu = V at *
      generalize g.2.2 = C at *
      have q2 : p2 = V - A * y2 := by omega
      have q3 : p3 = n - A * y3 := by omega
      have q4 : p4 = gv - A * y4 := by omega
      have q5 : p5 = C - A * y5 := by omega
      have q1 : p1 = X - A * y1 := by omega
      rw [q1, hX, q2, q4]
      have z3 : n = p3 + A * y3 := by omega
      have z5 : C = p5 + A * y5 := by omega
      rw [z3, z5]
      grind
  have kb := tb X
  obtain ⟨o1, o2, o3, o4, o5⟩ := q_j3_G hdc hf hg2 ha hb fit ⟨by omega, by omega⟩
  have isf2 := p_X10_isForm_yes (z := (z.1, L3)) hg.1 hdb ⟨by have := o3.2.2.1.1; omega, by omega⟩ ⟨by omega, by omega⟩ o1.1 o1.2.1 o1.2.2
  rw [if_pos o2] at isf2
  have e2 := q_w7_take L3 (q_j3 d f g (X.tmod (q_jA f g)))
  have isf2 : F_X10_isForm (z.1, L3) (q_l (q_jA f g * q_jB f g)) (q_l (g.2.1 + 2 * q_jB f g * X.tmod (q_jA f g))) = some (1, (z.1, q_w7 L3 (q_j3 d f g (X.tmod (q_jA f g))) (L3 128 15, L3 128 16, L3 128 17, L3 128 18))) := by
    rw [← e2]
    exact isf2
  obtain ⟨w2, c1⟩ := p_X10_classHere (I := z.1) (L := L3) (w := (L3 128 15, L3 128 16, L3 128 17, L3 128 18)) hdc hg hM o3
  refine ⟨X.tmod (q_jA f g), q_w7 L3 (q_red d R (q_j3 d f g (X.tmod (q_jA f g)))) w2, kb.2.2.1, kb.2.2.2, fit, ?_, fun m hm => (q_w7_ne hm).trans (l3n m hm)⟩
  have n1 : ¬ q_l (q_je f g) = (0 : Int64) := by rw [q_l0, q_l_eq ⟨by omega, by omega⟩ (by decide)]; omega
  have n2 : ¬ q_l (q_jA f g) = (0 : Int64) := by rw [q_l0, q_l_eq ⟨by omega, by omega⟩ (by decide)]; omega
  have eci : Int32.toNatClampNeg (q_i (i : Int)) = i := by rw [q_clamp ⟨by omega, by omega⟩]; omega
  have ecj : Int32.toNatClampNeg (q_i (j : Int)) = j := by rw [q_clamp ⟨by omega, by omega⟩]; omega
  unfold F_X10_joined
  rw [q_i_toInt ⟨by omega, by omega⟩, if_pos (by omega), q_i_toInt ⟨by omega, by omega⟩, if_pos (by omega), eci, ecj, r7, r8, t7, t8, q_l_i ⟨by omega, by omega⟩, q_l_i ⟨by omega, by omega⟩, q_l_i ⟨by omega, by omega⟩, q_l_i ⟨by omega, by omega⟩, isf, Option.bind_some]
  dsimp only
  rw [a1, Option.bind_some]
  dsimp only
  rw [x26, hmid, b1, Option.bind_some]
  dsimp only
  simp only [w26, w27, w28, x28, l14, hlA, hlB, hdif, q_l_mul]
  rw [if_pos n1, if_pos n2, rem (v * gu) ⟨by omega, by omega⟩, rem (q_jn f g) ⟨by omega, by omega⟩, rem gv ⟨by omega, by omega⟩, rem g.2.2 ⟨by have := bc.1; omega, by have := bc.2; omega⟩, q_l_mul, q_l_mul, q_l_sub, ← hX, rem X ⟨by omega, by omega⟩, q_l2, q_l_mul, q_l_mul, q_l_add, isf2, Option.bind_some]
  dsimp only
  rw [c1, Option.bind_some]
