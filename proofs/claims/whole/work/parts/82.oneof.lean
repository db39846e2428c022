/-! one() -/
theorem q_sq4 {x d : Int} (h : (x - d) % 2 = 0) (h4 : d % 4 ≤ 1) : (x * x - d) % 4 = 0 := by
  obtain ⟨m, hm⟩ : ∃ m, x = 2 * m ∨ x = 2 * m + 1 := ⟨x / 2, by omega⟩
  rcases hm with rfl | rfl
  · have e : 2 * m * (2 * m) = 4 * (m * m) := by grind
    rw [e]
    generalize m * m = n
    omega
  · have e : (2 * m + 1) * (2 * m + 1) = 4 * (m * m + m) + 1 := by grind
    rw [e]
    generalize m * m + m = n
    omega
theorem q_one_pos {d R : Int} (hdc : q_dc d R) (h4 : q_d4 d) (hp : 0 < d) : q_LF d R (1, q_us d R, (q_us d R * q_us d R - d) / 4) ∧ q_kls d R (1, q_us d R, (q_us d R * q_us d R - d) / 4) = 0 := by
  have h4' : d % 4 ≤ 1 := h4
  obtain ⟨-, u1, u2, u3, u4⟩ := q_us_b hdc hp h4'
  have hsq := q_sq4 u4 h4'
  have hne := q_sq_ne (x := q_us d R) hdc
  generalize q_us d R = b at *
  have hLF : q_LF d R (1, b, (b * b - d) / 4) := by
    refine ⟨⟨?_, by show (1 : Int) ≠ 0; decide, by show (b * b - d) / 4 ≠ 0; omega, fun q => by omega⟩, ?_, ?_⟩
    · show b * b - 4 * 1 * ((b * b - d) / 4) = d
      omega
    · show Int.gcd (Int.gcd 1 b) ((b * b - d) / 4) = 1
      simp
    · show q_lst d R 1 b ((b * b - d) / 4) = true
      rw [q_lst_p hp]
      omega
  refine ⟨hLF, ?_⟩
  have hT := q_TT_T hdc h4
  obtain ⟨x, x1, x2⟩ := hT.2.2 _ hLF (by show (0 : Int) < 1; decide)
  have hx : x = 0 := by
    rcases Nat.eq_zero_or_pos x with q | q
    · exact q
    · have h1 := hT.1 0 x q x1
      have h2 := hT.2.1 0 (by omega)
      have h3 := (q_LF_b hdc h2.1).2.2.2.2.1 hp
      have h5 := q_even_b h2.1.1.1
      rw [x2] at h1
      unfold q_lt at h1
      simp only at h1
      omega
  have hle := q_hx_le hdc hT x1
  rw [x2] at hle
  unfold q_kls
  rw [show q_hx d R (q_TT d R).2 (1, b, (b * b - d) / 4) = 0 by omega]
  rfl
theorem q_one_G {d R : Int} (hdc : q_dc d R) (h4 : q_d4 d) : q_G d (1, d % 2, (d % 2 - d) / 4) ∧ q_kls d R (q_red d R (1, d % 2, (d % 2 - d) / 4)) = 0 := by
  have h4' : d % 4 ≤ 1 := h4
  have hdb : -4000 ≤ d ∧ d ≤ 4000 ∧ d ≠ 0 := by rcases hdc with q | q <;> omega
  have hee : d % 2 * (d % 2) = d % 2 := by
    have : d % 2 = 0 ∨ d % 2 = 1 := by omega
    rcases this with e | e <;> (rw [e]; rfl)
  have hne := q_sq_ne (x := d % 2) hdc
  rw [hee] at hne
  have hG : q_G d (1, d % 2, (d % 2 - d) / 4) := by
    refine ⟨⟨?_, by show (1 : Int) ≠ 0; decide, by show (d % 2 - d) / 4 ≠ 0; omega, fun q => ⟨by show (0 : Int) < 1; decide, by show 0 < (d % 2 - d) / 4; omega⟩⟩, ?_, ⟨by show (-1000000 : Int) ≤ 1; decide, by show (1 : Int) ≤ 1000000; decide⟩, ⟨by show -1000000 ≤ d % 2; omega, by show d % 2 ≤ 1000000; omega⟩, ⟨by show -1000000 ≤ (d % 2 - d) / 4; omega, by show (d % 2 - d) / 4 ≤ 1000000; omega⟩⟩
    · show d % 2 * (d % 2) - 4 * 1 * ((d % 2 - d) / 4) = d
      omega
    · show Int.gcd (Int.gcd 1 (d % 2)) ((d % 2 - d) / 4) = 1
      simp
  refine ⟨hG, ?_⟩
  rcases Int.lt_or_le d 0 with hn | hn
  · obtain ⟨a1, a2⟩ := q_one_neg hdc h4 hn
    rw [q_red_self hdc a1]
    exact a2
  · have hp : 0 < d := by omega
    obtain ⟨a1, a2⟩ := q_one_pos hdc h4 hp
    obtain ⟨-, u1, u2, u3, u4⟩ := q_us_b hdc hp h4'
    have hsq := q_sq4 u4 h4'
    rw [← a2, ← q_red_self hdc a1]
    have hk : q_us d R = d % 2 + 2 * 1 * ((q_us d R - d % 2) / 2) := by omega
    have hl := q_led_T (a := 1) (b := d % 2) (c := (d % 2 - d) / 4) (k := (q_us d R - d % 2) / 2)
    rw [← hk] at hl
    refine (q_kls_red hdc h4 hG (q_LF_G hdc a1) ?_).trans (by rw [q_red_self hdc a1])
    have e : 1 * ((q_us d R - d % 2) / 2 * ((q_us d R - d % 2) / 2)) + d % 2 * ((q_us d R - d % 2) / 2) + (d % 2 - d) / 4 = (q_us d R * q_us d R - d) / 4 := by
      generalize (q_us d R - d % 2) / 2 = k at hk
      have e2 : q_us d R * q_us d R = d % 2 * (d % 2) + 4 * (k * k) + 4 * (d % 2 * k) := by rw [hk]; grind
      rw [e2, hee]
      generalize k * k = m
      generalize d % 2 * k = n
      omega
    rw [e] at hl
    exact hl
theorem p_oneOf {d R : Int} {z : q_Z} (hdc : q_dc d R) (h4 : q_d4 d) (hg : q_Mg d R z) (hT : q_Mtab d R z) : ∃ L2, F_X10_oneOf z = some (0, (z.1, L2)) ∧ ∀ m, m ≠ 128 → L2 m = z.2 m := by
  have hdb : -4000 ≤ d ∧ d ≤ 4000 := by rcases hdc with q | q <;> omega
  obtain ⟨hG, hK⟩ := q_one_G hdc h4
  have gg : Int.gcd (Int.gcd 1 (d % 2)) ((d % 2 - d) / 4) = 1 := hG.2.1
  have isf := p_X10_isForm_yes (z := z) (d := d) (a := 1) (b := d % 2) (c := (d % 2 - d) / 4) hg.1 hdb ⟨by omega, by omega⟩ ⟨by omega, by omega⟩ (by omega) (by omega) (by have h1 : d % 2 * (d % 2) - 4 * 1 * ((d % 2 - d) / 4) = d := hG.1.1; omega)
  rw [if_pos gg] at isf
  have e2 := q_w7_take z.2 (1, d % 2, (d % 2 - d) / 4)
  have isf : F_X10_isForm z (q_l 1) (q_l (d % 2)) = some (1, (z.1, q_w7 z.2 (1, d % 2, (d % 2 - d) / 4) (z.2 128 15, z.2 128 16, z.2 128 17, z.2 128 18))) := by
    rw [← e2]
    exact isf
  obtain ⟨w2, b1⟩ := p_X10_classHere (I := z.1) (L := z.2) (w := (z.2 128 15, z.2 128 16, z.2 128 17, z.2 128 18)) hdc hg hT hG
  rw [hK] at b1
  have T : T_X10_oneOf_16 z (q_l (d % 2)) (q_l 1) = some (0, (z.1, q_w7 z.2 (q_red d R (1, d % 2, (d % 2 - d) / 4)) w2)) := by
    unfold T_X10_oneOf_16
    rw [isf, Option.bind_some]
    dsimp only
    rw [b1]
    rfl
  refine ⟨q_w7 z.2 (q_red d R (1, d % 2, (d % 2 - d) / 4)) w2, ?_, fun m hm => ?_⟩
  · unfold F_X10_oneOf
    have t1 := Int.tmod_add_mul_tdiv d 2
    have t2 : (d.tmod 2).natAbs < 2 := by rw [Int.natAbs_tmod]; exact Nat.mod_lt _ (by decide)
    have e3 : z.1 128 0 - z.1 128 0 / 2 * 2 = q_i (d.tmod 2) := by
      rw [hg.1, show (2 : Int32) = q_i 2 from rfl]
      exact q_i_rem ⟨by omega, by omega⟩ ⟨by omega, by omega⟩ ⟨by omega, by omega⟩
    rw [e3]
    by_cases c : d % 2 = 0
    · rw [if_pos (by rw [show d.tmod 2 = 0 by omega]; rfl)]
      rw [c] at T ⊢
      exact T
    · rw [if_neg (by
        intro q
        have := (q_i_eq (x := d.tmod 2) (y := 0) ⟨by omega, by omega⟩ ⟨by omega, by omega⟩).mp q
        omega)]
      rw [show d % 2 = 1 by omega] at T ⊢
      exact T
  · exact q_w7_ne hm
theorem k_one {s : q_SS} (hv : q_V s) : q_cok F_X9_one F_X10_one s := by
  refine q_cok_r hv 0 (fun z hz => ⟨z, rfl, q_CW_rfl z, rfl⟩) (fun z hz => ?_)
  obtain ⟨L2, b1, b2⟩ := p_oneOf (z := (q_u2 z.1 128 3 0, z.2)) hv.1 hv.2.1 hz.1 (q_Mtab_t 0 (by decide) hz.2.2.2.2.2.2)
  refine ⟨(q_u2 z.1 128 3 0, L2), ?_, q_MW_LL (L := z.2) (q_MW_t (z2 := z) 0 (by decide) (q_MW_rfl z)) b2, rfl⟩
  unfold F_X10_one
  rw [b1]
  rfl
