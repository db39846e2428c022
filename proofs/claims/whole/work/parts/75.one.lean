/-! one(): D below 0 -/
theorem q_red_self {d R : Int} {f : q_f3} (hdc : q_dc d R) (hf : q_LF d R f) : q_red d R f = f := by
  have hs := q_fn_spec hdc (q_LF_G hdc hf)
  have h0 : q_fn d R f = 0 := by
    rcases Nat.eq_zero_or_pos (q_fn d R f) with q | q
    · exact q
    · have h1 : q_L3 d R f = false := hs.2.2 0 q
      rw [hf.2.2] at h1
      exact absurd h1 (by decide)
  unfold q_red
  rw [h0]
  rfl
theorem q_one_neg {d R : Int} (hdc : q_dc d R) (h4 : q_d4 d) (hn : d < 0) : q_LF d R (1, d % 2, (d % 2 - d) / 4) ∧ q_kls d R (1, d % 2, (d % 2 - d) / 4) = 0 := by
  unfold q_d4 at h4
  have hee : d % 2 * (d % 2) = d % 2 := by
    have : d % 2 = 0 ∨ d % 2 = 1 := by omega
    rcases this with e | e <;> (rw [e]; rfl)
  have hLF : q_LF d R (1, d % 2, (d % 2 - d) / 4) := by
    refine ⟨⟨?_, by show (1 : Int) ≠ 0; decide, by show (d % 2 - d) / 4 ≠ 0; omega, fun _ => ⟨by show (0 : Int) < 1; decide, by show 0 < (d % 2 - d) / 4; omega⟩⟩, ?_, ?_⟩
    · show d % 2 * (d % 2) - 4 * 1 * ((d % 2 - d) / 4) = d
      omega
    · show Int.gcd (Int.gcd 1 (d % 2)) ((d % 2 - d) / 4) = 1
      simp
    · show q_lst d R 1 (d % 2) ((d % 2 - d) / 4) = true
      unfold q_lst
      rw [if_pos hn]
      simp only [Bool.and_eq_true, Bool.or_eq_true, decide_eq_true_eq]
      omega
  refine ⟨hLF, ?_⟩
  have hT := q_TT_T hdc h4
  obtain ⟨x, x1, x2⟩ := hT.2.2 _ hLF (by show (0 : Int) < 1; decide)
  have hx : x = 0 := by
    rcases Nat.eq_zero_or_pos x with q | q
    · exact q
    · have h1 := hT.1 0 x q x1
      have h2 := hT.2.1 0 (by omega)
      have h3 := (q_LF_b hdc h2.1).2.2.2.2.2 hn
      have h5 := q_even_b h2.1.1.1
      rw [x2] at h1
      unfold q_lt at h1
      simp only at h1
      omega
  have hle := q_hx_le hdc hT x1
  rw [x2] at hle
  unfold q_kls
  rw [show q_hx d R (q_TT d R).2 (1, d % 2, (d % 2 - d) / 4) = 0 by omega]
  rfl
