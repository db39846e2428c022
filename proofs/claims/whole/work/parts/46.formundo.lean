/-! form -/
def q_s_form (s : q_SS) (f : q_f3) : q_SS := ((s.1.1, s.1.2.1, 0), (s.2.1.1 + 1, q_put s.2.1.2 s.2.1.1 f), (min (s.2.2.1.1 + 1) 60, q_push (-1, f) s.2.2.1.2), s.2.2.2)
theorem q_V_form {s : q_SS} {f : q_f3} (hv : q_V s) (hn : s.2.1.1 < 40) (hg : q_G s.1.1 f) : q_V (q_s_form s f) := by
  obtain ⟨v1, v2, v3, v4, v5, v6, v7, v8⟩ := hv
  refine ⟨v1, v2, by show s.2.1.1 + 1 ≤ 40; omega, by show min (s.2.2.1.1 + 1) 60 ≤ 60; omega, v5, ?_, ?_, ?_⟩
  · intro i hi
    have hi : i < s.2.1.1 + 1 := hi
    show q_G s.1.1 (q_put s.2.1.2 s.2.1.1 f i)
    unfold q_put
    by_cases c : i = s.2.1.1
    · rw [if_pos c]
      exact hg
    · rw [if_neg c]
      exact v6 i (by omega)
  · intro i hi hne
    have hi : i < min (s.2.2.1.1 + 1) 60 := hi
    cases i with
    | zero => exact absurd rfl hne
    | succ j => exact v7 j (by omega) hne
  · refine q_Vl_push (Or.inl ⟨rfl, ?_, ?_⟩) v4
    · show 1 ≤ s.2.1.1 + 1; omega
    · rw [q_push_s]
      exact v8
theorem p_X6_lay {s : q_SS} {z : q_Z} {f : q_f3} (hv : q_V s) (hz : q_C s z) (hn : s.2.1.1 < 40) (hf : q_3 (z.2 126) 0 f) : ∃ z2, F_X6_lay 126 z = some (q_i s.2.1.1, z2) ∧ q_C (q_s_form s f) (q_u2 z2.1 1 9 0, z2.2) ∧ q_fC z (q_u2 z2.1 1 9 0, z2.2) := by
  obtain ⟨z7, a1, a2, a3, a4, a5⟩ := p_X6_remember (o := 126) (p := -1) hz.2.2.2.1 hv.2.2.2.1 hf
  obtain ⟨c1, c2, c3, c4, c5, c6, c7⟩ := hz
  have hcnt : z7.1 17 3 = q_i s.2.1.1 := (a4 3 (by decide) (by decide)).trans c3.1
  have ec : F_X1_copy (19 + s.2.1.1) 126 z7 = some ((), (z7.1, q_v3 z7.2 (19 + s.2.1.1) f)) := p_X1_copy (by rw [a5 126 (by omega)]; exact hf)
  refine ⟨(q_u2 z7.1 17 3 (q_i ((s.2.1.1 + 1 : Nat) : Int)), q_v3 z7.2 (19 + s.2.1.1) f), ?_, ⟨q_Cg_fr c1 ?_, rfl, ⟨?_, ?_⟩, q_Cl_fr a2 ?_ ?_ ?_ ?_, q_Cw_fr c5 ?_, q_Co_fr c6 ?_ ?_ ?_, q_Ctab_fr c7 ?_⟩, ?_⟩
  · unfold F_X6_lay T_X6_lay_43
    have a1 : F_X6_remember 126 z (-1) = some ((), z7) := a1
    rw [c3.1, q_i0, if_neg (by rw [q_i_lt ⟨by omega, by omega⟩ (by decide)]; omega), show (40 : Int32) = q_i 40 from rfl, if_pos (by rw [q_i_lt ⟨by omega, by omega⟩ (by decide)]; omega), a1, Option.bind_some]
    dsimp only
    rw [hcnt, q_i_toInt ⟨by omega, by omega⟩, if_pos (by omega), q_clamp ⟨by omega, by omega⟩, show ((s.2.1.1 : Int)).toNat = s.2.1.1 by omega, p_R18 _ hn]
    dsimp only
    rw [ec, Option.bind_some]
    dsimp only
    rw [hcnt, q_i1, q_i_add, q_i_sub, show (s.2.1.1 : Int) + 1 - 1 = s.2.1.1 by omega]
    rfl
  · show q_u2 (q_u2 z7.1 17 3 (q_i ((s.2.1.1 + 1 : Nat) : Int))) 1 9 0 4 = z.1 4
    rw [q_u2_ne (by decide), q_u2_ne (by decide), a3 4 (by decide) (by decide)]
  · show q_u2 (q_u2 z7.1 17 3 (q_i ((s.2.1.1 + 1 : Nat) : Int))) 1 9 0 17 3 = _
    rw [q_u2_ne (by decide), q_u2_at, if_pos rfl]
    rfl
  · intro i hi
    have hi : i < s.2.1.1 + 1 := hi
    show q_3 (q_v3 z7.2 (19 + s.2.1.1) f (19 + i)) 0 (q_put s.2.1.2 s.2.1.1 f i)
    unfold q_put
    by_cases c : i = s.2.1.1
    · rw [if_pos c, c]
      exact q_v3_3 _ _ _
    · rw [if_neg c, q_v3_ne (by omega), a5 _ (by omega)]
      exact c3.2 i (by omega)
  · show q_u2 (q_u2 z7.1 17 3 (q_i ((s.2.1.1 + 1 : Nat) : Int))) 1 9 0 17 4 = _
    rw [q_u2_ne (by decide), q_u2_at, if_neg (by decide)]
  · show q_u2 (q_u2 z7.1 17 3 (q_i ((s.2.1.1 + 1 : Nat) : Int))) 1 9 0 17 5 = _
    rw [q_u2_ne (by decide), q_u2_at, if_neg (by decide)]
  · show q_u2 (q_u2 z7.1 17 3 (q_i ((s.2.1.1 + 1 : Nat) : Int))) 1 9 0 120 = _
    rw [q_u2_ne (by decide), q_u2_ne (by decide)]
  · intro i hi
    show q_v3 z7.2 (19 + s.2.1.1) f (60 + i) = _
    rw [q_v3_ne (by omega)]
  · show q_v3 z7.2 (19 + s.2.1.1) f 121 = _
    rw [q_v3_ne (by omega), a5 121 (by omega)]
  · show q_u2 (q_u2 z7.1 17 3 (q_i ((s.2.1.1 + 1 : Nat) : Int))) 1 9 0 122 = _
    rw [q_u2_ne (by decide), q_u2_ne (by decide), a3 122 (by decide) (by decide)]
  · show q_u2 (q_u2 z7.1 17 3 (q_i ((s.2.1.1 + 1 : Nat) : Int))) 1 9 0 123 = _
    rw [q_u2_ne (by decide), q_u2_ne (by decide), a3 123 (by decide) (by decide)]
  · show q_u2 (q_u2 z7.1 17 3 (q_i ((s.2.1.1 + 1 : Nat) : Int))) 1 9 0 124 = _
    rw [q_u2_ne (by decide), q_u2_ne (by decide), a3 124 (by decide) (by decide)]
  · intro n b1 b2 b3
    show q_u2 (q_u2 z7.1 17 3 (q_i ((s.2.1.1 + 1 : Nat) : Int))) 1 9 0 n = _
    rw [q_u2_ne b2, q_u2_ne (by omega), a3 n (by omega) (by omega)]
  · intro n b1
    refine ⟨?_, ?_⟩
    · show q_u2 (q_u2 z7.1 17 3 (q_i ((s.2.1.1 + 1 : Nat) : Int))) 1 9 0 n = _
      rw [q_u2_ne (by omega), q_u2_ne (by omega), a3 n (by omega) (by omega)]
    · show q_v3 z7.2 (19 + s.2.1.1) f n = _
      rw [q_v3_ne (by omega), a5 n (by omega)]
/-- what form() asks of two numbers -/
def q_isf (d a b c : Int) : Prop := a ≠ 0 ∧ ¬ (d < 0 ∧ a < 0) ∧ 4 * a * c = b * b - d
theorem q_isf_G {d R a b c : Int} (hdc : q_dc d R) (h : q_isf d a b c) (ha : q_m6 a) (hb : q_m6 b) (hc : q_m6 c) (hg : Int.gcd (Int.gcd a b) c = 1) : q_G d (a, b, c) := by
  obtain ⟨h1, h2, h3⟩ := h
  refine ⟨⟨by show b * b - 4 * a * c = d; omega, h1, ?_, ?_⟩, hg, ha, hb, hc⟩
  · intro e
    have e : c = 0 := e
    rw [e, Int.mul_zero] at h3
    exact q_sq_ne (x := b) hdc (by omega)
  · intro hd
    have ha0 : 0 < a := by omega
    refine ⟨ha0, ?_⟩
    have := q_sq_nn b
    rcases Int.lt_or_le 0 c with q | q
    · exact q
    · have : (4 * a) * c ≤ 0 := Int.mul_nonpos_of_nonneg_of_nonpos (by omega) q
      omega
theorem k_form {s : q_SS} (hv : q_V s) (l1 l2 : Int32) : q_cok (fun z => F_X9_form z l1 l2) (fun z => F_X10_form z l1 l2) s := by
  obtain ⟨a, ha, rfl⟩ := q_i_of l1
  obtain ⟨b, hb, rfl⟩ := q_i_of l2
  have hn := hv.2.2.1
  have hdb : -4000 ≤ s.1.1 ∧ s.1.1 ≤ 4000 := by rcases hv.1 with q | q <;> omega
  have hin : ∀ (z : q_Z) (v : Int), q_b v → F_X10_in z (Int32.toInt64 (q_i v)) (-1000000) 1000000 = some (if -1000000 ≤ v ∧ v ≤ 1000000 then 1 else 0, z) := by
    intro z v h
    rw [show (-1000000 : Int64) = q_l (-1000000) from rfl, show (1000000 : Int64) = q_l 1000000 from rfl]
    exact p_in_i (z := z) (a := -1000000) (c := 1000000) h (by decide) (by decide)
  have h0 : q_i a = 0 ↔ a = 0 := by rw [q_i0]; exact q_i_eq ha (by decide)
  by_cases cr : a ≠ 0 ∧ (-1000000 ≤ a ∧ a ≤ 1000000) ∧ (-1000000 ≤ b ∧ b ≤ 1000000)
  · obtain ⟨c0, ra, rb⟩ := cr
    have ba : q_m1 a := ⟨by omega, by omega⟩
    have bb : q_m1 b := ⟨by omega, by omega⟩
    have go9 : ∀ z, F_X9_form z (q_i a) (q_i b) = (F_X2_complete 126 z (q_l a) (q_l b)).bind fun (r8, z9) => if r8 = (0 : Int32) then T_X9_form_70 z9 else if (z9.2 126 2) < (-1000000 : Int64) then T_X9_form_70 z9 else if (z9.2 126 2) ≤ (1000000 : Int64) then (F_X6_lay 126 z9).bind fun (r13, z14) => if (0 : Int32) ≤ r13 then (F_X9_accept z14 r13).bind fun (r15, z16) => some (r15, z16) else (F_X9_refuse z14 3).bind fun (r17, z18) => some (r17, z18) else T_X9_form_70 z9 := by
      intro z
      unfold F_X9_form
      rw [if_neg (fun q => c0 (h0.mp q)), p_X9_isBeyond ha, Option.bind_some, if_pos ra]
      dsimp only
      rw [if_pos rfl, p_X9_isBeyond hb, Option.bind_some, if_pos rb]
      dsimp only
      rw [if_pos rfl, q_l_i ha, q_l_i hb]
    have goM : ∀ z, F_X10_form z (q_i a) (q_i b) = (F_X10_isForm (q_u2 z.1 128 3 0, z.2) (q_l a) (q_l b)).bind fun (r8, z9) => if r8 = (0 : Int32) then T_X10_form_71 z9 else (F_X10_abs z9 (z9.2 128 14)).bind fun (r13, z14) => if r13 ≤ (1000000 : Int64) then if (z14.1 128 6) = (40 : Int32) then (F_X10_no z14 3).bind fun (r19, z20) => some (r19, z20) else (F_X10_lay z14 (z14.1 128 6)).bind fun (_, z16) => (F_X10_act (q_u2 z16.1 128 6 ((z16.1 128 6) + 1), z16.2) (-1)).bind fun (_, z18) => some ((z18.1 128 6) - 1, (q_u2 z18.1 128 2 0, z18.2)) else T_X10_form_71 z14 := by
      intro z
      unfold F_X10_form
      rw [if_neg (fun q => c0 (h0.mp q)), hin _ a ha, Option.bind_some, if_pos ra]
      dsimp only
      rw [if_neg (by decide), hin _ b hb, Option.bind_some, if_pos rb]
      dsimp only
      rw [if_neg (by decide), q_l_i ha, q_l_i hb]
    by_cases cf : ∃ c, q_isf s.1.1 a b c
    · obtain ⟨c, hc⟩ := cf
      have hcb : -4000000004000 ≤ c ∧ c ≤ 4000000004000 := by
        have := q_divB hc.2.2 (by omega)
        have := q_bbd bb hdb
        omega
      have hcB : q_B c := ⟨by omega, by omega⟩
      by_cases cg : Int.gcd (Int.gcd a b) c = 1
      · by_cases cs : -1000000 ≤ c ∧ c ≤ 1000000
        · have hG : q_G s.1.1 (a, b, c) := q_isf_G hv.1 hc ra rb cs cg
          by_cases cn : s.2.1.1 = 40
          · refine q_cok_t hv (-1) 3 (fun z hz => ⟨(q_u2 z.1 1 9 3, q_v3 z.2 126 (a, b, c)), ?_, fun n a1 a2 a3 a4 => ⟨q_u2_ne a1, q_v3_ne a3⟩, rfl⟩) (fun z hz => ⟨(q_u2 (q_u2 z.1 128 3 0) 128 2 3, q_u2 (q_u2 (q_u2 z.2 128 12 (q_l a)) 128 13 (q_l b)) 128 14 (q_l c)), ?_, q_MW_L (q_MW_L (q_MW_L (q_MW_t (z2 := (q_u2 z.1 128 3 0, z.2)) 3 (by decide) (q_MW_t (z2 := z) 0 (by decide) (q_MW_rfl z))))), rfl⟩)
            · have e := p_X2_complete_yes (o := 126) (z := z) hz.1.1 hdb ba bb hc.1 hc.2.1 hc.2.2
              rw [if_pos cg] at e
              have r2 : q_u2 (q_u2 (q_u2 z.2 126 0 (q_l a)) 126 1 (q_l b)) 126 2 (q_l c) 126 2 = q_l c := rfl
              have el : F_X6_lay 126 (z.1, q_u2 (q_u2 (q_u2 z.2 126 0 (q_l a)) 126 1 (q_l b)) 126 2 (q_l c)) = some (-1, (z.1, q_u2 (q_u2 (q_u2 z.2 126 0 (q_l a)) 126 1 (q_l b)) 126 2 (q_l c))) := by
                unfold F_X6_lay T_X6_lay_16
                dsimp only
                rw [hz.2.2.1.1, cn, if_neg (by decide), if_neg (by decide)]
              show F_X9_form z (q_i a) (q_i b) = _
              rw [go9 z, e, Option.bind_some]
              dsimp only
              rw [if_neg (by decide), if_neg (by rw [r2, show (-1000000 : Int64) = q_l (-1000000) from rfl, q_l_lt hcB (by decide)]; omega), if_pos (by rw [r2, show (1000000 : Int64) = q_l 1000000 from rfl, q_l_le hcB (by decide)]; omega), el, Option.bind_some]
              rfl
            · have e := p_X10_isForm_yes (z := (q_u2 z.1 128 3 0, z.2)) (d := s.1.1) hz.1.1 hdb ba bb hc.1 hc.2.1 hc.2.2
              rw [if_pos cg] at e
              have r2 : q_u2 (q_u2 (q_u2 z.2 128 12 (q_l a)) 128 13 (q_l b)) 128 14 (q_l c) 128 14 = q_l c := rfl
              have r6 : q_u2 z.1 128 3 0 128 6 = q_i s.2.1.1 := hz.2.2.1.1
              show F_X10_form z (q_i a) (q_i b) = _
              rw [goM z, e, Option.bind_some]
              dsimp only
              rw [if_neg (by decide), r2, p_X10_abs hcB ⟨by omega, by omega⟩, Option.bind_some]
              dsimp only
              rw [if_pos (by rw [show (1000000 : Int64) = q_l 1000000 from rfl, q_l_le ⟨by omega, by omega⟩ (by decide)]; omega), if_pos (by rw [r6, cn]; decide)]
              rfl
          · have cn : s.2.1.1 < 40 := by omega
            refine ⟨q_i s.2.1.1, q_s_form s (a, b, c), q_V_form hv cn hG, fun z hz => ?_, fun z hz => ?_⟩
            · have hz1 : q_C s (z.1, q_v3 z.2 126 (a, b, c)) := (q_C_work (z2 := (z.1, q_v3 z.2 126 (a, b, c))) s.1.2.2 hz hv (fun n a1 a2 a3 a4 => ⟨rfl, q_v3_ne a3⟩) hz.2.1).1
              obtain ⟨z2, b1, b2, b3⟩ := p_X6_lay hv hz1 cn (q_v3_3 z.2 126 (a, b, c))
              refine ⟨(q_u2 z2.1 1 9 0, z2.2), ?_, b2, fun n hn => ⟨(b3 n hn).1, (b3 n hn).2.trans (q_v3_ne (by omega))⟩⟩
              have e := p_X2_complete_yes (o := 126) (z := z) hz.1.1 hdb ba bb hc.1 hc.2.1 hc.2.2
              rw [if_pos cg] at e
              have e : F_X2_complete 126 z (q_l a) (q_l b) = some (1, (z.1, q_v3 z.2 126 (a, b, c))) := e
              have r2 : q_v3 z.2 126 (a, b, c) 126 2 = q_l c := rfl
              show F_X9_form z (q_i a) (q_i b) = _
              rw [go9 z, e, Option.bind_some]
              dsimp only
              rw [if_neg (by decide), if_neg (by rw [r2, show (-1000000 : Int64) = q_l (-1000000) from rfl, q_l_lt hcB (by decide)]; omega), if_pos (by rw [r2, show (1000000 : Int64) = q_l 1000000 from rfl, q_l_le hcB (by decide)]; omega), b1, Option.bind_some]
              dsimp only
              rw [q_i0, if_pos (by rw [q_i_le (by decide) ⟨by omega, by omega⟩]; omega)]
              rfl
            · have e := p_X10_isForm_yes (z := (q_u2 z.1 128 3 0, z.2)) (d := s.1.1) hz.1.1 hdb ba bb hc.1 hc.2.1 hc.2.2
              rw [if_pos cg] at e
              obtain ⟨L1, hL1⟩ : ∃ L1, L1 = q_u2 (q_u2 (q_u2 z.2 128 12 (q_l a)) 128 13 (q_l b)) 128 14 (q_l c) := ⟨_, rfl⟩
              have l12 : L1 128 12 = q_l a := by rw [hL1]; rfl
              have l13 : L1 128 13 = q_l b := by rw [hL1]; rfl
              have l14 : L1 128 14 = q_l c := by rw [hL1]; rfl
              have lne : ∀ k, k ≠ 128 → L1 k = z.2 k := by
                intro k hk
                rw [hL1, q_u2_ne hk, q_u2_ne hk, q_u2_ne hk]
              rw [← hL1] at e
              obtain ⟨L3, hL3⟩ : ∃ L3, L3 = q_u2 (q_u2 (q_u2 L1 129 (3 * s.2.1.1) (q_l a)) 129 (3 * s.2.1.1 + 1) (q_l b)) 129 (3 * s.2.1.1 + 2) (q_l c) := ⟨_, rfl⟩
              have l3ne : ∀ k, k ≠ 129 → L3 k = L1 k := by
                intro k hk
                rw [hL3]
                exact q_lay_ne hk
              obtain ⟨J, hJ⟩ : ∃ J, J = q_u2 (q_u2 z.1 128 3 0) 128 6 (q_i ((s.2.1.1 + 1 : Nat) : Int)) := ⟨_, rfl⟩
              have jne : ∀ k, k ≠ 128 → J k = z.1 k := by
                intro k hk
                rw [hJ, q_u2_ne hk, q_u2_ne hk]
              have j8 : ∀ k, k ≠ 6 → k ≠ 3 → J 128 k = z.1 128 k := by
                intro k h6 h3
                rw [hJ, q_u2_at, if_neg h6, q_u2_at, if_neg h3]
              have j6 : J 128 6 = q_i ((s.2.1.1 + 1 : Nat) : Int) := by rw [hJ]; rfl
              obtain ⟨I2, L2, a1, a2, a3, a4, a5⟩ := p_X10_act (I := J) (L := L3) (n := 0) (sh := s.2.1.2) (p := -1) (f := (a, b, c)) (q_Ml_fr (z2 := (J, L3)) hz.2.2.2.1 (j8 7 (by decide) (by decide)) (by rw [show (J, L3).2 130 = L3 130 from rfl, l3ne 130 (by decide), lne 130 (by decide)])) hv.2.2.2.1 (by omega) (fun i hi => by omega) (Or.inl rfl)
              have a1 : F_X10_act (J, L3) (-q_i 1) = some ((), (I2, L2)) := a1
              have k8 : ∀ k, k ≠ 7 → k ≠ 6 → k ≠ 3 → I2 128 k = z.1 128 k := fun k h7 h6 h3 => (a4 k h7).trans (j8 k h6 h3)
              have kne : ∀ k, k ≠ 128 → I2 k = z.1 k := fun k hk => (a3 k hk).trans (jne k hk)
              have lne2 : ∀ k, k ≠ 128 → k ≠ 129 → k ≠ 130 → L2 k = z.2 k := fun k h8 h9 h0 => (a5 k h0).trans ((l3ne k h9).trans (lne k h8))
              have u8 : ∀ k, k ≠ 2 → q_u2 I2 128 2 0 128 k = I2 128 k := by
                intro k hk
                rw [q_u2_at, if_neg hk]
              have une : ∀ k, k ≠ 128 → q_u2 I2 128 2 0 k = z.1 k := by
                intro k hk
                rw [q_u2_ne hk, kne k hk]
              obtain ⟨c1, c2, c3, c4, c5, c6, c7⟩ := hz
              refine ⟨(q_u2 I2 128 2 0, L2), ?_, ⟨q_Mg_fr c1 ?_ ?_, rfl, ⟨?_, ?_⟩, q_Ml_fr a2 ?_ rfl, q_Mw_fr c5 (lne2 131 (by decide) (by decide) (by decide)), q_Mo_fr c6 ?_ (une 132 (by decide)) (une 133 (by decide)), q_Mtab_fr c7 ?_ ?_ (fun n a1 a2 => une n (by omega))⟩, fun n hn => ⟨une n (by omega), lne2 n (by omega) (by omega) (by omega)⟩⟩
              · show F_X10_form z (q_i a) (q_i b) = _
                have r6 : q_u2 z.1 128 3 0 128 6 = q_i s.2.1.1 := c3.1
                rw [goM z, e, Option.bind_some]
                dsimp only
                rw [if_neg (by decide), l14, p_X10_abs hcB ⟨by omega, by omega⟩, Option.bind_some]
                dsimp only
                rw [if_pos (by rw [show (1000000 : Int64) = q_l 1000000 from rfl, q_l_le ⟨by omega, by omega⟩ (by decide)]; omega), if_neg (by rw [r6, show (40 : Int32) = q_i 40 from rfl, q_i_eq ⟨by omega, by omega⟩ (by decide)]; omega), r6, p_X10_lay (by omega) (by omega), Option.bind_some, l12, l13, l14, show ((s.2.1.1 : Int)).toNat = s.2.1.1 by omega]
                dsimp only
                rw [r6, q_i1, q_i_add, show (s.2.1.1 : Int) + 1 = ((s.2.1.1 + 1 : Nat) : Int) by omega, ← hL3, ← hJ, a1, Option.bind_some]
                dsimp only
                rw [a4 6 (by decide), j6, q_i_sub, show ((s.2.1.1 + 1 : Nat) : Int) - 1 = s.2.1.1 by omega]
              · exact (u8 0 (by decide)).trans (k8 0 (by decide) (by decide) (by decide))
              · exact (u8 1 (by decide)).trans (k8 1 (by decide) (by decide) (by decide))
              · exact (u8 6 (by decide)).trans ((a4 6 (by decide)).trans j6)
              · show ∀ i, i < s.2.1.1 + 1 → q_3 (L2 129) (3 * i) (q_put s.2.1.2 s.2.1.1 (a, b, c) i)
                rw [a5 129 (by decide), hL3]
                refine q_lay_sh (g := (a, b, c)) (fun i hi hne => ?_)
                rw [lne 129 (by decide)]
                exact c3.2 i (by omega)
              · exact u8 7 (by decide)
              · exact (u8 11 (by decide)).trans (k8 11 (by decide) (by decide) (by decide))
              · exact (u8 22 (by decide)).trans (k8 22 (by decide) (by decide) (by decide))
              · exact (u8 23 (by decide)).trans (k8 23 (by decide) (by decide) (by decide))
        · refine q_cok_t hv (-1) 4 (fun z hz => ⟨(q_u2 z.1 1 9 4, q_v3 z.2 126 (a, b, c)), ?_, fun n a1 a2 a3 a4 => ⟨q_u2_ne a1, q_v3_ne a3⟩, rfl⟩) (fun z hz => ⟨(q_u2 (q_u2 z.1 128 3 0) 128 2 4, q_u2 (q_u2 (q_u2 z.2 128 12 (q_l a)) 128 13 (q_l b)) 128 14 (q_l c)), ?_, q_MW_L (q_MW_L (q_MW_L (q_MW_t (z2 := (q_u2 z.1 128 3 0, z.2)) 4 (by decide) (q_MW_t (z2 := z) 0 (by decide) (q_MW_rfl z))))), rfl⟩)
          · have e := p_X2_complete_yes (o := 126) (z := z) hz.1.1 hdb ba bb hc.1 hc.2.1 hc.2.2
            rw [if_pos cg] at e
            have r2 : q_u2 (q_u2 (q_u2 z.2 126 0 (q_l a)) 126 1 (q_l b)) 126 2 (q_l c) 126 2 = q_l c := rfl
            show F_X9_form z (q_i a) (q_i b) = _
            rw [go9 z, e, Option.bind_some]
            dsimp only
            rw [if_neg (by decide)]
            by_cases c1 : c < -1000000
            · rw [if_pos (by rw [r2, show (-1000000 : Int64) = q_l (-1000000) from rfl, q_l_lt hcB (by decide)]; omega)]
              rfl
            · rw [if_neg (by rw [r2, show (-1000000 : Int64) = q_l (-1000000) from rfl, q_l_lt hcB (by decide)]; omega), if_neg (by rw [r2, show (1000000 : Int64) = q_l 1000000 from rfl, q_l_le hcB (by decide)]; omega)]
              rfl
          · have e := p_X10_isForm_yes (z := (q_u2 z.1 128 3 0, z.2)) (d := s.1.1) hz.1.1 hdb ba bb hc.1 hc.2.1 hc.2.2
            rw [if_pos cg] at e
            have r2 : q_u2 (q_u2 (q_u2 z.2 128 12 (q_l a)) 128 13 (q_l b)) 128 14 (q_l c) 128 14 = q_l c := rfl
            show F_X10_form z (q_i a) (q_i b) = _
            rw [goM z, e, Option.bind_some]
            dsimp only
            rw [if_neg (by decide), r2, p_X10_abs hcB ⟨by omega, by omega⟩, Option.bind_some]
            dsimp only
            rw [if_neg (by rw [show (1000000 : Int64) = q_l 1000000 from rfl, q_l_le ⟨by omega, by omega⟩ (by decide)]; omega)]
            rfl
      · refine q_cok_t hv (-1) 4 (fun z hz => ⟨(q_u2 z.1 1 9 4, q_v3 z.2 126 (a, b, c)), ?_, fun n a1 a2 a3 a4 => ⟨q_u2_ne a1, q_v3_ne a3⟩, rfl⟩) (fun z hz => ⟨(q_u2 (q_u2 z.1 128 3 0) 128 2 4, q_u2 (q_u2 (q_u2 z.2 128 12 (q_l a)) 128 13 (q_l b)) 128 14 (q_l c)), ?_, q_MW_L (q_MW_L (q_MW_L (q_MW_t (z2 := (q_u2 z.1 128 3 0, z.2)) 4 (by decide) (q_MW_t (z2 := z) 0 (by decide) (q_MW_rfl z))))), rfl⟩)
        · have e := p_X2_complete_yes (o := 126) (z := z) hz.1.1 hdb ba bb hc.1 hc.2.1 hc.2.2
          rw [if_neg cg] at e
          show F_X9_form z (q_i a) (q_i b) = _
          rw [go9 z, e, Option.bind_some]
          rfl
        · have e := p_X10_isForm_yes (z := (q_u2 z.1 128 3 0, z.2)) (d := s.1.1) hz.1.1 hdb ba bb hc.1 hc.2.1 hc.2.2
          rw [if_neg cg] at e
          show F_X10_form z (q_i a) (q_i b) = _
          rw [goM z, e, Option.bind_some]
          rfl
    · have hno : a = 0 ∨ (s.1.1 < 0 ∧ a < 0) ∨ ¬ (4 * a) ∣ (b * b - s.1.1) := by
        by_cases q : s.1.1 < 0 ∧ a < 0
        · exact Or.inr (Or.inl q)
        · refine Or.inr (Or.inr fun dv => ?_)
          obtain ⟨c, hc⟩ := dv
          exact cf ⟨c, c0, q, hc.symm⟩
      refine q_cok_t hv (-1) 4 (fun z hz => ⟨(q_u2 z.1 1 9 4, z.2), ?_, q_CW_t 4 (q_CW_rfl z), rfl⟩) (fun z hz => ⟨(q_u2 (q_u2 z.1 128 3 0) 128 2 4, z.2), ?_, q_MW_t (z2 := (q_u2 z.1 128 3 0, z.2)) 4 (by decide) (q_MW_t (z2 := z) 0 (by decide) (q_MW_rfl z)), rfl⟩)
      · show F_X9_form z (q_i a) (q_i b) = _
        rw [go9 z, p_X2_complete_no hz.1.1 hdb ba bb hno, Option.bind_some]
        rfl
      · show F_X10_form z (q_i a) (q_i b) = _
        rw [goM z, p_X10_isForm_no (z := (q_u2 z.1 128 3 0, z.2)) (d := s.1.1) hz.1.1 hdb ba bb hno, Option.bind_some]
        rfl
  · refine q_cok_t hv (-1) 1 (fun z hz => ⟨(q_u2 z.1 1 9 1, z.2), ?_, q_CW_t 1 (q_CW_rfl z), rfl⟩) (fun z hz => ⟨(q_u2 (q_u2 z.1 128 3 0) 128 2 1, z.2), ?_, q_MW_t (z2 := (q_u2 z.1 128 3 0, z.2)) 1 (by decide) (q_MW_t (z2 := z) 0 (by decide) (q_MW_rfl z)), rfl⟩)
    · unfold F_X9_form
      by_cases c0 : a = 0
      · rw [if_pos (h0.mpr c0)]
        rfl
      · rw [if_neg (fun q => c0 (h0.mp q)), p_X9_isBeyond ha, Option.bind_some]
        by_cases ra : -1000000 ≤ a ∧ a ≤ 1000000
        · rw [if_pos ra]
          dsimp only
          rw [if_pos rfl, p_X9_isBeyond hb, Option.bind_some, if_neg (fun q => cr ⟨c0, ra, q⟩)]
          rfl
        · rw [if_neg ra]
          rfl
    · unfold F_X10_form
      by_cases c0 : a = 0
      · rw [if_pos (h0.mpr c0)]
        rfl
      · rw [if_neg (fun q => c0 (h0.mp q)), hin _ a ha, Option.bind_some]
        by_cases ra : -1000000 ≤ a ∧ a ≤ 1000000
        · rw [if_pos ra]
          dsimp only
          rw [if_neg (by decide), hin _ b hb, Option.bind_some, if_neg (fun q => cr ⟨c0, ra, q⟩)]
          rfl
        · rw [if_neg ra]
          rfl
