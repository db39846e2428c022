/-! classes, head, classOf, back, one -/
theorem q_GC_fr2 {d R : Int} {z z2 : q_Z} (h : q_GC d R z) (e : ∀ n, n = 2 ∨ (13 ≤ n ∧ n ≤ 16) → z2.1 n = z.1 n) : q_GC d R z2 := q_GC_fr0 h (e 2 (by omega)) (e 13 (by omega)) (e 14 (by omega)) (e 16 (by omega))
theorem q_Ctab_P {d R : Int} {z z2 : q_Z} (hdc : q_dc d R) (h4 : q_d4 d) (h : q_Ctab z) (hT : q_TC d R z2) (h11 : z2.1 3 11 = q_i d) (hP : q_CP z z2) : q_Ctab z2 := by
  refine ⟨Or.inr ⟨d, R, hdc, h4, h11, hT⟩, ?_⟩
  have e : ∀ n, n = 2 ∨ (13 ≤ n ∧ n ≤ 16) → z2.1 n = z.1 n := fun n hn => hP.1 n (by omega) (by omega) (by omega) (by omega) (by omega) (by omega)
  rcases h.2 with h2 | ⟨d2, R2, a, b, c, f⟩
  · exact Or.inl (by rw [e 2 (by omega)]; exact h2)
  · exact Or.inr ⟨d2, R2, a, b, by rw [e 2 (by omega)]; exact c, q_GC_fr2 f e⟩
/-- tables are made where they are wanting -/
theorem p_prep {s : q_SS} {z : q_Z} (hv : q_V s) (hz : q_C s z) : ∃ z1, F_X0_prepare z = some ((), z1) ∧ q_C s z1 ∧ q_fC z z1 ∧ q_TC s.1.1 s.1.2.1 z1 ∧ (∀ k, k ≠ 10 → z1.2 k = z.2 k) := by
  obtain ⟨z1, a1, a2, a3, a4⟩ := p_X0_prepare hv.1 hv.2.1 hz.1 hz.2.2.2.2.2.2
  have hT := q_Ctab_P hv.1 hv.2.1 hz.2.2.2.2.2.2 a2 a3 a4
  refine ⟨z1, a1, q_C_keep s.1.2.2 hz hv (fun n hn => ⟨a4.1 n (by omega) (by omega) (by omega) (by omega) (by omega) (by omega), a4.2 n (by omega)⟩) ?_ hT, fun n hn => ⟨a4.1 n (by omega) (by omega) (by omega) (by omega) (by omega) (by omega), a4.2 n (by omega)⟩, a2, a4.2⟩
  rw [a4.1 1 (by decide) (by decide) (by decide) (by decide) (by decide) (by decide)]
  exact hz.2.1
theorem q_fC_trans {x y z : q_Z} (h1 : q_fC x y) (h2 : q_fC y z) : q_fC x z := fun n hn => ⟨(h2 n hn).1.trans (h1 n hn).1, (h2 n hn).2.trans (h1 n hn).2⟩
/-- after tables are made only trouble, work rows and the rows of the walkers change -/
def q_CX (z z2 : q_Z) : Prop := (∀ n, n ≠ 1 → n ≠ 125 → n ≠ 126 → n ≠ 127 → z2.1 n = z.1 n) ∧ ∀ n, n ≠ 10 → n ≠ 11 → n ≠ 12 → n ≠ 125 → n ≠ 126 → n ≠ 127 → z2.2 n = z.2 n
theorem q_C_X {s : q_SS} {z z2 : q_Z} (t : Int32) (h : q_C s z) (hv : q_V s) (e : q_CX z z2) (ht : z2.1 1 9 = t) : q_C ((s.1.1, s.1.2.1, t), s.2) z2 ∧ q_fC z z2 :=
  ⟨q_C_keep t h hv (fun n hn => ⟨e.1 n (by omega) (by omega) (by omega) (by omega), e.2 n (by omega) (by omega) (by omega) (by omega) (by omega) (by omega)⟩) ht (q_Ctab_fr h.2.2.2.2.2.2 (fun n a b _ => e.1 n b (by omega) (by omega) (by omega))), fun n hn => ⟨e.1 n (by omega) (by omega) (by omega) (by omega), e.2 n (by omega) (by omega) (by omega) (by omega) (by omega) (by omega)⟩⟩
theorem q_C_t0 {s : q_SS} {z : q_Z} (h : q_C s z) (hv : q_V s) (t : Int32) : q_C ((s.1.1, s.1.2.1, t), s.2) (q_u2 z.1 1 9 t, z.2) ∧ q_fC z (q_u2 z.1 1 9 t, z.2) := q_C_work t h hv (q_CW_t t (q_CW_rfl z)) rfl
theorem k_classes {s : q_SS} (hv : q_V s) : q_cok F_X9_classes F_X10_classes s := by
  refine ⟨q_i (q_nc2 s.1.1 s.1.2.1), s, hv, fun z hz => ?_, fun z hz => ?_⟩
  · obtain ⟨z1, a1, a2, a3, a4, -⟩ := p_prep hv hz
    refine ⟨z1, ?_, a2, a3⟩
    unfold F_X9_classes
    rw [a1, Option.bind_some]
    dsimp only
    rw [a4.2.1]
  · obtain ⟨N, M, h0, h1, h2, h3, h4, h5, h6, h7, h8, h9⟩ := hz.2.2.2.2.2.2
    have k := q_M_work (z2 := (q_u2 z.1 128 3 0, z.2)) s.1.2.2 hz (q_MW_t (z2 := z) 0 (by decide) (q_MW_rfl z)) hz.2.1
    exact ⟨_, by unfold F_X10_classes; rw [h8], k.1, k.2⟩
theorem p_X0_hasClass {d R : Int} {z : q_Z} {x : Int} (hdc : q_dc d R) (h4 : q_d4 d) (hT : q_TC d R z) (hx : q_b x) : F_X0_hasClass z (q_i x) = some (if 0 ≤ x ∧ x < q_nc2 d R then 1 else 0, z) := by
  have hle := q_nc2_le hdc h4
  unfold F_X0_hasClass T_X0_hasClass_23
  rw [hT.2.1, q_i0]
  by_cases c1 : x < 0
  · rw [if_pos ((q_i_lt hx (by decide)).mpr c1), if_neg (by omega)]
  · rw [if_neg (fun q => c1 ((q_i_lt hx (by decide)).mp q))]
    by_cases c2 : (q_nc2 d R : Int) ≤ x
    · rw [if_pos ((q_i_le ⟨by omega, by omega⟩ hx).mpr c2), if_neg (by omega)]
    · rw [if_neg (fun q => c2 ((q_i_le ⟨by omega, by omega⟩ hx).mp q)), show (128 : Int32) = q_i 128 from rfl, if_neg (by rw [q_i_le (by decide) hx]; omega), if_pos (by omega)]
theorem p_X0_copyHead {d R : Int} {z : q_Z} {c o : Nat} (hdc : q_dc d R) (h4 : q_d4 d) (hT : q_TC d R z) (hc : c < q_nc2 d R) : F_X0_copyHead o z (q_i c) = some ((), (z.1, q_v3 z.2 o (q_hd d R c))) := by
  have hle := q_nc2_le hdc h4
  have hn := q_TT_n hdc h4
  have s := q_hpl_spec hc
  have hb := q_LF_b hdc (q_hd_LF hdc h4 hc).1
  have hG := q_LF_G hdc (q_hd_LF hdc h4 hc).1
  obtain ⟨r5, r6, r7⟩ := hT.1.2 _ s.1
  have e9 := hT.2.2.2 c hc
  have ec : Int32.toNatClampNeg (q_i (c : Int)) = c := by rw [q_clamp ⟨by omega, by omega⟩]; omega
  have eh : Int32.toNatClampNeg (q_i (q_hpl d R c : Int)) = q_hpl d R c := by rw [q_clamp ⟨by omega, by omega⟩]; omega
  have b3 := hG.2.2.2.2
  unfold F_X0_copyHead
  rw [p_X0_hasClass hdc h4 hT ⟨by omega, by omega⟩, Option.bind_some, if_pos (by omega)]
  dsimp only
  rw [if_neg (by decide), q_i_toInt ⟨by omega, by omega⟩, if_pos (by omega), ec, e9, if_neg (by rw [q_i0, q_i_lt ⟨by omega, by omega⟩ (by decide)]; omega), if_neg (by rw [show (128 : Int32) = q_i 128 from rfl, q_i_le (by decide) ⟨by omega, by omega⟩]; omega), q_i_toInt ⟨by omega, by omega⟩, if_pos (by omega), eh, r5, r6, r7]
  have e1 : Int32.toInt64 (q_i ((q_TT d R).2 (q_hpl d R c)).1) = q_l (q_hd d R c).1 := q_l_i ⟨by have := hb.1; unfold q_hd at this; omega, by have := hb.2.1; unfold q_hd at this; omega⟩
  have e2 : Int32.toInt64 (q_i ((q_TT d R).2 (q_hpl d R c)).2.1) = q_l (q_hd d R c).2.1 := q_l_i ⟨by have := hb.2.2.1; unfold q_hd at this; omega, by have := hb.2.2.2.1; unfold q_hd at this; omega⟩
  have e3 : Int32.toInt64 (q_i ((q_TT d R).2 (q_hpl d R c)).2.2) = q_l (q_hd d R c).2.2 := q_l_i ⟨by have := b3.1; unfold q_hd at this; omega, by have := b3.2; unfold q_hd at this; omega⟩
  rw [e1, e2, e3]
  rfl
theorem p_X10_isClass {d R : Int} {z : q_Z} {x : Int} (hdc : q_dc d R) (h4 : q_d4 d) (h23 : z.1 128 23 = q_i (q_nc2 d R)) (hx : q_b x) : F_X10_isClass z (q_i x) = some (if 0 ≤ x ∧ x < q_nc2 d R then 1 else 0, z) := by
  have hle := q_nc2_le hdc h4
  unfold F_X10_isClass
  rw [h23, q_i1, q_i_sub, q_l_i hx, q_l_i (x := (q_nc2 d R : Int) - 1) ⟨by omega, by omega⟩, q_l0, p_X10_in (q_b_B hx) (by decide) ⟨by omega, by omega⟩, Option.bind_some]
  dsimp only
  by_cases c : 0 ≤ x ∧ x < q_nc2 d R
  · rw [if_pos c, if_pos (show 0 ≤ x ∧ x ≤ (q_nc2 d R : Int) - 1 by omega)]
    exact if_pos (Or.inr rfl)
  · rw [if_neg c, if_neg (show ¬ (0 ≤ x ∧ x ≤ (q_nc2 d R : Int) - 1) by omega)]
    exact if_pos (Or.inl rfl)
theorem k_classOf {s : q_SS} (hv : q_V s) (l1 : Int32) : q_cok (fun z => F_X9_classOf z l1) (fun z => F_X10_classOf z l1) s := by
  obtain ⟨x, hx, rfl⟩ := q_i_of l1
  have hn := hv.2.2.1
  by_cases c : 0 ≤ x ∧ x < s.2.1.1
  · have hG := hv.2.2.2.2.2.1 x.toNat (by omega)
    refine ⟨q_i (q_kls s.1.1 s.1.2.1 (q_red s.1.1 s.1.2.1 (s.2.1.2 x.toNat))), ((s.1.1, s.1.2.1, 0), s.2), hv, fun z hz => ?_, fun z hz => ?_⟩
    · obtain ⟨z1, a1, a2, a3, a4, -⟩ := p_prep hv hz
      obtain ⟨L2, b1, b2⟩ := p_X0_find (o := 19 + x.toNat) hv.1 hv.2.1 a2.1 a4 hG (a2.2.2.1.2 x.toNat (by omega))
      have k := q_C_X (z2 := (q_u2 z1.1 1 9 0, L2)) 0 a2 hv ⟨fun n h1 _ _ _ => q_u2_ne h1, fun n h0 _ _ _ _ _ => b2 n h0⟩ rfl
      refine ⟨(q_u2 z1.1 1 9 0, L2), ?_, k.1, q_fC_trans a3 k.2⟩
      show F_X9_classOf z (q_i x) = _
      unfold F_X9_classOf
      rw [p_X6_at hz.2.2.1.1 hn hx, Option.bind_some, if_pos c]
      dsimp only
      rw [a1, Option.bind_some]
      dsimp only
      rw [b1, Option.bind_some]
      rfl
    · obtain ⟨w2, b1⟩ := p_X10_classHere (I := q_u2 (q_u2 z.1 128 3 0) 128 2 0) (L := z.2) (w := (z.2 128 15, z.2 128 16, z.2 128 17, z.2 128 18)) hv.1 hz.1 (q_Mtab_fr hz.2.2.2.2.2.2 rfl rfl (fun n a b => by show q_u2 (q_u2 z.1 128 3 0) 128 2 0 n = _; rw [q_u2_ne (by omega), q_u2_ne (by omega)])) hG
      have k := q_M_work (z2 := (q_u2 (q_u2 z.1 128 3 0) 128 2 0, q_w7 z.2 (q_red s.1.1 s.1.2.1 (s.2.1.2 x.toNat)) w2)) 0 hz (q_MW_w7 (q_MW_t (z2 := (q_u2 z.1 128 3 0, z.2)) 0 (by decide) (q_MW_t (z2 := z) 0 (by decide) (q_MW_rfl z)))) rfl
      refine ⟨_, ?_, k.1, k.2⟩
      show F_X10_classOf z (q_i x) = _
      unfold F_X10_classOf
      rw [p_X10_isPlace (z := (q_u2 z.1 128 3 0, z.2)) (n := s.2.1.1) hz.2.2.1.1 hn hx, Option.bind_some, if_pos c]
      dsimp only
      rw [if_neg (by decide), p_X10_take (z := (q_u2 (q_u2 z.1 128 3 0) 128 2 0, z.2)) hz.2.2.1.2 hn c.1 c.2, Option.bind_some]
      dsimp only
      rw [b1, Option.bind_some]
  · refine q_cok_t hv (-1) 2 (fun z hz => ⟨(q_u2 z.1 1 9 2, z.2), ?_, q_CW_t 2 (q_CW_rfl z), rfl⟩) (fun z hz => ⟨(q_u2 (q_u2 z.1 128 3 0) 128 2 2, z.2), ?_, q_MW_t (z2 := (q_u2 z.1 128 3 0, z.2)) 2 (by decide) (q_MW_t (z2 := z) 0 (by decide) (q_MW_rfl z)), rfl⟩)
    · unfold F_X9_classOf
      rw [p_X6_at hz.2.2.1.1 hn hx, Option.bind_some, if_neg c]
      rfl
    · unfold F_X10_classOf
      rw [p_X10_isPlace (z := (q_u2 z.1 128 3 0, z.2)) (n := s.2.1.1) hz.2.2.1.1 hn hx, Option.bind_some, if_neg c]
      rfl
theorem k_head {s : q_SS} (hv : q_V s) (l1 l2 : Int32) : q_cok (fun z => F_X9_head z l1 l2) (fun z => F_X10_head z l1 l2) s := by
  obtain ⟨x, hx, rfl⟩ := q_i_of l1
  obtain ⟨y, hy, rfl⟩ := q_i_of l2
  have hle := q_nc2_le hv.1 hv.2.1
  have hc : ∀ k : Int, q_b k → (q_i y = q_i k ↔ y = k) := fun k hk => q_i_eq hy hk
  by_cases c : 0 ≤ x ∧ x < q_nc2 s.1.1 s.1.2.1
  · obtain ⟨X, rfl⟩ : ∃ X : Nat, x = X := ⟨x.toNat, by omega⟩
    have hX : X < q_nc2 s.1.1 s.1.2.1 := by omega
    have hLF := (q_hd_LF hv.1 hv.2.1 hX).1
    have hb := q_LF_b hv.1 hLF
    refine ⟨if y = 0 then q_i (q_hd s.1.1 s.1.2.1 X).1 else if y = 1 then q_i (q_hd s.1.1 s.1.2.1 X).2.1 else if y = 2 then q_i (q_hd s.1.1 s.1.2.1 X).2.2 else 0, s, hv, fun z hz => ?_, fun z hz => ?_⟩
    · obtain ⟨z1, a1, a2, a3, a4, -⟩ := p_prep hv hz
      have k := q_C_X (z2 := (z1.1, q_v3 z1.2 126 (q_hd s.1.1 s.1.2.1 X))) s.1.2.2 a2 hv ⟨fun n _ _ _ _ => rfl, fun n _ _ _ _ h6 _ => q_v3_ne h6⟩ a2.2.1
      refine ⟨(z1.1, q_v3 z1.2 126 (q_hd s.1.1 s.1.2.1 X)), ?_, k.1, q_fC_trans a3 k.2⟩
      show F_X9_head z (q_i X) (q_i y) = _
      obtain ⟨w0, w1, w2⟩ := q_v3_at z1.2 126 (q_hd s.1.1 s.1.2.1 X)
      unfold F_X9_head
      rw [a1, Option.bind_some]
      dsimp only
      rw [p_X0_hasClass hv.1 hv.2.1 a4 hx, Option.bind_some, if_pos c]
      dsimp only
      rw [if_neg (by decide), p_X0_copyHead hv.1 hv.2.1 a4 hX, Option.bind_some]
      dsimp only
      unfold F_X1_part
      dsimp only
      rw [w0, w1, w2, q_i_l, q_i_l, q_i_l, q_i0, q_i1, show (2 : Int32) = q_i 2 from rfl]
      simp only [hc 0 (by decide), hc 1 (by decide), hc 2 (by decide)]
      by_cases c0 : y = 0
      · simp only [if_pos c0, Option.bind_some]
      · simp only [if_neg c0]
        by_cases c1 : y = 1
        · simp only [if_pos c1, Option.bind_some]
        · simp only [if_neg c1]
          by_cases c2 : y = 2
          · simp only [if_pos c2, Option.bind_some]
          · simp only [if_neg c2, Option.bind_some]
    · have hM := hz.2.2.2.2.2.2
      obtain ⟨N, M, h0, h1, h2, h3, h4, h5, h6, h7, h8, h9⟩ := hM
      have hin : F_X10_in (q_u2 z.1 128 3 0, z.2) (Int32.toInt64 (q_i y)) 0 2 = _ := p_in_i (a := 0) (c := 2) hy (by decide) (by decide)
      have e7 : q_u2 z.1 128 3 0 137 X = q_i (q_hd s.1.1 s.1.2.1 X).1 := (congrFun (q_u2_ne (by decide)) X).trans (h9 X hX).1
      have e8 : q_u2 z.1 128 3 0 138 X = q_i (q_hd s.1.1 s.1.2.1 X).2.1 := (congrFun (q_u2_ne (by decide)) X).trans (h9 X hX).2
      have isf := p_X10_isFormLF (z := (q_u2 z.1 128 3 0, z.2)) hv.1 hz.1 hLF
      have ec : Int32.toNatClampNeg (q_i (X : Int)) = X := by rw [q_clamp ⟨by omega, by omega⟩]; omega
      by_cases cy : 0 ≤ y ∧ y ≤ 2
      · have k := q_M_work (z2 := (q_u2 z.1 128 3 0, q_w7 z.2 (q_hd s.1.1 s.1.2.1 X) (z.2 128 15, z.2 128 16, z.2 128 17, z.2 128 18))) s.1.2.2 hz (q_MW_w7 (q_MW_t (z2 := z) 0 (by decide) (q_MW_rfl z))) hz.2.1
        refine ⟨_, ?_, k.1, k.2⟩
        show F_X10_head z (q_i X) (q_i y) = _
        unfold F_X10_head
        rw [p_X10_isClass (z := (q_u2 z.1 128 3 0, z.2)) hv.1 hv.2.1 h8 hx, Option.bind_some, if_pos c]
        dsimp only
        rw [if_neg (by decide), hin, Option.bind_some, if_pos cy]
        dsimp only
        rw [if_neg (by decide), q_i_toInt ⟨by omega, by omega⟩, if_pos (by omega), ec, e7, e8, q_l_i ⟨by omega, by omega⟩, q_l_i ⟨by omega, by omega⟩, isf, Option.bind_some]
        dsimp only
        have : y = 0 ∨ y = 1 ∨ y = 2 := by omega
        rcases this with e | e | e
        · subst e
          rw [if_pos (by decide), if_pos rfl]
          show some (Int64.toInt32 (q_l (q_hd s.1.1 s.1.2.1 X).1), _) = _
          rw [q_i_l]
        · subst e
          rw [if_neg (by decide), if_pos (by decide), if_neg (by decide), if_pos rfl]
          show some (Int64.toInt32 (q_l (q_hd s.1.1 s.1.2.1 X).2.1), _) = _
          rw [q_i_l]
        · subst e
          rw [if_neg (by decide), if_neg (by decide), if_neg (by decide), if_neg (by decide), if_pos rfl]
          show some (Int64.toInt32 (q_l (q_hd s.1.1 s.1.2.1 X).2.2), _) = _
          rw [q_i_l]
      · have k := q_M_work (z2 := (q_u2 z.1 128 3 0, z.2)) s.1.2.2 hz (q_MW_t (z2 := z) 0 (by decide) (q_MW_rfl z)) hz.2.1
        refine ⟨_, ?_, k.1, k.2⟩
        show F_X10_head z (q_i X) (q_i y) = _
        unfold F_X10_head T_X10_head_26
        rw [p_X10_isClass (z := (q_u2 z.1 128 3 0, z.2)) hv.1 hv.2.1 h8 hx, Option.bind_some, if_pos c]
        dsimp only
        rw [if_neg (by decide), hin, Option.bind_some, if_neg cy]
        dsimp only
        rw [if_pos rfl, if_neg (by omega), if_neg (by omega), if_neg (by omega)]
  · refine ⟨0, s, hv, fun z hz => ?_, fun z hz => ?_⟩
    · obtain ⟨z1, a1, a2, a3, a4, -⟩ := p_prep hv hz
      refine ⟨z1, ?_, a2, a3⟩
      show F_X9_head z (q_i x) (q_i y) = _
      unfold F_X9_head
      rw [a1, Option.bind_some]
      dsimp only
      rw [p_X0_hasClass hv.1 hv.2.1 a4 hx, Option.bind_some, if_neg c]
      rfl
    · obtain ⟨N, M, h0, h1, h2, h3, h4, h5, h6, h7, h8, h9⟩ := hz.2.2.2.2.2.2
      have k := q_M_work (z2 := (q_u2 z.1 128 3 0, z.2)) s.1.2.2 hz (q_MW_t (z2 := z) 0 (by decide) (q_MW_rfl z)) hz.2.1
      refine ⟨_, ?_, k.1, k.2⟩
      show F_X10_head z (q_i x) (q_i y) = _
      unfold F_X10_head
      rw [p_X10_isClass (z := (q_u2 z.1 128 3 0, z.2)) hv.1 hv.2.1 h8 hx, Option.bind_some, if_neg c]
      rfl
theorem q_G_back {d : Int} {f : q_f3} (h : q_G d f) : q_G d (f.1, -f.2.1, f.2.2) := by
  obtain ⟨h1, h2, h3, ⟨h5, h6⟩, h4⟩ := h
  obtain ⟨a1, a2, a3, a4⟩ := h1
  refine ⟨⟨?_, a2, a3, a4⟩, ?_, h3, ⟨by show -1000000 ≤ -f.2.1; omega, by show -f.2.1 ≤ 1000000; omega⟩, h4⟩
  · show -f.2.1 * -f.2.1 - 4 * f.1 * f.2.2 = d
    rw [Int.neg_mul_neg]
    exact a1
  · show Int.gcd (Int.gcd f.1 (-f.2.1)) f.2.2 = 1
    rw [Int.gcd_neg]
    exact h2
theorem k_back {s : q_SS} (hv : q_V s) (l1 : Int32) : q_cok (fun z => F_X9_back z l1) (fun z => F_X10_back z l1) s := by
  obtain ⟨x, hx, rfl⟩ := q_i_of l1
  have hle := q_nc2_le hv.1 hv.2.1
  by_cases c : 0 ≤ x ∧ x < q_nc2 s.1.1 s.1.2.1
  · obtain ⟨X, rfl⟩ : ∃ X : Nat, x = X := ⟨x.toNat, by omega⟩
    have hX : X < q_nc2 s.1.1 s.1.2.1 := by omega
    have hLF := (q_hd_LF hv.1 hv.2.1 hX).1
    have hb := q_LF_b hv.1 hLF
    obtain ⟨f, hf⟩ : ∃ f, f = q_hd s.1.1 s.1.2.1 X := ⟨_, rfl⟩
    rw [← hf] at hLF hb
    have hG := q_G_back (q_LF_G hv.1 hLF)
    refine ⟨q_i (q_kls s.1.1 s.1.2.1 (q_red s.1.1 s.1.2.1 (f.1, -f.2.1, f.2.2))), ((s.1.1, s.1.2.1, 0), s.2), hv, fun z hz => ?_, fun z hz => ?_⟩
    · obtain ⟨z1, a1, a2, a3, a4, -⟩ := p_prep hv hz
      obtain ⟨w0, w1, w2⟩ := q_v3_at z1.2 126 f
      have h3 : q_3 (q_u2 (q_v3 z1.2 126 f) 126 1 (-(q_v3 z1.2 126 f 126 1)) 126) 0 (f.1, -f.2.1, f.2.2) := by
        refine ⟨?_, ?_, ?_⟩
        · rw [q_u2_at, if_neg (by decide)]; exact w0
        · rw [q_u2_at, if_pos rfl, w1, q_l_neg]
        · rw [q_u2_at, if_neg (by decide)]; exact w2
      obtain ⟨L2, b1, b2⟩ := p_X0_find (o := 126) (z := (z1.1, q_u2 (q_v3 z1.2 126 f) 126 1 (-(q_v3 z1.2 126 f 126 1)))) hv.1 hv.2.1 a2.1 a4 hG h3
      have k := q_C_X (z2 := (q_u2 z1.1 1 9 0, L2)) 0 a2 hv ⟨fun n h1 _ _ _ => q_u2_ne h1, fun n h0 _ _ _ h6 _ => (b2 n h0).trans (by show q_u2 (q_v3 z1.2 126 f) 126 1 (-(q_v3 z1.2 126 f 126 1)) n = z1.2 n; rw [q_u2_ne h6, q_v3_ne h6])⟩ rfl
      refine ⟨(q_u2 z1.1 1 9 0, L2), ?_, k.1, q_fC_trans a3 k.2⟩
      show F_X9_back z (q_i X) = _
      unfold F_X9_back
      rw [a1, Option.bind_some]
      dsimp only
      rw [p_X0_hasClass hv.1 hv.2.1 a4 hx, Option.bind_some, if_pos c]
      dsimp only
      rw [if_neg (by decide), p_X0_copyHead hv.1 hv.2.1 a4 hX, Option.bind_some, ← hf]
      dsimp only
      rw [b1, Option.bind_some]
      rfl
    · obtain ⟨N, M, h0, h1, h2, h3, h4, h5, h6, h7, h8, h9⟩ := hz.2.2.2.2.2.2
      have hdb : -4000 ≤ s.1.1 ∧ s.1.1 ≤ 4000 := by rcases hv.1 with q | q <;> omega
      have e7 : q_u2 z.1 128 3 0 137 X = q_i f.1 := by rw [hf]; exact (congrFun (q_u2_ne (by decide)) X).trans (h9 X hX).1
      have e8 : q_u2 z.1 128 3 0 138 X = q_i f.2.1 := by rw [hf]; exact (congrFun (q_u2_ne (by decide)) X).trans (h9 X hX).2
      have ec : Int32.toNatClampNeg (q_i (X : Int)) = X := by rw [q_clamp ⟨by omega, by omega⟩]; omega
      have isf := p_X10_isForm_yes (z := (q_u2 (q_u2 z.1 128 3 0) 128 2 0, z.2)) (d := s.1.1) (a := f.1) (b := -f.2.1) (c := f.2.2) hz.1.1 hdb ⟨by omega, by omega⟩ ⟨by omega, by omega⟩ hG.1.2.1 (fun q => by have := (hG.1.2.2.2 q.1).1; have q2 := q.2; simp only at this; omega) (by have := hG.1.1; simp only at this; omega)
      have gg : Int.gcd (Int.gcd f.1 (-f.2.1)) f.2.2 = 1 := hG.2.1
      rw [if_pos gg] at isf
      have e2 := q_w7_take z.2 (f.1, -f.2.1, f.2.2)
      have isf : F_X10_isForm (q_u2 (q_u2 z.1 128 3 0) 128 2 0, z.2) (q_l f.1) (q_l (-f.2.1)) = some (1, (q_u2 (q_u2 z.1 128 3 0) 128 2 0, q_w7 z.2 (f.1, -f.2.1, f.2.2) (z.2 128 15, z.2 128 16, z.2 128 17, z.2 128 18))) := by
        rw [← e2]
        exact isf
      obtain ⟨w2, b1⟩ := p_X10_classHere (I := q_u2 (q_u2 z.1 128 3 0) 128 2 0) (L := z.2) (w := (z.2 128 15, z.2 128 16, z.2 128 17, z.2 128 18)) hv.1 hz.1 (q_Mtab_fr hz.2.2.2.2.2.2 rfl rfl (fun n a b => by show q_u2 (q_u2 z.1 128 3 0) 128 2 0 n = _; rw [q_u2_ne (by omega), q_u2_ne (by omega)])) hG
      have k := q_M_work (z2 := (q_u2 (q_u2 z.1 128 3 0) 128 2 0, q_w7 z.2 (q_red s.1.1 s.1.2.1 (f.1, -f.2.1, f.2.2)) w2)) 0 hz (q_MW_w7 (q_MW_t (z2 := (q_u2 z.1 128 3 0, z.2)) 0 (by decide) (q_MW_t (z2 := z) 0 (by decide) (q_MW_rfl z)))) rfl
      refine ⟨_, ?_, k.1, k.2⟩
      show F_X10_back z (q_i X) = _
      unfold F_X10_back
      rw [p_X10_isClass (z := (q_u2 z.1 128 3 0, z.2)) hv.1 hv.2.1 h8 hx, Option.bind_some, if_pos c]
      dsimp only
      rw [if_neg (by decide), q_i_toInt ⟨by omega, by omega⟩, if_pos (by omega), ec, e7, e8, q_i_neg, q_l_i ⟨by omega, by omega⟩, q_l_i ⟨by omega, by omega⟩, isf, Option.bind_some]
      dsimp only
      rw [b1, Option.bind_some]
  · refine ⟨-1, ((s.1.1, s.1.2.1, 2), s.2), hv, fun z hz => ?_, fun z hz => ?_⟩
    · obtain ⟨z1, a1, a2, a3, a4, -⟩ := p_prep hv hz
      have k := q_C_t0 a2 hv 2
      refine ⟨_, ?_, k.1, q_fC_trans a3 k.2⟩
      show F_X9_back z (q_i x) = _
      unfold F_X9_back
      rw [a1, Option.bind_some]
      dsimp only
      rw [p_X0_hasClass hv.1 hv.2.1 a4 hx, Option.bind_some, if_neg c]
      rfl
    · obtain ⟨N, M, h0, h1, h2, h3, h4, h5, h6, h7, h8, h9⟩ := hz.2.2.2.2.2.2
      have k := q_M_work (z2 := (q_u2 (q_u2 z.1 128 3 0) 128 2 2, z.2)) 2 hz (q_MW_t (z2 := (q_u2 z.1 128 3 0, z.2)) 2 (by decide) (q_MW_t (z2 := z) 0 (by decide) (q_MW_rfl z))) rfl
      refine ⟨_, ?_, k.1, k.2⟩
      show F_X10_back z (q_i x) = _
      unfold F_X10_back
      rw [p_X10_isClass (z := (q_u2 z.1 128 3 0, z.2)) hv.1 hv.2.1 h8 hx, Option.bind_some, if_neg c]
      rfl
